section
-- ===== PART A: goes FIRST, ahead of the names: the tables' words, and 'selects' of the private methods out of them =====
/-- a private method of a class that the tables say can be made, by its rows of tables_1 -/
def lw_okq (q : MethodName × Nat) : Prop := (q.1.cls ≠ "java/lang/invoke/MethodHandle" ∧ q.1.cls ≠ "java/lang/invoke/VarHandle") ∧ Cond.instantiable q.1.cls q.2 ∈ tables_1 ∧ Cond.privateMethod q.1 ∈ tables_1 ∧ Cond.instanceMethod q.1 ∈ tables_1
theorem lw_p0 : lw_okq (⟨"WellMoods$Folk", "add", "(III)I"⟩, 5) := ⟨⟨by decide +kernel, by decide +kernel⟩, List.mem_of_getElem? (i := 26) (by decide +kernel), List.mem_of_getElem? (i := 227) (by decide +kernel), List.mem_of_getElem? (i := 228) (by decide +kernel)⟩
theorem lw_p1 : lw_okq (⟨"WellMoods$Folk", "has", "(I)Z"⟩, 5) := ⟨⟨by decide +kernel, by decide +kernel⟩, List.mem_of_getElem? (i := 26) (by decide +kernel), List.mem_of_getElem? (i := 235) (by decide +kernel), List.mem_of_getElem? (i := 236) (by decide +kernel)⟩
theorem lw_p2 : lw_okq (⟨"WellMoods$Folk", "areFoes", "(II)Z"⟩, 5) := ⟨⟨by decide +kernel, by decide +kernel⟩, List.mem_of_getElem? (i := 26) (by decide +kernel), List.mem_of_getElem? (i := 244) (by decide +kernel), List.mem_of_getElem? (i := 245) (by decide +kernel)⟩
theorem lw_p3 : lw_okq (⟨"WellMoods$Folk", "makeFoes", "(IIZ)V"⟩, 5) := ⟨⟨by decide +kernel, by decide +kernel⟩, List.mem_of_getElem? (i := 26) (by decide +kernel), List.mem_of_getElem? (i := 249) (by decide +kernel), List.mem_of_getElem? (i := 250) (by decide +kernel)⟩
theorem lw_p4 : lw_okq (⟨"WellMoods$Tape", "append", "(I)V"⟩, 3) := ⟨⟨by decide +kernel, by decide +kernel⟩, List.mem_of_getElem? (i := 112) (by decide +kernel), List.mem_of_getElem? (i := 274) (by decide +kernel), List.mem_of_getElem? (i := 275) (by decide +kernel)⟩
theorem lw_p5 : lw_okq (⟨"WellMoods$Tape", "readFolk", "(LWellMoods$Folk;)I"⟩, 3) := ⟨⟨by decide +kernel, by decide +kernel⟩, List.mem_of_getElem? (i := 112) (by decide +kernel), List.mem_of_getElem? (i := 282) (by decide +kernel), List.mem_of_getElem? (i := 283) (by decide +kernel)⟩
theorem lw_p6 : lw_okq (⟨"WellMoods$Tape", "readOne", "(LWellMoods$Folk;)Z"⟩, 3) := ⟨⟨by decide +kernel, by decide +kernel⟩, List.mem_of_getElem? (i := 112) (by decide +kernel), List.mem_of_getElem? (i := 286) (by decide +kernel), List.mem_of_getElem? (i := 287) (by decide +kernel)⟩
theorem lw_p7 : lw_okq (⟨"WellMoods$Tape", "next", "()I"⟩, 3) := ⟨⟨by decide +kernel, by decide +kernel⟩, List.mem_of_getElem? (i := 112) (by decide +kernel), List.mem_of_getElem? (i := 290) (by decide +kernel), List.mem_of_getElem? (i := 291) (by decide +kernel)⟩
theorem lw_p8 : lw_okq (⟨"WellMoods$Tape", "readDigit", "(II)I"⟩, 3) := ⟨⟨by decide +kernel, by decide +kernel⟩, List.mem_of_getElem? (i := 112) (by decide +kernel), List.mem_of_getElem? (i := 297) (by decide +kernel), List.mem_of_getElem? (i := 298) (by decide +kernel)⟩
theorem lw_p9 : lw_okq (⟨"WellMoods$Tape", "fault", "()I"⟩, 3) := ⟨⟨by decide +kernel, by decide +kernel⟩, List.mem_of_getElem? (i := 112) (by decide +kernel), List.mem_of_getElem? (i := 303) (by decide +kernel), List.mem_of_getElem? (i := 304) (by decide +kernel)⟩
theorem lw_p10 : lw_okq (⟨"WellMoods$Well", "settle", "(LWellMoods$Folk;)V"⟩, 12) := ⟨⟨by decide +kernel, by decide +kernel⟩, List.mem_of_getElem? (i := 20) (by decide +kernel), List.mem_of_getElem? (i := 307) (by decide +kernel), List.mem_of_getElem? (i := 308) (by decide +kernel)⟩
theorem lw_p11 : lw_okq (⟨"WellMoods$Folk", "become", "(LWellMoods$Folk;)V"⟩, 5) := ⟨⟨by decide +kernel, by decide +kernel⟩, List.mem_of_getElem? (i := 26) (by decide +kernel), List.mem_of_getElem? (i := 311) (by decide +kernel), List.mem_of_getElem? (i := 312) (by decide +kernel)⟩
theorem lw_p12 : lw_okq (⟨"WellMoods$Tape", "readPlan", "([ILWellMoods$Folk;)I"⟩, 3) := ⟨⟨by decide +kernel, by decide +kernel⟩, List.mem_of_getElem? (i := 112) (by decide +kernel), List.mem_of_getElem? (i := 319) (by decide +kernel), List.mem_of_getElem? (i := 320) (by decide +kernel)⟩
theorem lw_p13 : lw_okq (⟨"WellMoods$Well", "adopt", "([II)V"⟩, 12) := ⟨⟨by decide +kernel, by decide +kernel⟩, List.mem_of_getElem? (i := 20) (by decide +kernel), List.mem_of_getElem? (i := 324) (by decide +kernel), List.mem_of_getElem? (i := 325) (by decide +kernel)⟩
theorem lw_p14 : lw_okq (⟨"WellMoods$Well", "mayDraw", "(I)Z"⟩, 12) := ⟨⟨by decide +kernel, by decide +kernel⟩, List.mem_of_getElem? (i := 20) (by decide +kernel), List.mem_of_getElem? (i := 338) (by decide +kernel), List.mem_of_getElem? (i := 339) (by decide +kernel)⟩
theorem lw_p15 : lw_okq (⟨"WellMoods$Well", "hasHours", "(I)Z"⟩, 12) := ⟨⟨by decide +kernel, by decide +kernel⟩, List.mem_of_getElem? (i := 20) (by decide +kernel), List.mem_of_getElem? (i := 347) (by decide +kernel), List.mem_of_getElem? (i := 348) (by decide +kernel)⟩
def lw_privs_1 : List (MethodName × Nat) := [(⟨"WellMoods$Folk", "add", "(III)I"⟩, 5), (⟨"WellMoods$Folk", "has", "(I)Z"⟩, 5), (⟨"WellMoods$Folk", "areFoes", "(II)Z"⟩, 5), (⟨"WellMoods$Folk", "makeFoes", "(IIZ)V"⟩, 5), (⟨"WellMoods$Tape", "append", "(I)V"⟩, 3), (⟨"WellMoods$Tape", "readFolk", "(LWellMoods$Folk;)I"⟩, 3), (⟨"WellMoods$Tape", "readOne", "(LWellMoods$Folk;)Z"⟩, 3), (⟨"WellMoods$Tape", "next", "()I"⟩, 3), (⟨"WellMoods$Tape", "readDigit", "(II)I"⟩, 3), (⟨"WellMoods$Tape", "fault", "()I"⟩, 3), (⟨"WellMoods$Well", "settle", "(LWellMoods$Folk;)V"⟩, 12), (⟨"WellMoods$Folk", "become", "(LWellMoods$Folk;)V"⟩, 5), (⟨"WellMoods$Tape", "readPlan", "([ILWellMoods$Folk;)I"⟩, 3), (⟨"WellMoods$Well", "adopt", "([II)V"⟩, 12), (⟨"WellMoods$Well", "mayDraw", "(I)Z"⟩, 12), (⟨"WellMoods$Well", "hasHours", "(I)Z"⟩, 12)]
theorem lw_r1 : ∀ q ∈ lw_privs_1, lw_okq q := List.forall_mem_cons.mpr ⟨lw_p0, List.forall_mem_cons.mpr ⟨lw_p1, List.forall_mem_cons.mpr ⟨lw_p2, List.forall_mem_cons.mpr ⟨lw_p3, List.forall_mem_cons.mpr ⟨lw_p4, List.forall_mem_cons.mpr ⟨lw_p5, List.forall_mem_cons.mpr ⟨lw_p6, List.forall_mem_cons.mpr ⟨lw_p7, List.forall_mem_cons.mpr ⟨lw_p8, List.forall_mem_cons.mpr ⟨lw_p9, List.forall_mem_cons.mpr ⟨lw_p10, List.forall_mem_cons.mpr ⟨lw_p11, List.forall_mem_cons.mpr ⟨lw_p12, List.forall_mem_cons.mpr ⟨lw_p13, List.forall_mem_cons.mpr ⟨lw_p14, List.forall_mem_cons.mpr ⟨lw_p15, fun _ h => absurd h List.not_mem_nil⟩⟩⟩⟩⟩⟩⟩⟩⟩⟩⟩⟩⟩⟩⟩⟩
theorem lw_p16 : lw_okq (⟨"WellMoods$Well", "passHour", "(I)I"⟩, 12) := ⟨⟨by decide +kernel, by decide +kernel⟩, List.mem_of_getElem? (i := 20) (by decide +kernel), List.mem_of_getElem? (i := 351) (by decide +kernel), List.mem_of_getElem? (i := 352) (by decide +kernel)⟩
theorem lw_p17 : lw_okq (⟨"WellMoods$Well", "drawBy", "(I)I"⟩, 12) := ⟨⟨by decide +kernel, by decide +kernel⟩, List.mem_of_getElem? (i := 20) (by decide +kernel), List.mem_of_getElem? (i := 356) (by decide +kernel), List.mem_of_getElem? (i := 357) (by decide +kernel)⟩
theorem lw_p18 : lw_okq (⟨"WellMoods$Folk", "pailsBehind", "(IIII)I"⟩, 5) := ⟨⟨by decide +kernel, by decide +kernel⟩, List.mem_of_getElem? (i := 26) (by decide +kernel), List.mem_of_getElem? (i := 360) (by decide +kernel), List.mem_of_getElem? (i := 361) (by decide +kernel)⟩
theorem lw_p19 : lw_okq (⟨"WellMoods$Folk", "pailsAt", "(II)I"⟩, 5) := ⟨⟨by decide +kernel, by decide +kernel⟩, List.mem_of_getElem? (i := 26) (by decide +kernel), List.mem_of_getElem? (i := 365) (by decide +kernel), List.mem_of_getElem? (i := 366) (by decide +kernel)⟩
theorem lw_p20 : lw_okq (⟨"WellMoods$Folk", "isSweet", "(II)Z"⟩, 5) := ⟨⟨by decide +kernel, by decide +kernel⟩, List.mem_of_getElem? (i := 26) (by decide +kernel), List.mem_of_getElem? (i := 373) (by decide +kernel), List.mem_of_getElem? (i := 374) (by decide +kernel)⟩
theorem lw_p21 : lw_okq (⟨"WellMoods$Folk", "moodBehind", "(II)I"⟩, 5) := ⟨⟨by decide +kernel, by decide +kernel⟩, List.mem_of_getElem? (i := 26) (by decide +kernel), List.mem_of_getElem? (i := 377) (by decide +kernel), List.mem_of_getElem? (i := 378) (by decide +kernel)⟩
theorem lw_p22 : lw_okq (⟨"WellMoods$Well", "endHour", "()V"⟩, 12) := ⟨⟨by decide +kernel, by decide +kernel⟩, List.mem_of_getElem? (i := 20) (by decide +kernel), List.mem_of_getElem? (i := 386) (by decide +kernel), List.mem_of_getElem? (i := 387) (by decide +kernel)⟩
theorem lw_p23 : lw_okq (⟨"WellMoods$Well", "followPlan", "()I"⟩, 12) := ⟨⟨by decide +kernel, by decide +kernel⟩, List.mem_of_getElem? (i := 20) (by decide +kernel), List.mem_of_getElem? (i := 408) (by decide +kernel), List.mem_of_getElem? (i := 409) (by decide +kernel)⟩
theorem lw_p24 : lw_okq (⟨"WellMoods", "mostFrom", "(II)I"⟩, 8) := ⟨⟨by decide +kernel, by decide +kernel⟩, List.mem_of_getElem? (i := 12) (by decide +kernel), List.mem_of_getElem? (i := 417) (by decide +kernel), List.mem_of_getElem? (i := 418) (by decide +kernel)⟩
theorem lw_p25 : lw_okq (⟨"WellMoods$Search", "observe", "(LWellMoods$Well;)V"⟩, 9) := ⟨⟨by decide +kernel, by decide +kernel⟩, List.mem_of_getElem? (i := 132) (by decide +kernel), List.mem_of_getElem? (i := 421) (by decide +kernel), List.mem_of_getElem? (i := 422) (by decide +kernel)⟩
theorem lw_p26 : lw_okq (⟨"WellMoods$Search", "mostIn", "(II)I"⟩, 9) := ⟨⟨by decide +kernel, by decide +kernel⟩, List.mem_of_getElem? (i := 132) (by decide +kernel), List.mem_of_getElem? (i := 427) (by decide +kernel), List.mem_of_getElem? (i := 428) (by decide +kernel)⟩
theorem lw_p27 : lw_okq (⟨"WellMoods$Search", "tryHour", "(IIIII)V"⟩, 9) := ⟨⟨by decide +kernel, by decide +kernel⟩, List.mem_of_getElem? (i := 132) (by decide +kernel), List.mem_of_getElem? (i := 432) (by decide +kernel), List.mem_of_getElem? (i := 433) (by decide +kernel)⟩
theorem lw_p28 : lw_okq (⟨"WellMoods$Search", "keep", "(I)V"⟩, 9) := ⟨⟨by decide +kernel, by decide +kernel⟩, List.mem_of_getElem? (i := 132) (by decide +kernel), List.mem_of_getElem? (i := 436) (by decide +kernel), List.mem_of_getElem? (i := 437) (by decide +kernel)⟩
theorem lw_p29 : lw_okq (⟨"WellMoods$Search", "tryDrawing", "(IIIIII)V"⟩, 9) := ⟨⟨by decide +kernel, by decide +kernel⟩, List.mem_of_getElem? (i := 132) (by decide +kernel), List.mem_of_getElem? (i := 440) (by decide +kernel), List.mem_of_getElem? (i := 441) (by decide +kernel)⟩
theorem lw_p30 : lw_okq (⟨"WellMoods", "mostInPeace", "(II)I"⟩, 8) := ⟨⟨by decide +kernel, by decide +kernel⟩, List.mem_of_getElem? (i := 12) (by decide +kernel), List.mem_of_getElem? (i := 461) (by decide +kernel), List.mem_of_getElem? (i := 462) (by decide +kernel)⟩
theorem lw_p31 : lw_okq (⟨"WellMoods$Well", "givesAt", "(II)I"⟩, 12) := ⟨⟨by decide +kernel, by decide +kernel⟩, List.mem_of_getElem? (i := 20) (by decide +kernel), List.mem_of_getElem? (i := 469) (by decide +kernel), List.mem_of_getElem? (i := 470) (by decide +kernel)⟩
def lw_privs_2 : List (MethodName × Nat) := [(⟨"WellMoods$Well", "passHour", "(I)I"⟩, 12), (⟨"WellMoods$Well", "drawBy", "(I)I"⟩, 12), (⟨"WellMoods$Folk", "pailsBehind", "(IIII)I"⟩, 5), (⟨"WellMoods$Folk", "pailsAt", "(II)I"⟩, 5), (⟨"WellMoods$Folk", "isSweet", "(II)Z"⟩, 5), (⟨"WellMoods$Folk", "moodBehind", "(II)I"⟩, 5), (⟨"WellMoods$Well", "endHour", "()V"⟩, 12), (⟨"WellMoods$Well", "followPlan", "()I"⟩, 12), (⟨"WellMoods", "mostFrom", "(II)I"⟩, 8), (⟨"WellMoods$Search", "observe", "(LWellMoods$Well;)V"⟩, 9), (⟨"WellMoods$Search", "mostIn", "(II)I"⟩, 9), (⟨"WellMoods$Search", "tryHour", "(IIIII)V"⟩, 9), (⟨"WellMoods$Search", "keep", "(I)V"⟩, 9), (⟨"WellMoods$Search", "tryDrawing", "(IIIIII)V"⟩, 9), (⟨"WellMoods", "mostInPeace", "(II)I"⟩, 8), (⟨"WellMoods$Well", "givesAt", "(II)I"⟩, 12)]
theorem lw_r2 : ∀ q ∈ lw_privs_2, lw_okq q := List.forall_mem_cons.mpr ⟨lw_p16, List.forall_mem_cons.mpr ⟨lw_p17, List.forall_mem_cons.mpr ⟨lw_p18, List.forall_mem_cons.mpr ⟨lw_p19, List.forall_mem_cons.mpr ⟨lw_p20, List.forall_mem_cons.mpr ⟨lw_p21, List.forall_mem_cons.mpr ⟨lw_p22, List.forall_mem_cons.mpr ⟨lw_p23, List.forall_mem_cons.mpr ⟨lw_p24, List.forall_mem_cons.mpr ⟨lw_p25, List.forall_mem_cons.mpr ⟨lw_p26, List.forall_mem_cons.mpr ⟨lw_p27, List.forall_mem_cons.mpr ⟨lw_p28, List.forall_mem_cons.mpr ⟨lw_p29, List.forall_mem_cons.mpr ⟨lw_p30, List.forall_mem_cons.mpr ⟨lw_p31, fun _ h => absurd h List.not_mem_nil⟩⟩⟩⟩⟩⟩⟩⟩⟩⟩⟩⟩⟩⟩⟩⟩
theorem lw_p32 : lw_okq (⟨"WellMoods", "isTale", "(III)Z"⟩, 8) := ⟨⟨by decide +kernel, by decide +kernel⟩, List.mem_of_getElem? (i := 12) (by decide +kernel), List.mem_of_getElem? (i := 489) (by decide +kernel), List.mem_of_getElem? (i := 490) (by decide +kernel)⟩
theorem lw_p33 : lw_okq (⟨"WellMoods$Well", "lot", "()I"⟩, 12) := ⟨⟨by decide +kernel, by decide +kernel⟩, List.mem_of_getElem? (i := 20) (by decide +kernel), List.mem_of_getElem? (i := 501) (by decide +kernel), List.mem_of_getElem? (i := 502) (by decide +kernel)⟩
theorem lw_p34 : lw_okq (⟨"WellMoods$Well", "become", "(LWellMoods$Well;)V"⟩, 12) := ⟨⟨by decide +kernel, by decide +kernel⟩, List.mem_of_getElem? (i := 20) (by decide +kernel), List.mem_of_getElem? (i := 517) (by decide +kernel), List.mem_of_getElem? (i := 518) (by decide +kernel)⟩
theorem lw_p35 : lw_okq (⟨"WellMoods", "refusal", "(IIII)I"⟩, 8) := ⟨⟨by decide +kernel, by decide +kernel⟩, List.mem_of_getElem? (i := 12) (by decide +kernel), List.mem_of_getElem? (i := 529) (by decide +kernel), List.mem_of_getElem? (i := 530) (by decide +kernel)⟩
theorem lw_p36 : lw_okq (⟨"WellMoods$Sheet", "hasSpan", "(II)Z"⟩, 4) := ⟨⟨by decide +kernel, by decide +kernel⟩, List.mem_of_getElem? (i := 171) (by decide +kernel), List.mem_of_getElem? (i := 539) (by decide +kernel), List.mem_of_getElem? (i := 540) (by decide +kernel)⟩
theorem lw_p37 : lw_okq (⟨"WellMoods", "areDrawings", "(LWellMoods$Sheet;II)Z"⟩, 8) := ⟨⟨by decide +kernel, by decide +kernel⟩, List.mem_of_getElem? (i := 12) (by decide +kernel), List.mem_of_getElem? (i := 543) (by decide +kernel), List.mem_of_getElem? (i := 544) (by decide +kernel)⟩
theorem lw_p38 : lw_okq (⟨"WellMoods", "fitsFrom", "(ILWellMoods$Sheet;II)Z"⟩, 8) := ⟨⟨by decide +kernel, by decide +kernel⟩, List.mem_of_getElem? (i := 12) (by decide +kernel), List.mem_of_getElem? (i := 547) (by decide +kernel), List.mem_of_getElem? (i := 548) (by decide +kernel)⟩
theorem lw_p39 : lw_okq (⟨"WellMoods$Sheet", "put", "(IJ)V"⟩, 4) := ⟨⟨by decide +kernel, by decide +kernel⟩, List.mem_of_getElem? (i := 171) (by decide +kernel), List.mem_of_getElem? (i := 556) (by decide +kernel), List.mem_of_getElem? (i := 557) (by decide +kernel)⟩
theorem lw_p40 : lw_okq (⟨"WellMoods$Sheet", "begin", "(II)V"⟩, 4) := ⟨⟨by decide +kernel, by decide +kernel⟩, List.mem_of_getElem? (i := 171) (by decide +kernel), List.mem_of_getElem? (i := 564) (by decide +kernel), List.mem_of_getElem? (i := 565) (by decide +kernel)⟩
theorem lw_p41 : lw_okq (⟨"WellMoodsModel", "add", "(III)V"⟩, 36) := ⟨⟨by decide +kernel, by decide +kernel⟩, List.mem_of_getElem? (i := 581) (by decide +kernel), List.mem_of_getElem? (i := 706) (by decide +kernel), List.mem_of_getElem? (i := 707) (by decide +kernel)⟩
theorem lw_p42 : lw_okq (⟨"WellMoodsModel", "isOne", "(I)Z"⟩, 36) := ⟨⟨by decide +kernel, by decide +kernel⟩, List.mem_of_getElem? (i := 581) (by decide +kernel), List.mem_of_getElem? (i := 714) (by decide +kernel), List.mem_of_getElem? (i := 715) (by decide +kernel)⟩
theorem lw_p43 : lw_okq (⟨"WellMoodsModel", "setQuarrel", "(IIZ)V"⟩, 36) := ⟨⟨by decide +kernel, by decide +kernel⟩, List.mem_of_getElem? (i := 581) (by decide +kernel), List.mem_of_getElem? (i := 724) (by decide +kernel), List.mem_of_getElem? (i := 725) (by decide +kernel)⟩
theorem lw_p44 : lw_okq (⟨"WellMoodsModel", "readVillage", "()Z"⟩, 36) := ⟨⟨by decide +kernel, by decide +kernel⟩, List.mem_of_getElem? (i := 581) (by decide +kernel), List.mem_of_getElem? (i := 754) (by decide +kernel), List.mem_of_getElem? (i := 755) (by decide +kernel)⟩
theorem lw_p45 : lw_okq (⟨"WellMoodsModel", "readOne", "(I)Z"⟩, 36) := ⟨⟨by decide +kernel, by decide +kernel⟩, List.mem_of_getElem? (i := 581) (by decide +kernel), List.mem_of_getElem? (i := 758) (by decide +kernel), List.mem_of_getElem? (i := 759) (by decide +kernel)⟩
theorem lw_p46 : lw_okq (⟨"WellMoodsModel", "nextByte", "()I"⟩, 36) := ⟨⟨by decide +kernel, by decide +kernel⟩, List.mem_of_getElem? (i := 581) (by decide +kernel), List.mem_of_getElem? (i := 762) (by decide +kernel), List.mem_of_getElem? (i := 763) (by decide +kernel)⟩
theorem lw_p47 : lw_okq (⟨"WellMoodsModel", "readDigit", "(II)I"⟩, 36) := ⟨⟨by decide +kernel, by decide +kernel⟩, List.mem_of_getElem? (i := 581) (by decide +kernel), List.mem_of_getElem? (i := 766) (by decide +kernel), List.mem_of_getElem? (i := 767) (by decide +kernel)⟩
def lw_privs_3 : List (MethodName × Nat) := [(⟨"WellMoods", "isTale", "(III)Z"⟩, 8), (⟨"WellMoods$Well", "lot", "()I"⟩, 12), (⟨"WellMoods$Well", "become", "(LWellMoods$Well;)V"⟩, 12), (⟨"WellMoods", "refusal", "(IIII)I"⟩, 8), (⟨"WellMoods$Sheet", "hasSpan", "(II)Z"⟩, 4), (⟨"WellMoods", "areDrawings", "(LWellMoods$Sheet;II)Z"⟩, 8), (⟨"WellMoods", "fitsFrom", "(ILWellMoods$Sheet;II)Z"⟩, 8), (⟨"WellMoods$Sheet", "put", "(IJ)V"⟩, 4), (⟨"WellMoods$Sheet", "begin", "(II)V"⟩, 4), (⟨"WellMoodsModel", "add", "(III)V"⟩, 36), (⟨"WellMoodsModel", "isOne", "(I)Z"⟩, 36), (⟨"WellMoodsModel", "setQuarrel", "(IIZ)V"⟩, 36), (⟨"WellMoodsModel", "readVillage", "()Z"⟩, 36), (⟨"WellMoodsModel", "readOne", "(I)Z"⟩, 36), (⟨"WellMoodsModel", "nextByte", "()I"⟩, 36), (⟨"WellMoodsModel", "readDigit", "(II)I"⟩, 36)]
theorem lw_r3 : ∀ q ∈ lw_privs_3, lw_okq q := List.forall_mem_cons.mpr ⟨lw_p32, List.forall_mem_cons.mpr ⟨lw_p33, List.forall_mem_cons.mpr ⟨lw_p34, List.forall_mem_cons.mpr ⟨lw_p35, List.forall_mem_cons.mpr ⟨lw_p36, List.forall_mem_cons.mpr ⟨lw_p37, List.forall_mem_cons.mpr ⟨lw_p38, List.forall_mem_cons.mpr ⟨lw_p39, List.forall_mem_cons.mpr ⟨lw_p40, List.forall_mem_cons.mpr ⟨lw_p41, List.forall_mem_cons.mpr ⟨lw_p42, List.forall_mem_cons.mpr ⟨lw_p43, List.forall_mem_cons.mpr ⟨lw_p44, List.forall_mem_cons.mpr ⟨lw_p45, List.forall_mem_cons.mpr ⟨lw_p46, List.forall_mem_cons.mpr ⟨lw_p47, fun _ h => absurd h List.not_mem_nil⟩⟩⟩⟩⟩⟩⟩⟩⟩⟩⟩⟩⟩⟩⟩⟩
theorem lw_p48 : lw_okq (⟨"WellMoodsModel", "readPlan", "()Z"⟩, 36) := ⟨⟨by decide +kernel, by decide +kernel⟩, List.mem_of_getElem? (i := 581) (by decide +kernel), List.mem_of_getElem? (i := 774) (by decide +kernel), List.mem_of_getElem? (i := 775) (by decide +kernel)⟩
theorem lw_p49 : lw_okq (⟨"WellMoodsModel", "goOn", "(I)I"⟩, 36) := ⟨⟨by decide +kernel, by decide +kernel⟩, List.mem_of_getElem? (i := 581) (by decide +kernel), List.mem_of_getElem? (i := 786) (by decide +kernel), List.mem_of_getElem? (i := 787) (by decide +kernel)⟩
theorem lw_p50 : lw_okq (⟨"WellMoodsModel", "begin", "()V"⟩, 36) := ⟨⟨by decide +kernel, by decide +kernel⟩, List.mem_of_getElem? (i := 581) (by decide +kernel), List.mem_of_getElem? (i := 790) (by decide +kernel), List.mem_of_getElem? (i := 791) (by decide +kernel)⟩
theorem lw_p51 : lw_okq (⟨"WellMoodsModel", "tryOne", "(I)Z"⟩, 36) := ⟨⟨by decide +kernel, by decide +kernel⟩, List.mem_of_getElem? (i := 581) (by decide +kernel), List.mem_of_getElem? (i := 794) (by decide +kernel), List.mem_of_getElem? (i := 795) (by decide +kernel)⟩
theorem lw_p52 : lw_okq (⟨"WellMoodsModel", "feltBy", "(I)I"⟩, 36) := ⟨⟨by decide +kernel, by decide +kernel⟩, List.mem_of_getElem? (i := 581) (by decide +kernel), List.mem_of_getElem? (i := 807) (by decide +kernel), List.mem_of_getElem? (i := 808) (by decide +kernel)⟩
theorem lw_p53 : lw_okq (⟨"WellMoodsModel", "keep", "()V"⟩, 36) := ⟨⟨by decide +kernel, by decide +kernel⟩, List.mem_of_getElem? (i := 581) (by decide +kernel), List.mem_of_getElem? (i := 817) (by decide +kernel), List.mem_of_getElem? (i := 818) (by decide +kernel)⟩
theorem lw_p54 : lw_okq (⟨"WellMoodsModel", "findMost", "(II)I"⟩, 36) := ⟨⟨by decide +kernel, by decide +kernel⟩, List.mem_of_getElem? (i := 581) (by decide +kernel), List.mem_of_getElem? (i := 835) (by decide +kernel), List.mem_of_getElem? (i := 836) (by decide +kernel)⟩
theorem lw_p55 : lw_okq (⟨"WellMoodsModel", "nextRow", "(I)Z"⟩, 36) := ⟨⟨by decide +kernel, by decide +kernel⟩, List.mem_of_getElem? (i := 581) (by decide +kernel), List.mem_of_getElem? (i := 839) (by decide +kernel), List.mem_of_getElem? (i := 840) (by decide +kernel)⟩
theorem lw_p56 : lw_okq (⟨"WellMoodsModel", "givesOf", "(II)I"⟩, 36) := ⟨⟨by decide +kernel, by decide +kernel⟩, List.mem_of_getElem? (i := 581) (by decide +kernel), List.mem_of_getElem? (i := 864) (by decide +kernel), List.mem_of_getElem? (i := 865) (by decide +kernel)⟩
theorem lw_p57 : lw_okq (⟨"WellMoodsModel", "carried", "(IIZ)I"⟩, 36) := ⟨⟨by decide +kernel, by decide +kernel⟩, List.mem_of_getElem? (i := 581) (by decide +kernel), List.mem_of_getElem? (i := 892) (by decide +kernel), List.mem_of_getElem? (i := 893) (by decide +kernel)⟩
theorem lw_p58 : lw_okq (⟨"WellMoodsModel", "lacksRow", "(IIII)I"⟩, 36) := ⟨⟨by decide +kernel, by decide +kernel⟩, List.mem_of_getElem? (i := 581) (by decide +kernel), List.mem_of_getElem? (i := 915) (by decide +kernel), List.mem_of_getElem? (i := 916) (by decide +kernel)⟩
theorem lw_p59 : lw_okq (⟨"WellMoodsModel", "fits", "(III)Z"⟩, 36) := ⟨⟨by decide +kernel, by decide +kernel⟩, List.mem_of_getElem? (i := 581) (by decide +kernel), List.mem_of_getElem? (i := 926) (by decide +kernel), List.mem_of_getElem? (i := 927) (by decide +kernel)⟩
def lw_privs_4 : List (MethodName × Nat) := [(⟨"WellMoodsModel", "readPlan", "()Z"⟩, 36), (⟨"WellMoodsModel", "goOn", "(I)I"⟩, 36), (⟨"WellMoodsModel", "begin", "()V"⟩, 36), (⟨"WellMoodsModel", "tryOne", "(I)Z"⟩, 36), (⟨"WellMoodsModel", "feltBy", "(I)I"⟩, 36), (⟨"WellMoodsModel", "keep", "()V"⟩, 36), (⟨"WellMoodsModel", "findMost", "(II)I"⟩, 36), (⟨"WellMoodsModel", "nextRow", "(I)Z"⟩, 36), (⟨"WellMoodsModel", "givesOf", "(II)I"⟩, 36), (⟨"WellMoodsModel", "carried", "(IIZ)I"⟩, 36), (⟨"WellMoodsModel", "lacksRow", "(IIII)I"⟩, 36), (⟨"WellMoodsModel", "fits", "(III)Z"⟩, 36)]
theorem lw_r4 : ∀ q ∈ lw_privs_4, lw_okq q := List.forall_mem_cons.mpr ⟨lw_p48, List.forall_mem_cons.mpr ⟨lw_p49, List.forall_mem_cons.mpr ⟨lw_p50, List.forall_mem_cons.mpr ⟨lw_p51, List.forall_mem_cons.mpr ⟨lw_p52, List.forall_mem_cons.mpr ⟨lw_p53, List.forall_mem_cons.mpr ⟨lw_p54, List.forall_mem_cons.mpr ⟨lw_p55, List.forall_mem_cons.mpr ⟨lw_p56, List.forall_mem_cons.mpr ⟨lw_p57, List.forall_mem_cons.mpr ⟨lw_p58, List.forall_mem_cons.mpr ⟨lw_p59, fun _ h => absurd h List.not_mem_nil⟩⟩⟩⟩⟩⟩⟩⟩⟩⟩⟩⟩
def lw_privs : List (MethodName × Nat) := lw_privs_1 ++ (lw_privs_2 ++ (lw_privs_3 ++ (lw_privs_4)))
def lw_tbl : List Cond := k2_sels lw_privs ++ tables_1
theorem lw_privs_ok : ∀ q ∈ lw_privs, lw_okq q := by
  show ∀ q ∈ lw_privs_1 ++ (lw_privs_2 ++ (lw_privs_3 ++ (lw_privs_4))), lw_okq q
  exact List.forall_mem_append.mpr ⟨lw_r1, List.forall_mem_append.mpr ⟨lw_r2, List.forall_mem_append.mpr ⟨lw_r3, lw_r4⟩⟩⟩
end
section
/-! ===== BEGIN words of one list among another's, by their places ===== -/
theorem goodIn_r {big : List Cond} (ws : List Cond) (ps : List Nat) (hp : ws = ps.filterMap (fun i => big[i]?)) (h : ws.all goodWord = true) : GoodIn big ws := by
  intro w hw
  have h1 := List.all_eq_true.mp h w hw
  rw [hp] at hw
  obtain ⟨i, -, hi⟩ := List.mem_filterMap.mp hw
  have hm : w ∈ big := by first | exact List.mem_of_getElem? hi | exact List.getElem?_mem hi
  exact ⟨hm, good_of_word h1⟩
theorem goodIn_app {big a b : List Cond} (ha : GoodIn big a) (hb : GoodIn big b) : GoodIn big (a ++ b) := fun w h => (List.mem_append.mp h).elim (ha w) (hb w)
theorem goodIn_ca {big a b : List Cond} {c : Cond} (ha : GoodIn big (c :: a)) (hb : GoodIn big b) : GoodIn big (c :: (a ++ b)) := fun w h => (List.mem_cons.mp h).elim (fun e => ha w (List.mem_cons.mpr (Or.inl e))) (fun h => (List.mem_append.mp h).elim (fun h => ha w (List.mem_cons.mpr (Or.inr h))) (hb w))
theorem goodIn_sub {big ws : List Cond} (hm : ∀ w ∈ ws, w ∈ big) (h : ws.all goodWord = true) : GoodIn big ws := fun w hw => ⟨hm w hw, good_of_word (List.all_eq_true.mp h w hw)⟩
/-! ===== END ===== -/

/-! ===== BEGIN printed: names, fields, word lists, decode rows ===== -/
def RX0 : String := "WellMoods$Folk"
def TX0 : u_T := fun k => match k with
  | 0 => ("WellMoods$Folk", "kinds", "[I", true)
  | 1 => ("WellMoods$Folk", "feelings", "[I", true)
  | 2 => ("WellMoods$Folk", "rests", "[I", true)
  | 3 => ("WellMoods$Folk", "foes", "[I", true)
  | _ => ("WellMoods$Folk", "count", "I", false)
def tyX0 : Nat → FieldType := fun k => match k with
  | 0 => .array .int
  | 1 => .array .int
  | 2 => .array .int
  | 3 => .array .int
  | _ => .int
abbrev wsX00 : List Cond := u_ws RX0 TX0 5
theorem nmX0 : ∀ a, a < 5 → ∀ b, b < 5 → a ≠ b → (TX0 a).2.1 ≠ (TX0 b).2.1 := by decide +kernel
theorem tyX0_ok : ∀ k, k < 5 → parseFieldDescriptor (TX0 k).2.2.1 = some (tyX0 k) := by decide +kernel
abbrev cX0_init : ByteArray := prog_2_method_1_code
def yX0_init : MethodName := ⟨RX0, "<init>", "()V"⟩
abbrev cX0_has : ByteArray := prog_2_method_2_code
def yX0_has : MethodName := ⟨RX0, "has", "(I)Z"⟩
abbrev cX0_add : ByteArray := prog_2_method_3_code
def yX0_add : MethodName := ⟨RX0, "add", "(III)I"⟩
abbrev cX0_become : ByteArray := prog_2_method_4_code
def yX0_become : MethodName := ⟨RX0, "become", "(LWellMoods$Folk;)V"⟩
abbrev cX0_areFoes : ByteArray := prog_2_method_5_code
def yX0_areFoes : MethodName := ⟨RX0, "areFoes", "(II)Z"⟩
abbrev cX0_makeFoes : ByteArray := prog_2_method_6_code
def yX0_makeFoes : MethodName := ⟨RX0, "makeFoes", "(IIZ)V"⟩
abbrev cX0_pailsAt : ByteArray := prog_2_method_7_code
def yX0_pailsAt : MethodName := ⟨RX0, "pailsAt", "(II)I"⟩
abbrev cX0_pailsBehind : ByteArray := prog_2_method_8_code
def yX0_pailsBehind : MethodName := ⟨RX0, "pailsBehind", "(IIII)I"⟩
abbrev cX0_isSweet : ByteArray := prog_2_method_9_code
def yX0_isSweet : MethodName := ⟨RX0, "isSweet", "(II)Z"⟩
abbrev cX0_moodBehind : ByteArray := prog_2_method_10_code
def yX0_moodBehind : MethodName := ⟨RX0, "moodBehind", "(II)I"⟩
def RX1 : String := "WellMoods$Search"
def TX1 : u_T := fun k => match k with
  | 0 => ("WellMoods$Search", "folk", "LWellMoods$Folk;", true)
  | 1 => ("WellMoods$Search", "freeFrom", "[I", true)
  | 2 => ("WellMoods$Search", "path", "[I", true)
  | 3 => ("WellMoods$Search", "row", "[I", true)
  | 4 => ("WellMoods$Search", "level", "I", false)
  | 5 => ("WellMoods$Search", "rain", "I", false)
  | 6 => ("WellMoods$Search", "last", "I", false)
  | 7 => ("WellMoods$Search", "hours", "I", false)
  | _ => ("WellMoods$Search", "best", "I", false)
def tyX1 : Nat → FieldType := fun k => match k with
  | 0 => .object "WellMoods$Folk"
  | 1 => .array .int
  | 2 => .array .int
  | 3 => .array .int
  | 4 => .int
  | 5 => .int
  | 6 => .int
  | 7 => .int
  | _ => .int
abbrev wsX10 : List Cond := u_ws RX1 TX1 9
theorem nmX1 : ∀ a, a < 9 → ∀ b, b < 9 → a ≠ b → (TX1 a).2.1 ≠ (TX1 b).2.1 := by decide +kernel
theorem tyX1_ok : ∀ k, k < 9 → parseFieldDescriptor (TX1 k).2.2.1 = some (tyX1 k) := by decide +kernel
abbrev cX1_init : ByteArray := prog_3_method_1_code
def yX1_init : MethodName := ⟨RX1, "<init>", "()V"⟩
abbrev cX1_observe : ByteArray := prog_3_method_2_code
def yX1_observe : MethodName := ⟨RX1, "observe", "(LWellMoods$Well;)V"⟩
abbrev cX1_mostIn : ByteArray := prog_3_method_3_code
def yX1_mostIn : MethodName := ⟨RX1, "mostIn", "(II)I"⟩
abbrev cX1_tryHour : ByteArray := prog_3_method_4_code
def yX1_tryHour : MethodName := ⟨RX1, "tryHour", "(IIIII)V"⟩
abbrev cX1_tryDrawing : ByteArray := prog_3_method_5_code
def yX1_tryDrawing : MethodName := ⟨RX1, "tryDrawing", "(IIIIII)V"⟩
abbrev cX1_keep : ByteArray := prog_3_method_6_code
def yX1_keep : MethodName := ⟨RX1, "keep", "(I)V"⟩
def RX2 : String := "WellMoods$Sheet"
def TX2 : u_T := fun k => match k with
  | 0 => ("WellMoods$Sheet", "items", "[J", true)
  | 1 => ("WellMoods$Sheet", "isThere", "Z", false)
  | 2 => ("WellMoods$Sheet", "lane", "I", false)
  | _ => ("WellMoods$Sheet", "length", "I", false)
def tyX2 : Nat → FieldType := fun k => match k with
  | 0 => .array .long
  | 1 => .boolean
  | 2 => .int
  | _ => .int
abbrev wsX20 : List Cond := u_ws RX2 TX2 4
theorem nmX2 : ∀ a, a < 4 → ∀ b, b < 4 → a ≠ b → (TX2 a).2.1 ≠ (TX2 b).2.1 := by decide +kernel
theorem tyX2_ok : ∀ k, k < 4 → parseFieldDescriptor (TX2 k).2.2.1 = some (tyX2 k) := by decide +kernel
abbrev cX2_init : ByteArray := prog_4_method_1_code
def yX2_init : MethodName := ⟨RX2, "<init>", "()V"⟩
abbrev cX2_begin : ByteArray := prog_4_method_2_code
def yX2_begin : MethodName := ⟨RX2, "begin", "(II)V"⟩
abbrev cX2_hasSpan : ByteArray := prog_4_method_3_code
def yX2_hasSpan : MethodName := ⟨RX2, "hasSpan", "(II)Z"⟩
abbrev cX2_put : ByteArray := prog_4_method_4_code
def yX2_put : MethodName := ⟨RX2, "put", "(IJ)V"⟩
def RX3 : String := "WellMoods$Tape"
def TX3 : u_T := fun k => match k with
  | 0 => ("WellMoods$Tape", "bytes", "[B", true)
  | 1 => ("WellMoods$Tape", "length", "I", false)
  | _ => ("WellMoods$Tape", "place", "I", false)
def tyX3 : Nat → FieldType := fun k => match k with
  | 0 => .array .byte
  | 1 => .int
  | _ => .int
abbrev wsX30 : List Cond := u_ws RX3 TX3 3
theorem nmX3 : ∀ a, a < 3 → ∀ b, b < 3 → a ≠ b → (TX3 a).2.1 ≠ (TX3 b).2.1 := by decide +kernel
theorem tyX3_ok : ∀ k, k < 3 → parseFieldDescriptor (TX3 k).2.2.1 = some (tyX3 k) := by decide +kernel
abbrev cX3_init : ByteArray := prog_5_method_1_code
def yX3_init : MethodName := ⟨RX3, "<init>", "()V"⟩
abbrev cX3_append : ByteArray := prog_5_method_2_code
def yX3_append : MethodName := ⟨RX3, "append", "(I)V"⟩
abbrev cX3_fault : ByteArray := prog_5_method_3_code
def yX3_fault : MethodName := ⟨RX3, "fault", "()I"⟩
abbrev cX3_next : ByteArray := prog_5_method_4_code
def yX3_next : MethodName := ⟨RX3, "next", "()I"⟩
abbrev cX3_readFolk : ByteArray := prog_5_method_5_code
def yX3_readFolk : MethodName := ⟨RX3, "readFolk", "(LWellMoods$Folk;)I"⟩
abbrev cX3_readOne : ByteArray := prog_5_method_6_code
def yX3_readOne : MethodName := ⟨RX3, "readOne", "(LWellMoods$Folk;)Z"⟩
abbrev cX3_kindBy : ByteArray := prog_5_method_7_code
def yX3_kindBy : MethodName := ⟨RX3, "kindBy", "(I)I"⟩
abbrev cX3_readDigit : ByteArray := prog_5_method_8_code
def yX3_readDigit : MethodName := ⟨RX3, "readDigit", "(II)I"⟩
abbrev cX3_readPlan : ByteArray := prog_5_method_9_code
def yX3_readPlan : MethodName := ⟨RX3, "readPlan", "([ILWellMoods$Folk;)I"⟩
def RX4 : String := "WellMoods$Well"
def TX4 : u_T := fun k => match k with
  | 0 => ("WellMoods$Well", "folk", "LWellMoods$Folk;", true)
  | 1 => ("WellMoods$Well", "waits", "[I", true)
  | 2 => ("WellMoods$Well", "planned", "[I", true)
  | 3 => ("WellMoods$Well", "planHours", "I", false)
  | 4 => ("WellMoods$Well", "mood", "I", false)
  | 5 => ("WellMoods$Well", "level", "I", false)
  | 6 => ("WellMoods$Well", "rain", "I", false)
  | 7 => ("WellMoods$Well", "sweet", "I", false)
  | 8 => ("WellMoods$Well", "salt", "I", false)
  | 9 => ("WellMoods$Well", "hour", "I", false)
  | 10 => ("WellMoods$Well", "last", "I", false)
  | _ => ("WellMoods$Well", "lots", "I", false)
def tyX4 : Nat → FieldType := fun k => match k with
  | 0 => .object "WellMoods$Folk"
  | 1 => .array .int
  | 2 => .array .int
  | 3 => .int
  | 4 => .int
  | 5 => .int
  | 6 => .int
  | 7 => .int
  | 8 => .int
  | 9 => .int
  | 10 => .int
  | _ => .int
abbrev wsX40 : List Cond := u_ws RX4 TX4 12
theorem nmX4 : ∀ a, a < 12 → ∀ b, b < 12 → a ≠ b → (TX4 a).2.1 ≠ (TX4 b).2.1 := by decide +kernel
theorem tyX4_ok : ∀ k, k < 12 → parseFieldDescriptor (TX4 k).2.2.1 = some (tyX4 k) := by decide +kernel
abbrev cX4_init : ByteArray := prog_6_method_1_code
def yX4_init : MethodName := ⟨RX4, "<init>", "()V"⟩
abbrev cX4_become : ByteArray := prog_6_method_2_code
def yX4_become : MethodName := ⟨RX4, "become", "(LWellMoods$Well;)V"⟩
abbrev cX4_settle : ByteArray := prog_6_method_3_code
def yX4_settle : MethodName := ⟨RX4, "settle", "(LWellMoods$Folk;)V"⟩
abbrev cX4_adopt : ByteArray := prog_6_method_4_code
def yX4_adopt : MethodName := ⟨RX4, "adopt", "([II)V"⟩
abbrev cX4_mayDraw : ByteArray := prog_6_method_5_code
def yX4_mayDraw : MethodName := ⟨RX4, "mayDraw", "(I)Z"⟩
abbrev cX4_hasHours : ByteArray := prog_6_method_6_code
def yX4_hasHours : MethodName := ⟨RX4, "hasHours", "(I)Z"⟩
abbrev cX4_givesAt : ByteArray := prog_6_method_7_code
def yX4_givesAt : MethodName := ⟨RX4, "givesAt", "(II)I"⟩
abbrev cX4_passHour : ByteArray := prog_6_method_8_code
def yX4_passHour : MethodName := ⟨RX4, "passHour", "(I)I"⟩
abbrev cX4_drawBy : ByteArray := prog_6_method_9_code
def yX4_drawBy : MethodName := ⟨RX4, "drawBy", "(I)I"⟩
abbrev cX4_endHour : ByteArray := prog_6_method_10_code
def yX4_endHour : MethodName := ⟨RX4, "endHour", "()V"⟩
abbrev cX4_followPlan : ByteArray := prog_6_method_11_code
def yX4_followPlan : MethodName := ⟨RX4, "followPlan", "()I"⟩
abbrev cX4_lot : ByteArray := prog_6_method_12_code
def yX4_lot : MethodName := ⟨RX4, "lot", "()I"⟩
def RX5 : String := "WellMoods"
def TX5 : u_T := fun k => match k with
  | 0 => ("WellMoods", "well", "LWellMoods$Well;", true)
  | 1 => ("WellMoods", "kept", "LWellMoods$Well;", true)
  | 2 => ("WellMoods", "isKept", "Z", false)
  | 3 => ("WellMoods", "tape", "LWellMoods$Tape;", true)
  | 4 => ("WellMoods", "newcomers", "LWellMoods$Folk;", true)
  | 5 => ("WellMoods", "newPlan", "[I", true)
  | 6 => ("WellMoods", "search", "LWellMoods$Search;", true)
  | _ => ("WellMoods", "sheets", "[LWellMoods$Sheet;", true)
def tyX5 : Nat → FieldType := fun k => match k with
  | 0 => .object "WellMoods$Well"
  | 1 => .object "WellMoods$Well"
  | 2 => .boolean
  | 3 => .object "WellMoods$Tape"
  | 4 => .object "WellMoods$Folk"
  | 5 => .array .int
  | 6 => .object "WellMoods$Search"
  | _ => .array (.object "WellMoods$Sheet")
abbrev wsX50 : List Cond := u_ws RX5 TX5 8
theorem nmX5 : ∀ a, a < 8 → ∀ b, b < 8 → a ≠ b → (TX5 a).2.1 ≠ (TX5 b).2.1 := by decide +kernel
theorem tyX5_ok : ∀ k, k < 8 → parseFieldDescriptor (TX5 k).2.2.1 = some (tyX5 k) := by decide +kernel
abbrev cX5_init : ByteArray := prog_1_method_1_code
def yX5_init : MethodName := ⟨RX5, "<init>", "()V"⟩
abbrev cX5_folk : ByteArray := prog_1_method_2_code
def yX5_folk : MethodName := ⟨RX5, "folk", "(III)I"⟩
abbrev cX5_told : ByteArray := prog_1_method_3_code
def yX5_told : MethodName := ⟨RX5, "told", "(II)I"⟩
abbrev cX5_quarrel : ByteArray := prog_1_method_4_code
def yX5_quarrel : MethodName := ⟨RX5, "quarrel", "(IIZ)I"⟩
abbrev cX5_set : ByteArray := prog_1_method_5_code
def yX5_set : MethodName := ⟨RX5, "set", "(II)I"⟩
abbrev cX5_is : ByteArray := prog_1_method_6_code
def yX5_is : MethodName := ⟨RX5, "is", "(I)I"⟩
abbrev cX5_type : ByteArray := prog_1_method_7_code
def yX5_type : MethodName := ⟨RX5, "type", "(JI)I"⟩
abbrev cX5_village : ByteArray := prog_1_method_8_code
def yX5_village : MethodName := ⟨RX5, "village", "()I"⟩
abbrev cX5_plan : ByteArray := prog_1_method_9_code
def yX5_plan : MethodName := ⟨RX5, "plan", "()I"⟩
abbrev cX5_may : ByteArray := prog_1_method_10_code
def yX5_may : MethodName := ⟨RX5, "may", "()I"⟩
abbrev cX5_draw : ByteArray := prog_1_method_11_code
def yX5_draw : MethodName := ⟨RX5, "draw", "(I)I"⟩
abbrev cX5_pass : ByteArray := prog_1_method_12_code
def yX5_pass : MethodName := ⟨RX5, "pass", "(I)I"⟩
abbrev cX5_run : ByteArray := prog_1_method_13_code
def yX5_run : MethodName := ⟨RX5, "run", "()I"⟩
abbrev cX5_most : ByteArray := prog_1_method_14_code
def yX5_most : MethodName := ⟨RX5, "most", "(I)I"⟩
abbrev cX5_row : ByteArray := prog_1_method_15_code
def yX5_row : MethodName := ⟨RX5, "row", "(II)I"⟩
abbrev cX5_fewest : ByteArray := prog_1_method_16_code
def yX5_fewest : MethodName := ⟨RX5, "fewest", "(I)I"⟩
abbrev cX5_peace : ByteArray := prog_1_method_17_code
def yX5_peace : MethodName := ⟨RX5, "peace", "()I"⟩
abbrev cX5_gives : ByteArray := prog_1_method_18_code
def yX5_gives : MethodName := ⟨RX5, "gives", "(II)I"⟩
abbrev cX5_stranger : ByteArray := prog_1_method_19_code
def yX5_stranger : MethodName := ⟨RX5, "stranger", "(III)I"⟩
abbrev cX5_liar : ByteArray := prog_1_method_20_code
def yX5_liar : MethodName := ⟨RX5, "liar", "(IIIIII)I"⟩
abbrev cX5_other : ByteArray := prog_1_method_21_code
def yX5_other : MethodName := ⟨RX5, "other", "(I)I"⟩
abbrev cX5_drawn : ByteArray := prog_1_method_22_code
def yX5_drawn : MethodName := ⟨RX5, "drawn", "(I)I"⟩
abbrev cX5_seed : ByteArray := prog_1_method_23_code
def yX5_seed : MethodName := ⟨RX5, "seed", "(I)I"⟩
abbrev cX5_image : ByteArray := prog_1_method_24_code
def yX5_image : MethodName := ⟨RX5, "image", "()I"⟩
abbrev cX5_restore : ByteArray := prog_1_method_25_code
def yX5_restore : MethodName := ⟨RX5, "restore", "()I"⟩
abbrev cX5_fit : ByteArray := prog_1_method_26_code
def yX5_fit : MethodName := ⟨RX5, "fit", "(IIII)I"⟩
abbrev cX5_film : ByteArray := prog_1_method_27_code
def yX5_film : MethodName := ⟨RX5, "film", "(IIII)I"⟩
abbrev cX5_sheet : ByteArray := prog_1_method_28_code
def yX5_sheet : MethodName := ⟨RX5, "sheet", "(III)I"⟩
abbrev cX5_drop : ByteArray := prog_1_method_29_code
def yX5_drop : MethodName := ⟨RX5, "drop", "(I)I"⟩
abbrev cX5_item : ByteArray := prog_1_method_30_code
def yX5_item : MethodName := ⟨RX5, "item", "(IIIJ)I"⟩
abbrev cX5_copy : ByteArray := prog_1_method_31_code
def yX5_copy : MethodName := ⟨RX5, "copy", "(IIIII)I"⟩
abbrev cX5_within : ByteArray := prog_1_method_32_code
def yX5_within : MethodName := ⟨RX5, "within", "(III)Z"⟩
abbrev cX5_isMood : ByteArray := prog_1_method_33_code
def yX5_isMood : MethodName := ⟨RX5, "isMood", "(I)Z"⟩
abbrev cX5_isPails : ByteArray := prog_1_method_34_code
def yX5_isPails : MethodName := ⟨RX5, "isPails", "(J)Z"⟩
abbrev cX5_isSheet : ByteArray := prog_1_method_35_code
def yX5_isSheet : MethodName := ⟨RX5, "isSheet", "(I)Z"⟩
abbrev cX5_isLane : ByteArray := prog_1_method_36_code
def yX5_isLane : MethodName := ⟨RX5, "isLane", "(I)Z"⟩
abbrev cX5_asMood : ByteArray := prog_1_method_37_code
def yX5_asMood : MethodName := ⟨RX5, "asMood", "(I)I"⟩
abbrev cX5_waned : ByteArray := prog_1_method_38_code
def yX5_waned : MethodName := ⟨RX5, "waned", "(I)I"⟩
abbrev cX5_rained : ByteArray := prog_1_method_39_code
def yX5_rained : MethodName := ⟨RX5, "rained", "(II)I"⟩
abbrev cX5_byteOf : ByteArray := prog_1_method_40_code
def yX5_byteOf : MethodName := ⟨RX5, "byteOf", "(JI)I"⟩
abbrev cX5_areSigns : ByteArray := prog_1_method_41_code
def yX5_areSigns : MethodName := ⟨RX5, "areSigns", "(JI)Z"⟩
abbrev cX5_isTale : ByteArray := prog_1_method_42_code
def yX5_isTale : MethodName := ⟨RX5, "isTale", "(III)Z"⟩
abbrev cX5_mostFrom : ByteArray := prog_1_method_43_code
def yX5_mostFrom : MethodName := ⟨RX5, "mostFrom", "(II)I"⟩
abbrev cX5_mostInPeace : ByteArray := prog_1_method_44_code
def yX5_mostInPeace : MethodName := ⟨RX5, "mostInPeace", "(II)I"⟩
abbrev cX5_refusal : ByteArray := prog_1_method_45_code
def yX5_refusal : MethodName := ⟨RX5, "refusal", "(IIII)I"⟩
abbrev cX5_areDrawings : ByteArray := prog_1_method_46_code
def yX5_areDrawings : MethodName := ⟨RX5, "areDrawings", "(LWellMoods$Sheet;II)Z"⟩
abbrev cX5_fitsFrom : ByteArray := prog_1_method_47_code
def yX5_fitsFrom : MethodName := ⟨RX5, "fitsFrom", "(ILWellMoods$Sheet;II)Z"⟩
def RX6 : String := "WellMoodsModel"
def TX6 : u_T := fun k => match k with
  | 0 => ("WellMoodsModel", "kinds", "[I", true)
  | 1 => ("WellMoodsModel", "feels", "[I", true)
  | 2 => ("WellMoodsModel", "rests", "[I", true)
  | 3 => ("WellMoodsModel", "quarrels", "[I", true)
  | 4 => ("WellMoodsModel", "free", "[I", true)
  | 5 => ("WellMoodsModel", "many", "I", false)
  | 6 => ("WellMoodsModel", "mood", "I", false)
  | 7 => ("WellMoodsModel", "level", "I", false)
  | 8 => ("WellMoodsModel", "rain", "I", false)
  | 9 => ("WellMoodsModel", "sweet", "I", false)
  | 10 => ("WellMoodsModel", "salt", "I", false)
  | 11 => ("WellMoodsModel", "hour", "I", false)
  | 12 => ("WellMoodsModel", "ahead", "I", false)
  | 13 => ("WellMoodsModel", "plan", "[I", true)
  | 14 => ("WellMoodsModel", "planMany", "I", false)
  | 15 => ("WellMoodsModel", "draws", "I", false)
  | 16 => ("WellMoodsModel", "tape", "[I", true)
  | 17 => ("WellMoodsModel", "taped", "I", false)
  | 18 => ("WellMoodsModel", "place", "I", false)
  | 19 => ("WellMoodsModel", "reads", "I", false)
  | 20 => ("WellMoodsModel", "read", "[I", true)
  | 21 => ("WellMoodsModel", "tryMood", "I", false)
  | 22 => ("WellMoodsModel", "tryLevel", "I", false)
  | 23 => ("WellMoodsModel", "tryHour", "I", false)
  | 24 => ("WellMoodsModel", "tryAhead", "I", false)
  | 25 => ("WellMoodsModel", "tryPails", "I", false)
  | 26 => ("WellMoodsModel", "trySweet", "Z", false)
  | 27 => ("WellMoodsModel", "tryFree", "[I", true)
  | 28 => ("WellMoodsModel", "row", "[I", true)
  | 29 => ("WellMoodsModel", "best", "[I", true)
  | 30 => ("WellMoodsModel", "isKept", "Z", false)
  | 31 => ("WellMoodsModel", "kept", "[I", true)
  | 32 => ("WellMoodsModel", "lanes", "[I", true)
  | 33 => ("WellMoodsModel", "rowSizes", "[I", true)
  | 34 => ("WellMoodsModel", "items", "[J", true)
  | _ => ("WellMoodsModel", "moved", "[J", true)
def tyX6 : Nat → FieldType := fun k => match k with
  | 0 => .array .int
  | 1 => .array .int
  | 2 => .array .int
  | 3 => .array .int
  | 4 => .array .int
  | 5 => .int
  | 6 => .int
  | 7 => .int
  | 8 => .int
  | 9 => .int
  | 10 => .int
  | 11 => .int
  | 12 => .int
  | 13 => .array .int
  | 14 => .int
  | 15 => .int
  | 16 => .array .int
  | 17 => .int
  | 18 => .int
  | 19 => .int
  | 20 => .array .int
  | 21 => .int
  | 22 => .int
  | 23 => .int
  | 24 => .int
  | 25 => .int
  | 26 => .boolean
  | 27 => .array .int
  | 28 => .array .int
  | 29 => .array .int
  | 30 => .boolean
  | 31 => .array .int
  | 32 => .array .int
  | 33 => .array .int
  | 34 => .array .long
  | _ => .array .long
abbrev wsX60 : List Cond := u_ws RX6 TX6 36
theorem nmX6 : ∀ a, a < 36 → ∀ b, b < 36 → a ≠ b → (TX6 a).2.1 ≠ (TX6 b).2.1 := by decide +kernel
theorem tyX6_ok : ∀ k, k < 36 → parseFieldDescriptor (TX6 k).2.2.1 = some (tyX6 k) := by decide +kernel
abbrev cX6_init : ByteArray := prog_8_method_1_code
def yX6_init : MethodName := ⟨RX6, "<init>", "()V"⟩
abbrev cX6_in : ByteArray := prog_8_method_2_code
def yX6_in : MethodName := ⟨RX6, "in", "(JJJ)Z"⟩
abbrev cX6_has : ByteArray := prog_8_method_3_code
def yX6_has : MethodName := ⟨RX6, "has", "(II)Z"⟩
abbrev cX6_isOne : ByteArray := prog_8_method_4_code
def yX6_isOne : MethodName := ⟨RX6, "isOne", "(I)Z"⟩
abbrev cX6_isMood : ByteArray := prog_8_method_5_code
def yX6_isMood : MethodName := ⟨RX6, "isMood", "(I)Z"⟩
abbrev cX6_add : ByteArray := prog_8_method_6_code
def yX6_add : MethodName := ⟨RX6, "add", "(III)V"⟩
abbrev cX6_folk : ByteArray := prog_8_method_7_code
def yX6_folk : MethodName := ⟨RX6, "folk", "(III)I"⟩
abbrev cX6_told : ByteArray := prog_8_method_8_code
def yX6_told : MethodName := ⟨RX6, "told", "(II)I"⟩
abbrev cX6_setQuarrel : ByteArray := prog_8_method_9_code
def yX6_setQuarrel : MethodName := ⟨RX6, "setQuarrel", "(IIZ)V"⟩
abbrev cX6_quarrel : ByteArray := prog_8_method_10_code
def yX6_quarrel : MethodName := ⟨RX6, "quarrel", "(IIZ)I"⟩
abbrev cX6_set : ByteArray := prog_8_method_11_code
def yX6_set : MethodName := ⟨RX6, "set", "(II)I"⟩
abbrev cX6_is : ByteArray := prog_8_method_12_code
def yX6_is : MethodName := ⟨RX6, "is", "(I)I"⟩
abbrev cX6_type : ByteArray := prog_8_method_13_code
def yX6_type : MethodName := ⟨RX6, "type", "(JI)I"⟩
abbrev cX6_nextByte : ByteArray := prog_8_method_14_code
def yX6_nextByte : MethodName := ⟨RX6, "nextByte", "()I"⟩
abbrev cX6_readDigit : ByteArray := prog_8_method_15_code
def yX6_readDigit : MethodName := ⟨RX6, "readDigit", "(II)I"⟩
abbrev cX6_readOne : ByteArray := prog_8_method_16_code
def yX6_readOne : MethodName := ⟨RX6, "readOne", "(I)Z"⟩
abbrev cX6_readVillage : ByteArray := prog_8_method_17_code
def yX6_readVillage : MethodName := ⟨RX6, "readVillage", "()Z"⟩
abbrev cX6_village : ByteArray := prog_8_method_18_code
def yX6_village : MethodName := ⟨RX6, "village", "()I"⟩
abbrev cX6_readPlan : ByteArray := prog_8_method_19_code
def yX6_readPlan : MethodName := ⟨RX6, "readPlan", "()Z"⟩
abbrev cX6_plan : ByteArray := prog_8_method_20_code
def yX6_plan : MethodName := ⟨RX6, "plan", "()I"⟩
abbrev cX6_pailsOf : ByteArray := prog_8_method_21_code
def yX6_pailsOf : MethodName := ⟨RX6, "pailsOf", "(II)I"⟩
abbrev cX6_isSweet : ByteArray := prog_8_method_22_code
def yX6_isSweet : MethodName := ⟨RX6, "isSweet", "(II)Z"⟩
abbrev cX6_most9 : ByteArray := prog_8_method_23_code
def yX6_most9 : MethodName := ⟨RX6, "most9", "(I)I"⟩
abbrev cX6_wane : ByteArray := prog_8_method_24_code
def yX6_wane : MethodName := ⟨RX6, "wane", "(I)I"⟩
abbrev cX6_feltBy : ByteArray := prog_8_method_25_code
def yX6_feltBy : MethodName := ⟨RX6, "feltBy", "(I)I"⟩
abbrev cX6_begin : ByteArray := prog_8_method_26_code
def yX6_begin : MethodName := ⟨RX6, "begin", "()V"⟩
abbrev cX6_tryOne : ByteArray := prog_8_method_27_code
def yX6_tryOne : MethodName := ⟨RX6, "tryOne", "(I)Z"⟩
abbrev cX6_keep : ByteArray := prog_8_method_28_code
def yX6_keep : MethodName := ⟨RX6, "keep", "()V"⟩
abbrev cX6_goOn : ByteArray := prog_8_method_29_code
def yX6_goOn : MethodName := ⟨RX6, "goOn", "(I)I"⟩
abbrev cX6_may : ByteArray := prog_8_method_30_code
def yX6_may : MethodName := ⟨RX6, "may", "()I"⟩
abbrev cX6_draw : ByteArray := prog_8_method_31_code
def yX6_draw : MethodName := ⟨RX6, "draw", "(I)I"⟩
abbrev cX6_pass : ByteArray := prog_8_method_32_code
def yX6_pass : MethodName := ⟨RX6, "pass", "(I)I"⟩
abbrev cX6_run : ByteArray := prog_8_method_33_code
def yX6_run : MethodName := ⟨RX6, "run", "()I"⟩
abbrev cX6_nextRow : ByteArray := prog_8_method_34_code
def yX6_nextRow : MethodName := ⟨RX6, "nextRow", "(I)Z"⟩
abbrev cX6_findMost : ByteArray := prog_8_method_35_code
def yX6_findMost : MethodName := ⟨RX6, "findMost", "(II)I"⟩
abbrev cX6_most : ByteArray := prog_8_method_36_code
def yX6_most : MethodName := ⟨RX6, "most", "(I)I"⟩
abbrev cX6_row : ByteArray := prog_8_method_37_code
def yX6_row : MethodName := ⟨RX6, "row", "(II)I"⟩
abbrev cX6_fewest : ByteArray := prog_8_method_38_code
def yX6_fewest : MethodName := ⟨RX6, "fewest", "(I)I"⟩
abbrev cX6_peace : ByteArray := prog_8_method_39_code
def yX6_peace : MethodName := ⟨RX6, "peace", "()I"⟩
abbrev cX6_other : ByteArray := prog_8_method_40_code
def yX6_other : MethodName := ⟨RX6, "other", "(I)I"⟩
abbrev cX6_givesOf : ByteArray := prog_8_method_41_code
def yX6_givesOf : MethodName := ⟨RX6, "givesOf", "(II)I"⟩
abbrev cX6_gives : ByteArray := prog_8_method_42_code
def yX6_gives : MethodName := ⟨RX6, "gives", "(II)I"⟩
abbrev cX6_stranger : ByteArray := prog_8_method_43_code
def yX6_stranger : MethodName := ⟨RX6, "stranger", "(III)I"⟩
abbrev cX6_liar : ByteArray := prog_8_method_44_code
def yX6_liar : MethodName := ⟨RX6, "liar", "(IIIIII)I"⟩
abbrev cX6_drawn : ByteArray := prog_8_method_45_code
def yX6_drawn : MethodName := ⟨RX6, "drawn", "(I)I"⟩
abbrev cX6_seed : ByteArray := prog_8_method_46_code
def yX6_seed : MethodName := ⟨RX6, "seed", "(I)I"⟩
abbrev cX6_carried : ByteArray := prog_8_method_47_code
def yX6_carried : MethodName := ⟨RX6, "carried", "(IIZ)I"⟩
abbrev cX6_image : ByteArray := prog_8_method_48_code
def yX6_image : MethodName := ⟨RX6, "image", "()I"⟩
abbrev cX6_restore : ByteArray := prog_8_method_49_code
def yX6_restore : MethodName := ⟨RX6, "restore", "()I"⟩
abbrev cX6_isSheet : ByteArray := prog_8_method_50_code
def yX6_isSheet : MethodName := ⟨RX6, "isSheet", "(II)Z"⟩
abbrev cX6_asLane : ByteArray := prog_8_method_51_code
def yX6_asLane : MethodName := ⟨RX6, "asLane", "(IJ)J"⟩
abbrev cX6_sheet : ByteArray := prog_8_method_52_code
def yX6_sheet : MethodName := ⟨RX6, "sheet", "(III)I"⟩
abbrev cX6_drop : ByteArray := prog_8_method_53_code
def yX6_drop : MethodName := ⟨RX6, "drop", "(I)I"⟩
abbrev cX6_lacksRow : ByteArray := prog_8_method_54_code
def yX6_lacksRow : MethodName := ⟨RX6, "lacksRow", "(IIII)I"⟩
abbrev cX6_item : ByteArray := prog_8_method_55_code
def yX6_item : MethodName := ⟨RX6, "item", "(IIIJ)I"⟩
abbrev cX6_fits : ByteArray := prog_8_method_56_code
def yX6_fits : MethodName := ⟨RX6, "fits", "(III)Z"⟩
abbrev cX6_fit : ByteArray := prog_8_method_57_code
def yX6_fit : MethodName := ⟨RX6, "fit", "(IIII)I"⟩
abbrev cX6_film : ByteArray := prog_8_method_58_code
def yX6_film : MethodName := ⟨RX6, "film", "(IIII)I"⟩
abbrev cX6_copy : ByteArray := prog_8_method_59_code
def yX6_copy : MethodName := ⟨RX6, "copy", "(IIIII)I"⟩
def RJ6 : String := "java/lang/Integer"
def TJ6 : u_T := fun k => match k with
  | _ => ("", "", "", false)
def tyJ6 : Nat → FieldType := fun k => match k with
  | _ => .int
abbrev wsJ60 : List Cond := u_ws RJ6 TJ6 0
theorem nmJ6 : ∀ a, a < 0 → ∀ b, b < 0 → a ≠ b → (TJ6 a).2.1 ≠ (TJ6 b).2.1 := by decide +kernel
theorem tyJ6_ok : ∀ k, k < 0 → parseFieldDescriptor (TJ6 k).2.2.1 = some (tyJ6 k) := by decide +kernel
abbrev cJ6_compare_7cf53 : ByteArray := prog_9_method_40_code
def yJ6_compare_7cf53 : MethodName := ⟨RJ6, "compare", "(II)I"⟩
def RJ9 : String := "java/lang/Math"
def TJ9 : u_T := fun k => match k with
  | _ => ("", "", "", false)
def tyJ9 : Nat → FieldType := fun k => match k with
  | _ => .int
abbrev wsJ90 : List Cond := u_ws RJ9 TJ9 0
theorem nmJ9 : ∀ a, a < 0 → ∀ b, b < 0 → a ≠ b → (TJ9 a).2.1 ≠ (TJ9 b).2.1 := by decide +kernel
theorem tyJ9_ok : ∀ k, k < 0 → parseFieldDescriptor (TJ9 k).2.2.1 = some (tyJ9 k) := by decide +kernel
abbrev cJ9_max_7cf53 : ByteArray := prog_10_method_65_code
def yJ9_max_7cf53 : MethodName := ⟨RJ9, "max", "(II)I"⟩
abbrev cJ9_min_7cf53 : ByteArray := prog_10_method_69_code
def yJ9_min_7cf53 : MethodName := ⟨RJ9, "min", "(II)I"⟩
def RJ10 : String := "java/lang/System"
def TJ10 : u_T := fun k => match k with
  | _ => ("", "", "", false)
def tyJ10 : Nat → FieldType := fun k => match k with
  | _ => .int
abbrev wsJ100 : List Cond := u_ws RJ10 TJ10 0
theorem nmJ10 : ∀ a, a < 0 → ∀ b, b < 0 → a ≠ b → (TJ10 a).2.1 ≠ (TJ10 b).2.1 := by decide +kernel
theorem tyJ10_ok : ∀ k, k < 0 → parseFieldDescriptor (TJ10 k).2.2.1 = some (tyJ10 k) := by decide +kernel
def RL : String := "WellMoodsLaw"
abbrev cL_law : ByteArray := code
def yL_law : MethodName := ⟨RL, "law", "([I)Z"⟩
def wsX0_init : List Cond := .code yX0_init cX0_init 1 none :: ([.methodLink RX0 3 objectInit, .instanceMethod objectInit, .code objectInit ⟨#[0xb1]⟩ 1 none, .arrayClass .int, .fieldLink RX0 9 "WellMoods$Folk" "kinds" "[I", .fieldLink RX0 15 "WellMoods$Folk" "feelings" "[I", .fieldLink RX0 18 "WellMoods$Folk" "rests" "[I", .fieldLink RX0 21 "WellMoods$Folk" "foes" "[I", .fieldLink RX0 24 "WellMoods$Folk" "count" "I"] ++ wsX00)
def wsX0_has : List Cond := .code yX0_has cX0_has 2 (some .boolean) :: ([.fieldLink RX0 24 "WellMoods$Folk" "count" "I"] ++ wsX00)
def wsX0_add : List Cond := .code yX0_add cX0_add 5 (some .int) :: ([.fieldLink RX0 24 "WellMoods$Folk" "count" "I", .fieldLink RX0 9 "WellMoods$Folk" "kinds" "[I", .fieldLink RX0 15 "WellMoods$Folk" "feelings" "[I", .fieldLink RX0 18 "WellMoods$Folk" "rests" "[I", .fieldLink RX0 21 "WellMoods$Folk" "foes" "[I"] ++ wsX00)
def wsX0_become : List Cond := .code yX0_become cX0_become 3 none :: ([.fieldLink RX0 9 "WellMoods$Folk" "kinds" "[I", .fieldLink RX0 15 "WellMoods$Folk" "feelings" "[I", .fieldLink RX0 18 "WellMoods$Folk" "rests" "[I", .fieldLink RX0 21 "WellMoods$Folk" "foes" "[I", .fieldLink RX0 24 "WellMoods$Folk" "count" "I"] ++ wsX00)
def wsX0_areFoes : List Cond := .code yX0_areFoes cX0_areFoes 3 (some .boolean) :: ([.fieldLink RX0 21 "WellMoods$Folk" "foes" "[I", .methodLink RX0 28 yX0_has, .instanceMethod yX0_has, .selects RX0 yX0_has yX0_has, .initialized RX0, .code yX0_has cX0_has 2 (some .boolean), .fieldLink RX0 24 "WellMoods$Folk" "count" "I"] ++ wsX00)
def wsX0_makeFoes : List Cond := .code yX0_makeFoes cX0_makeFoes 4 none :: ([.fieldLink RX0 21 "WellMoods$Folk" "foes" "[I", .methodLink RX0 28 yX0_has, .instanceMethod yX0_has, .selects RX0 yX0_has yX0_has, .initialized RX0, .code yX0_has cX0_has 2 (some .boolean), .fieldLink RX0 24 "WellMoods$Folk" "count" "I"] ++ wsX00)
def wsX0_pailsAt : List Cond := .code yX0_pailsAt cX0_pailsAt 4 (some .int) :: ([.fieldLink RX0 9 "WellMoods$Folk" "kinds" "[I", .methodLink RX0 32 Lib.Math.min.name, .static Lib.Math.min.name, .initialized "java/lang/Math", .code Lib.Math.min.name Lib.Math.min.code 2 (some .int), .methodLink RX0 38 Lib.Math.max.name, .static Lib.Math.max.name, .code Lib.Math.max.name Lib.Math.max.code 2 (some .int)] ++ wsX00)
def wsX0_pailsBehind : List Cond := .code yX0_pailsBehind cX0_pailsBehind 5 (some .int) :: ([.methodLink RX0 32 Lib.Math.min.name, .static Lib.Math.min.name, .initialized "java/lang/Math", .code Lib.Math.min.name Lib.Math.min.code 2 (some .int), .methodLink RX0 41 yX0_areFoes, .instanceMethod yX0_areFoes, .selects RX0 yX0_areFoes yX0_areFoes, .initialized RX0, .code yX0_areFoes cX0_areFoes 3 (some .boolean), .fieldLink RX0 21 "WellMoods$Folk" "foes" "[I", .methodLink RX0 28 yX0_has, .instanceMethod yX0_has, .selects RX0 yX0_has yX0_has, .code yX0_has cX0_has 2 (some .boolean), .fieldLink RX0 24 "WellMoods$Folk" "count" "I", .methodLink RX0 45 yX0_pailsAt, .instanceMethod yX0_pailsAt, .selects RX0 yX0_pailsAt yX0_pailsAt, .code yX0_pailsAt cX0_pailsAt 4 (some .int), .fieldLink RX0 9 "WellMoods$Folk" "kinds" "[I", .methodLink RX0 38 Lib.Math.max.name, .static Lib.Math.max.name, .code Lib.Math.max.name Lib.Math.max.code 2 (some .int)] ++ wsX00)
def wsX0_isSweet : List Cond := .code yX0_isSweet cX0_isSweet 3 (some .boolean) :: ([.fieldLink RX0 9 "WellMoods$Folk" "kinds" "[I"] ++ wsX00)
def wsX5_asMood : List Cond := .code yX5_asMood cX5_asMood 1 (some .int) :: ([.methodLink RX5 263 Lib.Math.min.name, .static Lib.Math.min.name, .initialized "java/lang/Math", .code Lib.Math.min.name Lib.Math.min.code 2 (some .int), .methodLink RX5 268 Lib.Math.max.name, .static Lib.Math.max.name, .code Lib.Math.max.name Lib.Math.max.code 2 (some .int)])
def wsX0_moodBehind : List Cond := .code yX0_moodBehind cX0_moodBehind 3 (some .int) :: ([.fieldLink RX0 9 "WellMoods$Folk" "kinds" "[I", .fieldLink RX0 15 "WellMoods$Folk" "feelings" "[I", .static yX5_asMood, .initialized RX5, .code yX5_asMood cX5_asMood 1 (some .int), .methodLink RX5 263 Lib.Math.min.name, .static Lib.Math.min.name, .initialized "java/lang/Math", .code Lib.Math.min.name Lib.Math.min.code 2 (some .int), .methodLink RX5 268 Lib.Math.max.name, .static Lib.Math.max.name, .code Lib.Math.max.name Lib.Math.max.code 2 (some .int)] ++ wsX00)
def wsX1_init : List Cond := .code yX1_init cX1_init 1 none :: ([.methodLink RX1 3 objectInit, .instanceMethod objectInit, .code objectInit ⟨#[0xb1]⟩ 1 none, .classLink RX1 9 RX0, .instantiable RX0 5, .initialized RX0, .fieldLink RX1 12 "WellMoods$Search" "folk" "LWellMoods$Folk;", .arrayClass .int, .fieldLink RX1 18 "WellMoods$Search" "freeFrom" "[I", .fieldLink RX1 22 "WellMoods$Search" "path" "[I", .fieldLink RX1 25 "WellMoods$Search" "row" "[I", .fieldLink RX1 28 "WellMoods$Search" "level" "I", .fieldLink RX1 32 "WellMoods$Search" "rain" "I", .fieldLink RX1 35 "WellMoods$Search" "last" "I", .fieldLink RX1 38 "WellMoods$Search" "hours" "I", .fieldLink RX1 41 "WellMoods$Search" "best" "I", .instanceMethod yX0_init, .code yX0_init cX0_init 1 none, .methodLink RX0 3 objectInit, .fieldLink RX0 9 "WellMoods$Folk" "kinds" "[I", .fieldLink RX0 15 "WellMoods$Folk" "feelings" "[I", .fieldLink RX0 18 "WellMoods$Folk" "rests" "[I", .fieldLink RX0 21 "WellMoods$Folk" "foes" "[I", .fieldLink RX0 24 "WellMoods$Folk" "count" "I"] ++ wsX00 ++ wsX10)
def wsX1_observe : List Cond := .code yX1_observe cX1_observe 2 none :: ([.fieldLink RX1 12 "WellMoods$Search" "folk" "LWellMoods$Folk;", .fieldLink RX1 18 "WellMoods$Search" "freeFrom" "[I", .methodLink RX1 54 arraycopyName, .native arraycopyName, .static arraycopyName, .initialized "java/lang/System", .fieldLink RX1 28 "WellMoods$Search" "level" "I", .fieldLink RX1 32 "WellMoods$Search" "rain" "I", .fieldLink RX1 35 "WellMoods$Search" "last" "I", .instanceMethod yX0_become, .initialized RX0, .selects RX0 yX0_become yX0_become, .code yX0_become cX0_become 3 none, .fieldLink RX0 9 "WellMoods$Folk" "kinds" "[I", .fieldLink RX0 15 "WellMoods$Folk" "feelings" "[I", .fieldLink RX0 18 "WellMoods$Folk" "rests" "[I", .fieldLink RX0 21 "WellMoods$Folk" "foes" "[I", .fieldLink RX0 24 "WellMoods$Folk" "count" "I"] ++ wsX10 ++ wsX40 ++ wsX00)
def wsJ6_compare_7cf53 : List Cond := .code yJ6_compare_7cf53 cJ6_compare_7cf53 2 (some .int) :: ([])
def wsX5_waned : List Cond := .code yX5_waned cX5_waned 1 (some .int) :: ([.methodLink RX5 271 yJ6_compare_7cf53, .static yJ6_compare_7cf53, .initialized RJ6, .code yJ6_compare_7cf53 cJ6_compare_7cf53 2 (some .int)])
def wsX5_rained : List Cond := .code yX5_rained cX5_rained 2 (some .int) :: ([.methodLink RX5 263 Lib.Math.min.name, .static Lib.Math.min.name, .initialized "java/lang/Math", .code Lib.Math.min.name Lib.Math.min.code 2 (some .int)])
def wsX1_keep : List Cond := .code yX1_keep cX1_keep 2 none :: ([.fieldLink RX1 41 "WellMoods$Search" "best" "I", .fieldLink RX1 22 "WellMoods$Search" "path" "[I", .fieldLink RX1 25 "WellMoods$Search" "row" "[I", .fieldLink RX1 38 "WellMoods$Search" "hours" "I", .methodLink RX1 54 arraycopyName, .native arraycopyName, .static arraycopyName, .initialized "java/lang/System"] ++ wsX10)
def wsX1_tryDrawing_r1 : List Cond := [Cond.fieldLink RX1 12 "WellMoods$Search" "folk" "LWellMoods$Folk;", Cond.fieldLink RX1 18 "WellMoods$Search" "freeFrom" "[I", Cond.fieldLink RX1 22 "WellMoods$Search" "path" "[I", Cond.fieldLink RX1 32 "WellMoods$Search" "rain" "I", Cond.instanceMethod yX0_pailsBehind, Cond.initialized RX0, Cond.selects RX0 yX0_pailsBehind yX0_pailsBehind, Cond.code yX0_pailsBehind cX0_pailsBehind 5 (some .int), Cond.methodLink RX0 32 Lib.Math.min.name, Cond.static Lib.Math.min.name, Cond.initialized "java/lang/Math", Cond.code Lib.Math.min.name Lib.Math.min.code 2 (some .int), Cond.methodLink RX0 41 yX0_areFoes, Cond.instanceMethod yX0_areFoes, Cond.selects RX0 yX0_areFoes yX0_areFoes, Cond.code yX0_areFoes cX0_areFoes 3 (some .boolean), Cond.fieldLink RX0 21 "WellMoods$Folk" "foes" "[I", Cond.methodLink RX0 28 yX0_has, Cond.instanceMethod yX0_has, Cond.selects RX0 yX0_has yX0_has, Cond.code yX0_has cX0_has 2 (some .boolean), Cond.fieldLink RX0 24 "WellMoods$Folk" "count" "I", Cond.methodLink RX0 45 yX0_pailsAt, Cond.instanceMethod yX0_pailsAt]
def wsX1_tryDrawing_r2 : List Cond := [Cond.selects RX0 yX0_pailsAt yX0_pailsAt, Cond.code yX0_pailsAt cX0_pailsAt 4 (some .int), Cond.fieldLink RX0 9 "WellMoods$Folk" "kinds" "[I", Cond.methodLink RX0 38 Lib.Math.max.name, Cond.static Lib.Math.max.name, Cond.code Lib.Math.max.name Lib.Math.max.code 2 (some .int), Cond.instanceMethod yX0_isSweet, Cond.selects RX0 yX0_isSweet yX0_isSweet, Cond.code yX0_isSweet cX0_isSweet 3 (some .boolean), Cond.instanceMethod yX0_moodBehind, Cond.selects RX0 yX0_moodBehind yX0_moodBehind, Cond.code yX0_moodBehind cX0_moodBehind 3 (some .int), Cond.fieldLink RX0 15 "WellMoods$Folk" "feelings" "[I", Cond.static yX5_asMood, Cond.initialized RX5, Cond.code yX5_asMood cX5_asMood 1 (some .int), Cond.methodLink RX5 263 Lib.Math.min.name, Cond.methodLink RX5 268 Lib.Math.max.name, Cond.static yX5_waned, Cond.code yX5_waned cX5_waned 1 (some .int), Cond.methodLink RX5 271 yJ6_compare_7cf53, Cond.static yJ6_compare_7cf53, Cond.initialized RJ6, Cond.code yJ6_compare_7cf53 cJ6_compare_7cf53 2 (some .int)]
def wsX1_tryDrawing_r3 : List Cond := [Cond.static yX5_rained, Cond.code yX5_rained cX5_rained 2 (some .int), Cond.methodLink RX1 69 yX1_tryHour, Cond.instanceMethod yX1_tryHour, Cond.selects RX1 yX1_tryHour yX1_tryHour, Cond.initialized RX1, Cond.code yX1_tryHour cX1_tryHour 7 none, Cond.fieldLink RX1 38 "WellMoods$Search" "hours" "I", Cond.fieldLink RX1 41 "WellMoods$Search" "best" "I", Cond.methodLink RX1 73 yX1_keep, Cond.instanceMethod yX1_keep, Cond.selects RX1 yX1_keep yX1_keep, Cond.code yX1_keep cX1_keep 2 none, Cond.fieldLink RX1 25 "WellMoods$Search" "row" "[I", Cond.methodLink RX1 54 arraycopyName, Cond.native arraycopyName, Cond.static arraycopyName, Cond.initialized "java/lang/System", Cond.methodLink RX1 80 yX1_tryDrawing, Cond.instanceMethod yX1_tryDrawing, Cond.selects RX1 yX1_tryDrawing yX1_tryDrawing]
def wsX1_tryDrawing : List Cond := .code yX1_tryDrawing cX1_tryDrawing 10 none :: ((wsX1_tryDrawing_r1 ++ (wsX1_tryDrawing_r2 ++ wsX1_tryDrawing_r3)) ++ wsX10 ++ wsX00)
def wsX1_tryHour_r1 : List Cond := [Cond.fieldLink RX1 38 "WellMoods$Search" "hours" "I", Cond.fieldLink RX1 41 "WellMoods$Search" "best" "I", Cond.fieldLink RX1 12 "WellMoods$Search" "folk" "LWellMoods$Folk;", Cond.fieldLink RX1 18 "WellMoods$Search" "freeFrom" "[I", Cond.fieldLink RX1 22 "WellMoods$Search" "path" "[I", Cond.fieldLink RX1 32 "WellMoods$Search" "rain" "I", Cond.methodLink RX1 73 yX1_keep, Cond.instanceMethod yX1_keep, Cond.selects RX1 yX1_keep yX1_keep, Cond.initialized RX1, Cond.code yX1_keep cX1_keep 2 none, Cond.fieldLink RX1 25 "WellMoods$Search" "row" "[I", Cond.methodLink RX1 54 arraycopyName, Cond.native arraycopyName, Cond.static arraycopyName, Cond.initialized "java/lang/System", Cond.methodLink RX1 80 yX1_tryDrawing, Cond.instanceMethod yX1_tryDrawing, Cond.selects RX1 yX1_tryDrawing yX1_tryDrawing, Cond.static yX5_waned, Cond.initialized RX5, Cond.code yX5_waned cX5_waned 1 (some .int), Cond.methodLink RX5 271 yJ6_compare_7cf53, Cond.static yJ6_compare_7cf53]
def wsX1_tryHour_r2 : List Cond := [Cond.initialized RJ6, Cond.code yJ6_compare_7cf53 cJ6_compare_7cf53 2 (some .int), Cond.static yX5_rained, Cond.code yX5_rained cX5_rained 2 (some .int), Cond.methodLink RX5 263 Lib.Math.min.name, Cond.static Lib.Math.min.name, Cond.initialized "java/lang/Math", Cond.code Lib.Math.min.name Lib.Math.min.code 2 (some .int), Cond.methodLink RX1 69 yX1_tryHour, Cond.instanceMethod yX1_tryHour, Cond.selects RX1 yX1_tryHour yX1_tryHour, Cond.code yX1_tryDrawing cX1_tryDrawing 10 none, Cond.instanceMethod yX0_pailsBehind, Cond.initialized RX0, Cond.selects RX0 yX0_pailsBehind yX0_pailsBehind, Cond.code yX0_pailsBehind cX0_pailsBehind 5 (some .int), Cond.methodLink RX0 32 Lib.Math.min.name, Cond.methodLink RX0 41 yX0_areFoes, Cond.instanceMethod yX0_areFoes, Cond.selects RX0 yX0_areFoes yX0_areFoes, Cond.code yX0_areFoes cX0_areFoes 3 (some .boolean), Cond.fieldLink RX0 21 "WellMoods$Folk" "foes" "[I", Cond.methodLink RX0 28 yX0_has, Cond.instanceMethod yX0_has]
def wsX1_tryHour_r3 : List Cond := [Cond.selects RX0 yX0_has yX0_has, Cond.code yX0_has cX0_has 2 (some .boolean), Cond.fieldLink RX0 24 "WellMoods$Folk" "count" "I", Cond.methodLink RX0 45 yX0_pailsAt, Cond.instanceMethod yX0_pailsAt, Cond.selects RX0 yX0_pailsAt yX0_pailsAt, Cond.code yX0_pailsAt cX0_pailsAt 4 (some .int), Cond.fieldLink RX0 9 "WellMoods$Folk" "kinds" "[I", Cond.methodLink RX0 38 Lib.Math.max.name, Cond.static Lib.Math.max.name, Cond.code Lib.Math.max.name Lib.Math.max.code 2 (some .int), Cond.instanceMethod yX0_isSweet, Cond.selects RX0 yX0_isSweet yX0_isSweet, Cond.code yX0_isSweet cX0_isSweet 3 (some .boolean), Cond.instanceMethod yX0_moodBehind, Cond.selects RX0 yX0_moodBehind yX0_moodBehind, Cond.code yX0_moodBehind cX0_moodBehind 3 (some .int), Cond.fieldLink RX0 15 "WellMoods$Folk" "feelings" "[I", Cond.static yX5_asMood, Cond.code yX5_asMood cX5_asMood 1 (some .int), Cond.methodLink RX5 268 Lib.Math.max.name]
def wsX1_tryHour : List Cond := .code yX1_tryHour cX1_tryHour 7 none :: ((wsX1_tryHour_r1 ++ (wsX1_tryHour_r2 ++ wsX1_tryHour_r3)) ++ wsX10 ++ wsX00)
def wsX1_mostIn_r1 : List Cond := [Cond.methodLink RX1 63 Lib.Math.min.name, Cond.static Lib.Math.min.name, Cond.initialized "java/lang/Math", Cond.code Lib.Math.min.name Lib.Math.min.code 2 (some .int), Cond.fieldLink RX1 38 "WellMoods$Search" "hours" "I", Cond.fieldLink RX1 41 "WellMoods$Search" "best" "I", Cond.fieldLink RX1 28 "WellMoods$Search" "level" "I", Cond.fieldLink RX1 35 "WellMoods$Search" "last" "I", Cond.methodLink RX1 69 yX1_tryHour, Cond.instanceMethod yX1_tryHour, Cond.selects RX1 yX1_tryHour yX1_tryHour, Cond.initialized RX1, Cond.code yX1_tryHour cX1_tryHour 7 none, Cond.fieldLink RX1 12 "WellMoods$Search" "folk" "LWellMoods$Folk;", Cond.fieldLink RX1 18 "WellMoods$Search" "freeFrom" "[I", Cond.fieldLink RX1 22 "WellMoods$Search" "path" "[I", Cond.fieldLink RX1 32 "WellMoods$Search" "rain" "I", Cond.methodLink RX1 73 yX1_keep, Cond.instanceMethod yX1_keep, Cond.selects RX1 yX1_keep yX1_keep, Cond.code yX1_keep cX1_keep 2 none, Cond.fieldLink RX1 25 "WellMoods$Search" "row" "[I", Cond.methodLink RX1 54 arraycopyName, Cond.native arraycopyName]
def wsX1_mostIn_r2 : List Cond := [Cond.static arraycopyName, Cond.initialized "java/lang/System", Cond.methodLink RX1 80 yX1_tryDrawing, Cond.instanceMethod yX1_tryDrawing, Cond.selects RX1 yX1_tryDrawing yX1_tryDrawing, Cond.static yX5_waned, Cond.initialized RX5, Cond.code yX5_waned cX5_waned 1 (some .int), Cond.methodLink RX5 271 yJ6_compare_7cf53, Cond.static yJ6_compare_7cf53, Cond.initialized RJ6, Cond.code yJ6_compare_7cf53 cJ6_compare_7cf53 2 (some .int), Cond.static yX5_rained, Cond.code yX5_rained cX5_rained 2 (some .int), Cond.methodLink RX5 263 Lib.Math.min.name, Cond.code yX1_tryDrawing cX1_tryDrawing 10 none, Cond.instanceMethod yX0_pailsBehind, Cond.initialized RX0, Cond.selects RX0 yX0_pailsBehind yX0_pailsBehind, Cond.code yX0_pailsBehind cX0_pailsBehind 5 (some .int), Cond.methodLink RX0 32 Lib.Math.min.name, Cond.methodLink RX0 41 yX0_areFoes, Cond.instanceMethod yX0_areFoes, Cond.selects RX0 yX0_areFoes yX0_areFoes]
def wsX1_mostIn_r3 : List Cond := [Cond.code yX0_areFoes cX0_areFoes 3 (some .boolean), Cond.fieldLink RX0 21 "WellMoods$Folk" "foes" "[I", Cond.methodLink RX0 28 yX0_has, Cond.instanceMethod yX0_has, Cond.selects RX0 yX0_has yX0_has, Cond.code yX0_has cX0_has 2 (some .boolean), Cond.fieldLink RX0 24 "WellMoods$Folk" "count" "I", Cond.methodLink RX0 45 yX0_pailsAt, Cond.instanceMethod yX0_pailsAt, Cond.selects RX0 yX0_pailsAt yX0_pailsAt, Cond.code yX0_pailsAt cX0_pailsAt 4 (some .int), Cond.fieldLink RX0 9 "WellMoods$Folk" "kinds" "[I", Cond.methodLink RX0 38 Lib.Math.max.name, Cond.static Lib.Math.max.name, Cond.code Lib.Math.max.name Lib.Math.max.code 2 (some .int), Cond.instanceMethod yX0_isSweet, Cond.selects RX0 yX0_isSweet yX0_isSweet, Cond.code yX0_isSweet cX0_isSweet 3 (some .boolean), Cond.instanceMethod yX0_moodBehind, Cond.selects RX0 yX0_moodBehind yX0_moodBehind, Cond.code yX0_moodBehind cX0_moodBehind 3 (some .int), Cond.fieldLink RX0 15 "WellMoods$Folk" "feelings" "[I", Cond.static yX5_asMood, Cond.code yX5_asMood cX5_asMood 1 (some .int)]
def wsX1_mostIn_r4 : List Cond := [Cond.methodLink RX5 268 Lib.Math.max.name]
def wsX1_mostIn : List Cond := .code yX1_mostIn cX1_mostIn 3 (some .int) :: ((wsX1_mostIn_r1 ++ (wsX1_mostIn_r2 ++ (wsX1_mostIn_r3 ++ wsX1_mostIn_r4))) ++ wsX10 ++ wsX00)
def wsX2_init : List Cond := .code yX2_init cX2_init 1 none :: ([.methodLink RX2 3 objectInit, .instanceMethod objectInit, .code objectInit ⟨#[0xb1]⟩ 1 none, .arrayClass .long, .fieldLink RX2 9 "WellMoods$Sheet" "items" "[J", .fieldLink RX2 15 "WellMoods$Sheet" "isThere" "Z", .fieldLink RX2 19 "WellMoods$Sheet" "lane" "I", .fieldLink RX2 23 "WellMoods$Sheet" "length" "I"] ++ wsX20)
def wsX2_begin : List Cond := .code yX2_begin cX2_begin 4 none :: ([.fieldLink RX2 15 "WellMoods$Sheet" "isThere" "Z", .fieldLink RX2 19 "WellMoods$Sheet" "lane" "I", .fieldLink RX2 23 "WellMoods$Sheet" "length" "I", .fieldLink RX2 9 "WellMoods$Sheet" "items" "[J"] ++ wsX20)
def wsX2_hasSpan : List Cond := .code yX2_hasSpan cX2_hasSpan 3 (some .boolean) :: ([.fieldLink RX2 23 "WellMoods$Sheet" "length" "I"] ++ wsX20)
def wsX2_put : List Cond := .code yX2_put cX2_put 4 none :: ([.fieldLink RX2 19 "WellMoods$Sheet" "lane" "I", .fieldLink RX2 9 "WellMoods$Sheet" "items" "[J"] ++ wsX20)
def wsX3_init : List Cond := .code yX3_init cX3_init 1 none :: ([.methodLink RX3 3 objectInit, .instanceMethod objectInit, .code objectInit ⟨#[0xb1]⟩ 1 none, .arrayClass .byte, .fieldLink RX3 9 "WellMoods$Tape" "bytes" "[B", .fieldLink RX3 15 "WellMoods$Tape" "length" "I", .fieldLink RX3 19 "WellMoods$Tape" "place" "I"] ++ wsX30)
def wsX3_append : List Cond := .code yX3_append cX3_append 2 none :: ([.fieldLink RX3 15 "WellMoods$Tape" "length" "I", .fieldLink RX3 9 "WellMoods$Tape" "bytes" "[B"] ++ wsX30)
def wsX3_fault : List Cond := .code yX3_fault cX3_fault 1 (some .int) :: ([.fieldLink RX3 19 "WellMoods$Tape" "place" "I"] ++ wsX30)
def wsX3_next : List Cond := .code yX3_next cX3_next 1 (some .int) :: ([.fieldLink RX3 19 "WellMoods$Tape" "place" "I", .fieldLink RX3 15 "WellMoods$Tape" "length" "I", .fieldLink RX3 9 "WellMoods$Tape" "bytes" "[B"] ++ wsX30)
def wsX3_kindBy : List Cond := .code yX3_kindBy cX3_kindBy 1 (some .int) :: ([])
def wsX5_within : List Cond := .code yX5_within cX5_within 3 (some .boolean) :: ([])
def wsX3_readDigit : List Cond := .code yX3_readDigit cX3_readDigit 4 (some .int) :: ([.fieldLink RX3 19 "WellMoods$Tape" "place" "I", .methodLink RX3 35 yX3_next, .instanceMethod yX3_next, .selects RX3 yX3_next yX3_next, .initialized RX3, .code yX3_next cX3_next 1 (some .int), .fieldLink RX3 15 "WellMoods$Tape" "length" "I", .fieldLink RX3 9 "WellMoods$Tape" "bytes" "[B", .static yX5_within, .initialized RX5, .code yX5_within cX5_within 3 (some .boolean)] ++ wsX30)
def wsX3_readOne_r1 : List Cond := [Cond.fieldLink RX3 19 "WellMoods$Tape" "place" "I", Cond.methodLink RX3 35 yX3_next, Cond.instanceMethod yX3_next, Cond.selects RX3 yX3_next yX3_next, Cond.initialized RX3, Cond.code yX3_next cX3_next 1 (some .int), Cond.fieldLink RX3 15 "WellMoods$Tape" "length" "I", Cond.fieldLink RX3 9 "WellMoods$Tape" "bytes" "[B", Cond.methodLink RX3 38 yX3_kindBy, Cond.static yX3_kindBy, Cond.code yX3_kindBy cX3_kindBy 1 (some .int), Cond.methodLink RX3 42 yX3_readDigit, Cond.instanceMethod yX3_readDigit, Cond.selects RX3 yX3_readDigit yX3_readDigit, Cond.code yX3_readDigit cX3_readDigit 4 (some .int), Cond.static yX5_within, Cond.initialized RX5, Cond.code yX5_within cX5_within 3 (some .boolean), Cond.instanceMethod yX0_add, Cond.initialized RX0, Cond.selects RX0 yX0_add yX0_add, Cond.code yX0_add cX0_add 5 (some .int), Cond.fieldLink RX0 24 "WellMoods$Folk" "count" "I", Cond.fieldLink RX0 9 "WellMoods$Folk" "kinds" "[I"]
def wsX3_readOne_r2 : List Cond := [Cond.fieldLink RX0 15 "WellMoods$Folk" "feelings" "[I", Cond.fieldLink RX0 18 "WellMoods$Folk" "rests" "[I", Cond.fieldLink RX0 21 "WellMoods$Folk" "foes" "[I"]
def wsX3_readOne : List Cond := .code yX3_readOne cX3_readOne 6 (some .boolean) :: ((wsX3_readOne_r1 ++ wsX3_readOne_r2) ++ wsX30 ++ wsX00)
def wsX3_readFolk_r1 : List Cond := [Cond.fieldLink RX3 19 "WellMoods$Tape" "place" "I", Cond.methodLink RX3 27 yX3_readOne, Cond.instanceMethod yX3_readOne, Cond.selects RX3 yX3_readOne yX3_readOne, Cond.initialized RX3, Cond.code yX3_readOne cX3_readOne 6 (some .boolean), Cond.methodLink RX3 35 yX3_next, Cond.instanceMethod yX3_next, Cond.selects RX3 yX3_next yX3_next, Cond.code yX3_next cX3_next 1 (some .int), Cond.fieldLink RX3 15 "WellMoods$Tape" "length" "I", Cond.fieldLink RX3 9 "WellMoods$Tape" "bytes" "[B", Cond.methodLink RX3 38 yX3_kindBy, Cond.static yX3_kindBy, Cond.code yX3_kindBy cX3_kindBy 1 (some .int), Cond.methodLink RX3 42 yX3_readDigit, Cond.instanceMethod yX3_readDigit, Cond.selects RX3 yX3_readDigit yX3_readDigit, Cond.code yX3_readDigit cX3_readDigit 4 (some .int), Cond.static yX5_within, Cond.initialized RX5, Cond.code yX5_within cX5_within 3 (some .boolean), Cond.instanceMethod yX0_add, Cond.initialized RX0]
def wsX3_readFolk_r2 : List Cond := [Cond.selects RX0 yX0_add yX0_add, Cond.code yX0_add cX0_add 5 (some .int), Cond.fieldLink RX0 24 "WellMoods$Folk" "count" "I", Cond.fieldLink RX0 9 "WellMoods$Folk" "kinds" "[I", Cond.fieldLink RX0 15 "WellMoods$Folk" "feelings" "[I", Cond.fieldLink RX0 18 "WellMoods$Folk" "rests" "[I", Cond.fieldLink RX0 21 "WellMoods$Folk" "foes" "[I", Cond.methodLink RX3 31 yX3_fault, Cond.instanceMethod yX3_fault, Cond.selects RX3 yX3_fault yX3_fault, Cond.code yX3_fault cX3_fault 1 (some .int)]
def wsX3_readFolk : List Cond := .code yX3_readFolk cX3_readFolk 4 (some .int) :: ((wsX3_readFolk_r1 ++ wsX3_readFolk_r2) ++ wsX30 ++ wsX00)
def wsX3_readPlan : List Cond := .code yX3_readPlan cX3_readPlan 6 (some .int) :: ([.fieldLink RX3 19 "WellMoods$Tape" "place" "I", .methodLink RX3 35 yX3_next, .instanceMethod yX3_next, .selects RX3 yX3_next yX3_next, .initialized RX3, .code yX3_next cX3_next 1 (some .int), .fieldLink RX3 15 "WellMoods$Tape" "length" "I", .fieldLink RX3 9 "WellMoods$Tape" "bytes" "[B", .instanceMethod yX0_has, .initialized RX0, .selects RX0 yX0_has yX0_has, .code yX0_has cX0_has 2 (some .boolean), .fieldLink RX0 24 "WellMoods$Folk" "count" "I", .methodLink RX3 31 yX3_fault, .instanceMethod yX3_fault, .selects RX3 yX3_fault yX3_fault, .code yX3_fault cX3_fault 1 (some .int)] ++ wsX30 ++ wsX00)
def wsX4_init_r1 : List Cond := [Cond.methodLink RX4 3 objectInit, Cond.instanceMethod objectInit, Cond.code objectInit ⟨#[0xb1]⟩ 1 none, Cond.classLink RX4 9 RX0, Cond.instantiable RX0 5, Cond.initialized RX0, Cond.fieldLink RX4 12 "WellMoods$Well" "folk" "LWellMoods$Folk;", Cond.arrayClass .int, Cond.fieldLink RX4 18 "WellMoods$Well" "waits" "[I", Cond.fieldLink RX4 22 "WellMoods$Well" "planned" "[I", Cond.fieldLink RX4 25 "WellMoods$Well" "planHours" "I", Cond.fieldLink RX4 29 "WellMoods$Well" "mood" "I", Cond.fieldLink RX4 32 "WellMoods$Well" "level" "I", Cond.fieldLink RX4 35 "WellMoods$Well" "rain" "I", Cond.fieldLink RX4 38 "WellMoods$Well" "sweet" "I", Cond.fieldLink RX4 41 "WellMoods$Well" "salt" "I", Cond.fieldLink RX4 44 "WellMoods$Well" "hour" "I", Cond.fieldLink RX4 47 "WellMoods$Well" "last" "I", Cond.fieldLink RX4 50 "WellMoods$Well" "lots" "I", Cond.instanceMethod yX0_init, Cond.code yX0_init cX0_init 1 none, Cond.methodLink RX0 3 objectInit, Cond.fieldLink RX0 9 "WellMoods$Folk" "kinds" "[I", Cond.fieldLink RX0 15 "WellMoods$Folk" "feelings" "[I"]
def wsX4_init_r2 : List Cond := [Cond.fieldLink RX0 18 "WellMoods$Folk" "rests" "[I", Cond.fieldLink RX0 21 "WellMoods$Folk" "foes" "[I", Cond.fieldLink RX0 24 "WellMoods$Folk" "count" "I"]
def wsX4_init : List Cond := .code yX4_init cX4_init 1 none :: ((wsX4_init_r1 ++ wsX4_init_r2) ++ wsX00 ++ wsX40)
def wsX4_become_r1 : List Cond := [Cond.fieldLink RX4 12 "WellMoods$Well" "folk" "LWellMoods$Folk;", Cond.fieldLink RX4 18 "WellMoods$Well" "waits" "[I", Cond.methodLink RX4 57 arraycopyName, Cond.native arraycopyName, Cond.static arraycopyName, Cond.initialized "java/lang/System", Cond.fieldLink RX4 22 "WellMoods$Well" "planned" "[I", Cond.fieldLink RX4 25 "WellMoods$Well" "planHours" "I", Cond.fieldLink RX4 29 "WellMoods$Well" "mood" "I", Cond.fieldLink RX4 32 "WellMoods$Well" "level" "I", Cond.fieldLink RX4 35 "WellMoods$Well" "rain" "I", Cond.fieldLink RX4 38 "WellMoods$Well" "sweet" "I", Cond.fieldLink RX4 41 "WellMoods$Well" "salt" "I", Cond.fieldLink RX4 44 "WellMoods$Well" "hour" "I", Cond.fieldLink RX4 47 "WellMoods$Well" "last" "I", Cond.fieldLink RX4 50 "WellMoods$Well" "lots" "I", Cond.instanceMethod yX0_become, Cond.initialized RX0, Cond.selects RX0 yX0_become yX0_become, Cond.code yX0_become cX0_become 3 none, Cond.fieldLink RX0 9 "WellMoods$Folk" "kinds" "[I", Cond.fieldLink RX0 15 "WellMoods$Folk" "feelings" "[I", Cond.fieldLink RX0 18 "WellMoods$Folk" "rests" "[I", Cond.fieldLink RX0 21 "WellMoods$Folk" "foes" "[I"]
def wsX4_become_r2 : List Cond := [Cond.fieldLink RX0 24 "WellMoods$Folk" "count" "I"]
def wsX4_become : List Cond := .code yX4_become cX4_become 2 none :: ((wsX4_become_r1 ++ wsX4_become_r2) ++ wsX40 ++ wsX00)
def wsX4_settle : List Cond := .code yX4_settle cX4_settle 3 none :: ([.fieldLink RX4 12 "WellMoods$Well" "folk" "LWellMoods$Folk;", .fieldLink RX4 18 "WellMoods$Well" "waits" "[I", .fieldLink RX4 47 "WellMoods$Well" "last" "I", .fieldLink RX4 25 "WellMoods$Well" "planHours" "I", .instanceMethod yX0_become, .initialized RX0, .selects RX0 yX0_become yX0_become, .code yX0_become cX0_become 3 none, .fieldLink RX0 9 "WellMoods$Folk" "kinds" "[I", .fieldLink RX0 15 "WellMoods$Folk" "feelings" "[I", .fieldLink RX0 18 "WellMoods$Folk" "rests" "[I", .fieldLink RX0 21 "WellMoods$Folk" "foes" "[I", .fieldLink RX0 24 "WellMoods$Folk" "count" "I"] ++ wsX40 ++ wsX00)
def wsX4_adopt : List Cond := .code yX4_adopt cX4_adopt 3 none :: ([.methodLink RX4 63 Lib.Math.min.name, .static Lib.Math.min.name, .initialized "java/lang/Math", .code Lib.Math.min.name Lib.Math.min.code 2 (some .int), .fieldLink RX4 25 "WellMoods$Well" "planHours" "I", .fieldLink RX4 22 "WellMoods$Well" "planned" "[I", .methodLink RX4 57 arraycopyName, .native arraycopyName, .static arraycopyName, .initialized "java/lang/System"] ++ wsX40)
def wsX4_mayDraw : List Cond := .code yX4_mayDraw cX4_mayDraw 2 (some .boolean) :: ([.fieldLink RX4 12 "WellMoods$Well" "folk" "LWellMoods$Folk;", .fieldLink RX4 18 "WellMoods$Well" "waits" "[I", .instanceMethod yX0_has, .initialized RX0, .selects RX0 yX0_has yX0_has, .code yX0_has cX0_has 2 (some .boolean), .fieldLink RX0 24 "WellMoods$Folk" "count" "I"] ++ wsX40 ++ wsX00)
def wsX4_hasHours : List Cond := .code yX4_hasHours cX4_hasHours 2 (some .boolean) :: ([.fieldLink RX4 44 "WellMoods$Well" "hour" "I"] ++ wsX40)
def wsX4_givesAt : List Cond := .code yX4_givesAt cX4_givesAt 4 (some .int) :: ([.fieldLink RX4 32 "WellMoods$Well" "level" "I", .fieldLink RX4 12 "WellMoods$Well" "folk" "LWellMoods$Folk;", .methodLink RX4 63 Lib.Math.min.name, .static Lib.Math.min.name, .initialized "java/lang/Math", .code Lib.Math.min.name Lib.Math.min.code 2 (some .int), .instanceMethod yX0_pailsAt, .initialized RX0, .selects RX0 yX0_pailsAt yX0_pailsAt, .code yX0_pailsAt cX0_pailsAt 4 (some .int), .fieldLink RX0 9 "WellMoods$Folk" "kinds" "[I", .methodLink RX0 32 Lib.Math.min.name, .methodLink RX0 38 Lib.Math.max.name, .static Lib.Math.max.name, .code Lib.Math.max.name Lib.Math.max.code 2 (some .int), .instanceMethod yX0_isSweet, .selects RX0 yX0_isSweet yX0_isSweet, .code yX0_isSweet cX0_isSweet 3 (some .boolean)] ++ wsX40 ++ wsX00)
def wsX4_drawBy_r1 : List Cond := [Cond.fieldLink RX4 12 "WellMoods$Well" "folk" "LWellMoods$Folk;", Cond.fieldLink RX4 47 "WellMoods$Well" "last" "I", Cond.fieldLink RX4 29 "WellMoods$Well" "mood" "I", Cond.fieldLink RX4 32 "WellMoods$Well" "level" "I", Cond.fieldLink RX4 38 "WellMoods$Well" "sweet" "I", Cond.fieldLink RX4 41 "WellMoods$Well" "salt" "I", Cond.fieldLink RX4 18 "WellMoods$Well" "waits" "[I", Cond.instanceMethod yX0_pailsBehind, Cond.initialized RX0, Cond.selects RX0 yX0_pailsBehind yX0_pailsBehind, Cond.code yX0_pailsBehind cX0_pailsBehind 5 (some .int), Cond.methodLink RX0 32 Lib.Math.min.name, Cond.static Lib.Math.min.name, Cond.initialized "java/lang/Math", Cond.code Lib.Math.min.name Lib.Math.min.code 2 (some .int), Cond.methodLink RX0 41 yX0_areFoes, Cond.instanceMethod yX0_areFoes, Cond.selects RX0 yX0_areFoes yX0_areFoes, Cond.code yX0_areFoes cX0_areFoes 3 (some .boolean), Cond.fieldLink RX0 21 "WellMoods$Folk" "foes" "[I", Cond.methodLink RX0 28 yX0_has, Cond.instanceMethod yX0_has, Cond.selects RX0 yX0_has yX0_has, Cond.code yX0_has cX0_has 2 (some .boolean)]
def wsX4_drawBy_r2 : List Cond := [Cond.fieldLink RX0 24 "WellMoods$Folk" "count" "I", Cond.methodLink RX0 45 yX0_pailsAt, Cond.instanceMethod yX0_pailsAt, Cond.selects RX0 yX0_pailsAt yX0_pailsAt, Cond.code yX0_pailsAt cX0_pailsAt 4 (some .int), Cond.fieldLink RX0 9 "WellMoods$Folk" "kinds" "[I", Cond.methodLink RX0 38 Lib.Math.max.name, Cond.static Lib.Math.max.name, Cond.code Lib.Math.max.name Lib.Math.max.code 2 (some .int), Cond.instanceMethod yX0_isSweet, Cond.selects RX0 yX0_isSweet yX0_isSweet, Cond.code yX0_isSweet cX0_isSweet 3 (some .boolean), Cond.instanceMethod yX0_moodBehind, Cond.selects RX0 yX0_moodBehind yX0_moodBehind, Cond.code yX0_moodBehind cX0_moodBehind 3 (some .int), Cond.fieldLink RX0 15 "WellMoods$Folk" "feelings" "[I", Cond.static yX5_asMood, Cond.initialized RX5, Cond.code yX5_asMood cX5_asMood 1 (some .int), Cond.methodLink RX5 263 Lib.Math.min.name, Cond.methodLink RX5 268 Lib.Math.max.name]
def wsX4_drawBy : List Cond := .code yX4_drawBy cX4_drawBy 3 (some .int) :: ((wsX4_drawBy_r1 ++ wsX4_drawBy_r2) ++ wsX40 ++ wsX00)
def wsX4_endHour : List Cond := .code yX4_endHour cX4_endHour 2 none :: ([.fieldLink RX4 29 "WellMoods$Well" "mood" "I", .fieldLink RX4 32 "WellMoods$Well" "level" "I", .fieldLink RX4 35 "WellMoods$Well" "rain" "I", .fieldLink RX4 44 "WellMoods$Well" "hour" "I", .fieldLink RX4 12 "WellMoods$Well" "folk" "LWellMoods$Folk;", .fieldLink RX4 18 "WellMoods$Well" "waits" "[I", .methodLink RX4 109 Lib.Math.max.name, .static Lib.Math.max.name, .initialized "java/lang/Math", .code Lib.Math.max.name Lib.Math.max.code 2 (some .int), .static yX5_waned, .initialized RX5, .code yX5_waned cX5_waned 1 (some .int), .methodLink RX5 271 yJ6_compare_7cf53, .static yJ6_compare_7cf53, .initialized RJ6, .code yJ6_compare_7cf53 cJ6_compare_7cf53 2 (some .int), .static yX5_rained, .code yX5_rained cX5_rained 2 (some .int), .methodLink RX5 263 Lib.Math.min.name, .static Lib.Math.min.name, .code Lib.Math.min.name Lib.Math.min.code 2 (some .int)] ++ wsX40 ++ wsX00)
def wsX4_passHour_r1 : List Cond := [Cond.fieldLink RX4 47 "WellMoods$Well" "last" "I", Cond.methodLink RX4 80 yX4_mayDraw, Cond.instanceMethod yX4_mayDraw, Cond.selects RX4 yX4_mayDraw yX4_mayDraw, Cond.initialized RX4, Cond.code yX4_mayDraw cX4_mayDraw 2 (some .boolean), Cond.fieldLink RX4 12 "WellMoods$Well" "folk" "LWellMoods$Folk;", Cond.fieldLink RX4 18 "WellMoods$Well" "waits" "[I", Cond.instanceMethod yX0_has, Cond.initialized RX0, Cond.selects RX0 yX0_has yX0_has, Cond.code yX0_has cX0_has 2 (some .boolean), Cond.fieldLink RX0 24 "WellMoods$Folk" "count" "I", Cond.methodLink RX4 83 yX4_drawBy, Cond.instanceMethod yX4_drawBy, Cond.selects RX4 yX4_drawBy yX4_drawBy, Cond.code yX4_drawBy cX4_drawBy 3 (some .int), Cond.fieldLink RX4 29 "WellMoods$Well" "mood" "I", Cond.fieldLink RX4 32 "WellMoods$Well" "level" "I", Cond.fieldLink RX4 38 "WellMoods$Well" "sweet" "I", Cond.fieldLink RX4 41 "WellMoods$Well" "salt" "I", Cond.instanceMethod yX0_pailsBehind, Cond.selects RX0 yX0_pailsBehind yX0_pailsBehind, Cond.code yX0_pailsBehind cX0_pailsBehind 5 (some .int)]
def wsX4_passHour_r2 : List Cond := [Cond.methodLink RX0 32 Lib.Math.min.name, Cond.static Lib.Math.min.name, Cond.initialized "java/lang/Math", Cond.code Lib.Math.min.name Lib.Math.min.code 2 (some .int), Cond.methodLink RX0 41 yX0_areFoes, Cond.instanceMethod yX0_areFoes, Cond.selects RX0 yX0_areFoes yX0_areFoes, Cond.code yX0_areFoes cX0_areFoes 3 (some .boolean), Cond.fieldLink RX0 21 "WellMoods$Folk" "foes" "[I", Cond.methodLink RX0 28 yX0_has, Cond.methodLink RX0 45 yX0_pailsAt, Cond.instanceMethod yX0_pailsAt, Cond.selects RX0 yX0_pailsAt yX0_pailsAt, Cond.code yX0_pailsAt cX0_pailsAt 4 (some .int), Cond.fieldLink RX0 9 "WellMoods$Folk" "kinds" "[I", Cond.methodLink RX0 38 Lib.Math.max.name, Cond.static Lib.Math.max.name, Cond.code Lib.Math.max.name Lib.Math.max.code 2 (some .int), Cond.instanceMethod yX0_isSweet, Cond.selects RX0 yX0_isSweet yX0_isSweet, Cond.code yX0_isSweet cX0_isSweet 3 (some .boolean), Cond.instanceMethod yX0_moodBehind, Cond.selects RX0 yX0_moodBehind yX0_moodBehind, Cond.code yX0_moodBehind cX0_moodBehind 3 (some .int)]
def wsX4_passHour_r3 : List Cond := [Cond.fieldLink RX0 15 "WellMoods$Folk" "feelings" "[I", Cond.static yX5_asMood, Cond.initialized RX5, Cond.code yX5_asMood cX5_asMood 1 (some .int), Cond.methodLink RX5 263 Lib.Math.min.name, Cond.methodLink RX5 268 Lib.Math.max.name, Cond.methodLink RX4 87 yX4_endHour, Cond.instanceMethod yX4_endHour, Cond.selects RX4 yX4_endHour yX4_endHour, Cond.code yX4_endHour cX4_endHour 2 none, Cond.fieldLink RX4 35 "WellMoods$Well" "rain" "I", Cond.fieldLink RX4 44 "WellMoods$Well" "hour" "I", Cond.methodLink RX4 109 Lib.Math.max.name, Cond.static yX5_waned, Cond.code yX5_waned cX5_waned 1 (some .int), Cond.methodLink RX5 271 yJ6_compare_7cf53, Cond.static yJ6_compare_7cf53, Cond.initialized RJ6, Cond.code yJ6_compare_7cf53 cJ6_compare_7cf53 2 (some .int), Cond.static yX5_rained, Cond.code yX5_rained cX5_rained 2 (some .int)]
def wsX4_passHour : List Cond := .code yX4_passHour cX4_passHour 3 (some .int) :: ((wsX4_passHour_r1 ++ (wsX4_passHour_r2 ++ wsX4_passHour_r3)) ++ wsX40 ++ wsX00)
def wsX4_followPlan_r1 : List Cond := [Cond.fieldLink RX4 25 "WellMoods$Well" "planHours" "I", Cond.fieldLink RX4 22 "WellMoods$Well" "planned" "[I", Cond.methodLink RX4 80 yX4_mayDraw, Cond.instanceMethod yX4_mayDraw, Cond.selects RX4 yX4_mayDraw yX4_mayDraw, Cond.initialized RX4, Cond.code yX4_mayDraw cX4_mayDraw 2 (some .boolean), Cond.fieldLink RX4 12 "WellMoods$Well" "folk" "LWellMoods$Folk;", Cond.fieldLink RX4 18 "WellMoods$Well" "waits" "[I", Cond.instanceMethod yX0_has, Cond.initialized RX0, Cond.selects RX0 yX0_has yX0_has, Cond.code yX0_has cX0_has 2 (some .boolean), Cond.fieldLink RX0 24 "WellMoods$Folk" "count" "I", Cond.methodLink RX4 112 yX4_passHour, Cond.instanceMethod yX4_passHour, Cond.selects RX4 yX4_passHour yX4_passHour, Cond.code yX4_passHour cX4_passHour 3 (some .int), Cond.fieldLink RX4 47 "WellMoods$Well" "last" "I", Cond.methodLink RX4 83 yX4_drawBy, Cond.instanceMethod yX4_drawBy, Cond.selects RX4 yX4_drawBy yX4_drawBy, Cond.code yX4_drawBy cX4_drawBy 3 (some .int), Cond.fieldLink RX4 29 "WellMoods$Well" "mood" "I"]
def wsX4_followPlan_r2 : List Cond := [Cond.fieldLink RX4 32 "WellMoods$Well" "level" "I", Cond.fieldLink RX4 38 "WellMoods$Well" "sweet" "I", Cond.fieldLink RX4 41 "WellMoods$Well" "salt" "I", Cond.instanceMethod yX0_pailsBehind, Cond.selects RX0 yX0_pailsBehind yX0_pailsBehind, Cond.code yX0_pailsBehind cX0_pailsBehind 5 (some .int), Cond.methodLink RX0 32 Lib.Math.min.name, Cond.static Lib.Math.min.name, Cond.initialized "java/lang/Math", Cond.code Lib.Math.min.name Lib.Math.min.code 2 (some .int), Cond.methodLink RX0 41 yX0_areFoes, Cond.instanceMethod yX0_areFoes, Cond.selects RX0 yX0_areFoes yX0_areFoes, Cond.code yX0_areFoes cX0_areFoes 3 (some .boolean), Cond.fieldLink RX0 21 "WellMoods$Folk" "foes" "[I", Cond.methodLink RX0 28 yX0_has, Cond.methodLink RX0 45 yX0_pailsAt, Cond.instanceMethod yX0_pailsAt, Cond.selects RX0 yX0_pailsAt yX0_pailsAt, Cond.code yX0_pailsAt cX0_pailsAt 4 (some .int), Cond.fieldLink RX0 9 "WellMoods$Folk" "kinds" "[I", Cond.methodLink RX0 38 Lib.Math.max.name, Cond.static Lib.Math.max.name, Cond.code Lib.Math.max.name Lib.Math.max.code 2 (some .int)]
def wsX4_followPlan_r3 : List Cond := [Cond.instanceMethod yX0_isSweet, Cond.selects RX0 yX0_isSweet yX0_isSweet, Cond.code yX0_isSweet cX0_isSweet 3 (some .boolean), Cond.instanceMethod yX0_moodBehind, Cond.selects RX0 yX0_moodBehind yX0_moodBehind, Cond.code yX0_moodBehind cX0_moodBehind 3 (some .int), Cond.fieldLink RX0 15 "WellMoods$Folk" "feelings" "[I", Cond.static yX5_asMood, Cond.initialized RX5, Cond.code yX5_asMood cX5_asMood 1 (some .int), Cond.methodLink RX5 263 Lib.Math.min.name, Cond.methodLink RX5 268 Lib.Math.max.name, Cond.methodLink RX4 87 yX4_endHour, Cond.instanceMethod yX4_endHour, Cond.selects RX4 yX4_endHour yX4_endHour, Cond.code yX4_endHour cX4_endHour 2 none, Cond.fieldLink RX4 35 "WellMoods$Well" "rain" "I", Cond.fieldLink RX4 44 "WellMoods$Well" "hour" "I", Cond.methodLink RX4 109 Lib.Math.max.name, Cond.static yX5_waned, Cond.code yX5_waned cX5_waned 1 (some .int), Cond.methodLink RX5 271 yJ6_compare_7cf53, Cond.static yJ6_compare_7cf53, Cond.initialized RJ6]
def wsX4_followPlan_r4 : List Cond := [Cond.code yJ6_compare_7cf53 cJ6_compare_7cf53 2 (some .int), Cond.static yX5_rained, Cond.code yX5_rained cX5_rained 2 (some .int)]
def wsX4_followPlan : List Cond := .code yX4_followPlan cX4_followPlan 2 (some .int) :: ((wsX4_followPlan_r1 ++ (wsX4_followPlan_r2 ++ (wsX4_followPlan_r3 ++ wsX4_followPlan_r4))) ++ wsX40 ++ wsX00)
def wsX4_lot : List Cond := .code yX4_lot cX4_lot 2 (some .int) :: ([.fieldLink RX4 50 "WellMoods$Well" "lots" "I", .constantLong RX4 115 (1103515245), .constantLong RX4 117 (12345), .constantLong RX4 119 (2147483647), .constant RX4 121 (65536), .fieldLink RX4 12 "WellMoods$Well" "folk" "LWellMoods$Folk;", .methodLink RX4 80 yX4_mayDraw, .instanceMethod yX4_mayDraw, .selects RX4 yX4_mayDraw yX4_mayDraw, .initialized RX4, .code yX4_mayDraw cX4_mayDraw 2 (some .boolean), .fieldLink RX4 18 "WellMoods$Well" "waits" "[I", .instanceMethod yX0_has, .initialized RX0, .selects RX0 yX0_has yX0_has, .code yX0_has cX0_has 2 (some .boolean), .fieldLink RX0 24 "WellMoods$Folk" "count" "I"] ++ wsX40 ++ wsX00)
def wsX5_init_r1 : List Cond := [Cond.methodLink RX5 3 objectInit, Cond.instanceMethod objectInit, Cond.code objectInit ⟨#[0xb1]⟩ 1 none, Cond.classLink RX5 9 RX4, Cond.instantiable RX4 12, Cond.initialized RX4, Cond.fieldLink RX5 12 "WellMoods" "well" "LWellMoods$Well;", Cond.fieldLink RX5 16 "WellMoods" "kept" "LWellMoods$Well;", Cond.fieldLink RX5 19 "WellMoods" "isKept" "Z", Cond.classLink RX5 23 RX3, Cond.instantiable RX3 3, Cond.initialized RX3, Cond.fieldLink RX5 26 "WellMoods" "tape" "LWellMoods$Tape;", Cond.classLink RX5 30 RX0, Cond.instantiable RX0 5, Cond.initialized RX0, Cond.fieldLink RX5 33 "WellMoods" "newcomers" "LWellMoods$Folk;", Cond.arrayClass .int, Cond.fieldLink RX5 37 "WellMoods" "newPlan" "[I", Cond.classLink RX5 41 RX1, Cond.instantiable RX1 9, Cond.initialized RX1, Cond.fieldLink RX5 44 "WellMoods" "search" "LWellMoods$Search;", Cond.classLink RX5 48 RX2]
def wsX5_init_r2 : List Cond := [Cond.fieldLink RX5 50 "WellMoods" "sheets" "[LWellMoods$Sheet;", Cond.instantiable RX2 4, Cond.initialized RX2, Cond.instanceMethod yX4_init, Cond.code yX4_init cX4_init 1 none, Cond.methodLink RX4 3 objectInit, Cond.classLink RX4 9 RX0, Cond.fieldLink RX4 12 "WellMoods$Well" "folk" "LWellMoods$Folk;", Cond.fieldLink RX4 18 "WellMoods$Well" "waits" "[I", Cond.fieldLink RX4 22 "WellMoods$Well" "planned" "[I", Cond.fieldLink RX4 25 "WellMoods$Well" "planHours" "I", Cond.fieldLink RX4 29 "WellMoods$Well" "mood" "I", Cond.fieldLink RX4 32 "WellMoods$Well" "level" "I", Cond.fieldLink RX4 35 "WellMoods$Well" "rain" "I", Cond.fieldLink RX4 38 "WellMoods$Well" "sweet" "I", Cond.fieldLink RX4 41 "WellMoods$Well" "salt" "I", Cond.fieldLink RX4 44 "WellMoods$Well" "hour" "I", Cond.fieldLink RX4 47 "WellMoods$Well" "last" "I", Cond.fieldLink RX4 50 "WellMoods$Well" "lots" "I", Cond.instanceMethod yX0_init, Cond.code yX0_init cX0_init 1 none, Cond.methodLink RX0 3 objectInit, Cond.fieldLink RX0 9 "WellMoods$Folk" "kinds" "[I", Cond.fieldLink RX0 15 "WellMoods$Folk" "feelings" "[I"]
def wsX5_init_r3 : List Cond := [Cond.fieldLink RX0 18 "WellMoods$Folk" "rests" "[I", Cond.fieldLink RX0 21 "WellMoods$Folk" "foes" "[I", Cond.fieldLink RX0 24 "WellMoods$Folk" "count" "I", Cond.instanceMethod yX3_init, Cond.code yX3_init cX3_init 1 none, Cond.methodLink RX3 3 objectInit, Cond.arrayClass .byte, Cond.fieldLink RX3 9 "WellMoods$Tape" "bytes" "[B", Cond.fieldLink RX3 15 "WellMoods$Tape" "length" "I", Cond.fieldLink RX3 19 "WellMoods$Tape" "place" "I", Cond.instanceMethod yX1_init, Cond.code yX1_init cX1_init 1 none, Cond.methodLink RX1 3 objectInit, Cond.classLink RX1 9 RX0, Cond.fieldLink RX1 12 "WellMoods$Search" "folk" "LWellMoods$Folk;", Cond.fieldLink RX1 18 "WellMoods$Search" "freeFrom" "[I", Cond.fieldLink RX1 22 "WellMoods$Search" "path" "[I", Cond.fieldLink RX1 25 "WellMoods$Search" "row" "[I", Cond.fieldLink RX1 28 "WellMoods$Search" "level" "I", Cond.fieldLink RX1 32 "WellMoods$Search" "rain" "I", Cond.fieldLink RX1 35 "WellMoods$Search" "last" "I", Cond.fieldLink RX1 38 "WellMoods$Search" "hours" "I", Cond.fieldLink RX1 41 "WellMoods$Search" "best" "I", Cond.instanceMethod yX2_init]
def wsX5_init_r4 : List Cond := [Cond.code yX2_init cX2_init 1 none, Cond.methodLink RX2 3 objectInit, Cond.arrayClass .long, Cond.fieldLink RX2 9 "WellMoods$Sheet" "items" "[J", Cond.fieldLink RX2 15 "WellMoods$Sheet" "isThere" "Z", Cond.fieldLink RX2 19 "WellMoods$Sheet" "lane" "I", Cond.fieldLink RX2 23 "WellMoods$Sheet" "length" "I"]
def wsX5_init : List Cond := .code yX5_init cX5_init 2 none :: ((wsX5_init_r1 ++ (wsX5_init_r2 ++ (wsX5_init_r3 ++ wsX5_init_r4))) ++ wsX40 ++ wsX50 ++ wsX30 ++ wsX00 ++ wsX10 ++ wsX20)
def wsX5_folk : List Cond := .code yX5_folk cX5_folk 4 (some .int) :: ([.fieldLink RX5 12 "WellMoods" "well" "LWellMoods$Well;", .methodLink RX5 55 yX5_within, .static yX5_within, .initialized RX5, .code yX5_within cX5_within 3 (some .boolean), .instanceMethod yX0_add, .initialized RX0, .selects RX0 yX0_add yX0_add, .code yX0_add cX0_add 5 (some .int), .fieldLink RX0 24 "WellMoods$Folk" "count" "I", .fieldLink RX0 9 "WellMoods$Folk" "kinds" "[I", .fieldLink RX0 15 "WellMoods$Folk" "feelings" "[I", .fieldLink RX0 18 "WellMoods$Folk" "rests" "[I", .fieldLink RX0 21 "WellMoods$Folk" "foes" "[I"] ++ wsX50 ++ wsX40 ++ wsX00)
def wsX5_told : List Cond := .code yX5_told cX5_told 3 (some .int) :: ([.fieldLink RX5 12 "WellMoods" "well" "LWellMoods$Well;", .constant RX5 74 (-100001), .instanceMethod yX0_has, .initialized RX0, .selects RX0 yX0_has yX0_has, .code yX0_has cX0_has 2 (some .boolean), .fieldLink RX0 24 "WellMoods$Folk" "count" "I"] ++ wsX50 ++ wsX40 ++ wsX00)
def wsX5_quarrel : List Cond := .code yX5_quarrel cX5_quarrel 5 (some .int) :: ([.fieldLink RX5 12 "WellMoods" "well" "LWellMoods$Well;", .instanceMethod yX0_has, .initialized RX0, .selects RX0 yX0_has yX0_has, .code yX0_has cX0_has 2 (some .boolean), .fieldLink RX0 24 "WellMoods$Folk" "count" "I", .instanceMethod yX0_areFoes, .selects RX0 yX0_areFoes yX0_areFoes, .code yX0_areFoes cX0_areFoes 3 (some .boolean), .fieldLink RX0 21 "WellMoods$Folk" "foes" "[I", .methodLink RX0 28 yX0_has, .instanceMethod yX0_makeFoes, .selects RX0 yX0_makeFoes yX0_makeFoes, .code yX0_makeFoes cX0_makeFoes 4 none] ++ wsX50 ++ wsX40 ++ wsX00)
def wsX5_isMood : List Cond := .code yX5_isMood cX5_isMood 1 (some .boolean) :: ([.methodLink RX5 55 yX5_within, .static yX5_within, .initialized RX5, .code yX5_within cX5_within 3 (some .boolean)])
def wsX5_set : List Cond := .code yX5_set cX5_set 4 (some .int) :: ([.constant RX5 74 (-100001), .fieldLink RX5 12 "WellMoods" "well" "LWellMoods$Well;", .methodLink RX5 98 yX5_isMood, .static yX5_isMood, .initialized RX5, .code yX5_isMood cX5_isMood 1 (some .boolean), .methodLink RX5 55 yX5_within, .static yX5_within, .code yX5_within cX5_within 3 (some .boolean)] ++ wsX50 ++ wsX40)
def wsX5_is : List Cond := .code yX5_is cX5_is 2 (some .int) :: ([.fieldLink RX5 12 "WellMoods" "well" "LWellMoods$Well;", .constant RX5 74 (-100001)] ++ wsX50 ++ wsX40 ++ wsX00)
def wsX5_byteOf : List Cond := .code yX5_byteOf cX5_byteOf 3 (some .int) :: ([])
def wsX5_areSigns : List Cond := .code yX5_areSigns cX5_areSigns 4 (some .boolean) :: ([.methodLink RX5 132 yX5_byteOf, .static yX5_byteOf, .initialized RX5, .code yX5_byteOf cX5_byteOf 3 (some .int), .methodLink RX5 55 yX5_within, .static yX5_within, .code yX5_within cX5_within 3 (some .boolean)])
def wsX5_type : List Cond := .code yX5_type cX5_type 5 (some .int) :: ([.fieldLink RX5 26 "WellMoods" "tape" "LWellMoods$Tape;", .methodLink RX5 55 yX5_within, .static yX5_within, .initialized RX5, .code yX5_within cX5_within 3 (some .boolean), .methodLink RX5 125 yX5_areSigns, .static yX5_areSigns, .code yX5_areSigns cX5_areSigns 4 (some .boolean), .methodLink RX5 132 yX5_byteOf, .static yX5_byteOf, .code yX5_byteOf cX5_byteOf 3 (some .int), .instanceMethod yX3_append, .initialized RX3, .selects RX3 yX3_append yX3_append, .code yX3_append cX3_append 2 none, .fieldLink RX3 15 "WellMoods$Tape" "length" "I", .fieldLink RX3 9 "WellMoods$Tape" "bytes" "[B"] ++ wsX50 ++ wsX30)
def wsX5_village_r1 : List Cond := [Cond.fieldLink RX5 26 "WellMoods" "tape" "LWellMoods$Tape;", Cond.fieldLink RX5 33 "WellMoods" "newcomers" "LWellMoods$Folk;", Cond.fieldLink RX5 12 "WellMoods" "well" "LWellMoods$Well;", Cond.instanceMethod yX3_readFolk, Cond.initialized RX3, Cond.selects RX3 yX3_readFolk yX3_readFolk, Cond.code yX3_readFolk cX3_readFolk 4 (some .int), Cond.fieldLink RX3 19 "WellMoods$Tape" "place" "I", Cond.methodLink RX3 27 yX3_readOne, Cond.instanceMethod yX3_readOne, Cond.selects RX3 yX3_readOne yX3_readOne, Cond.code yX3_readOne cX3_readOne 6 (some .boolean), Cond.methodLink RX3 35 yX3_next, Cond.instanceMethod yX3_next, Cond.selects RX3 yX3_next yX3_next, Cond.code yX3_next cX3_next 1 (some .int), Cond.fieldLink RX3 15 "WellMoods$Tape" "length" "I", Cond.fieldLink RX3 9 "WellMoods$Tape" "bytes" "[B", Cond.methodLink RX3 38 yX3_kindBy, Cond.static yX3_kindBy, Cond.code yX3_kindBy cX3_kindBy 1 (some .int), Cond.methodLink RX3 42 yX3_readDigit, Cond.instanceMethod yX3_readDigit, Cond.selects RX3 yX3_readDigit yX3_readDigit]
def wsX5_village_r2 : List Cond := [Cond.code yX3_readDigit cX3_readDigit 4 (some .int), Cond.static yX5_within, Cond.initialized RX5, Cond.code yX5_within cX5_within 3 (some .boolean), Cond.instanceMethod yX0_add, Cond.initialized RX0, Cond.selects RX0 yX0_add yX0_add, Cond.code yX0_add cX0_add 5 (some .int), Cond.fieldLink RX0 24 "WellMoods$Folk" "count" "I", Cond.fieldLink RX0 9 "WellMoods$Folk" "kinds" "[I", Cond.fieldLink RX0 15 "WellMoods$Folk" "feelings" "[I", Cond.fieldLink RX0 18 "WellMoods$Folk" "rests" "[I", Cond.fieldLink RX0 21 "WellMoods$Folk" "foes" "[I", Cond.methodLink RX3 31 yX3_fault, Cond.instanceMethod yX3_fault, Cond.selects RX3 yX3_fault yX3_fault, Cond.code yX3_fault cX3_fault 1 (some .int), Cond.instanceMethod yX4_settle, Cond.initialized RX4, Cond.selects RX4 yX4_settle yX4_settle, Cond.code yX4_settle cX4_settle 3 none, Cond.fieldLink RX4 12 "WellMoods$Well" "folk" "LWellMoods$Folk;", Cond.fieldLink RX4 18 "WellMoods$Well" "waits" "[I", Cond.fieldLink RX4 47 "WellMoods$Well" "last" "I"]
def wsX5_village_r3 : List Cond := [Cond.fieldLink RX4 25 "WellMoods$Well" "planHours" "I", Cond.instanceMethod yX0_become, Cond.selects RX0 yX0_become yX0_become, Cond.code yX0_become cX0_become 3 none]
def wsX5_village : List Cond := .code yX5_village cX5_village 2 (some .int) :: ((wsX5_village_r1 ++ (wsX5_village_r2 ++ wsX5_village_r3)) ++ wsX50 ++ wsX30 ++ wsX00 ++ wsX40)
def wsX5_plan_r1 : List Cond := [Cond.fieldLink RX5 26 "WellMoods" "tape" "LWellMoods$Tape;", Cond.fieldLink RX5 37 "WellMoods" "newPlan" "[I", Cond.fieldLink RX5 12 "WellMoods" "well" "LWellMoods$Well;", Cond.instanceMethod yX3_readPlan, Cond.initialized RX3, Cond.selects RX3 yX3_readPlan yX3_readPlan, Cond.code yX3_readPlan cX3_readPlan 6 (some .int), Cond.fieldLink RX3 19 "WellMoods$Tape" "place" "I", Cond.methodLink RX3 35 yX3_next, Cond.instanceMethod yX3_next, Cond.selects RX3 yX3_next yX3_next, Cond.code yX3_next cX3_next 1 (some .int), Cond.fieldLink RX3 15 "WellMoods$Tape" "length" "I", Cond.fieldLink RX3 9 "WellMoods$Tape" "bytes" "[B", Cond.instanceMethod yX0_has, Cond.initialized RX0, Cond.selects RX0 yX0_has yX0_has, Cond.code yX0_has cX0_has 2 (some .boolean), Cond.fieldLink RX0 24 "WellMoods$Folk" "count" "I", Cond.methodLink RX3 31 yX3_fault, Cond.instanceMethod yX3_fault, Cond.selects RX3 yX3_fault yX3_fault, Cond.code yX3_fault cX3_fault 1 (some .int), Cond.instanceMethod yX4_adopt]
def wsX5_plan_r2 : List Cond := [Cond.initialized RX4, Cond.selects RX4 yX4_adopt yX4_adopt, Cond.code yX4_adopt cX4_adopt 3 none, Cond.methodLink RX4 63 Lib.Math.min.name, Cond.static Lib.Math.min.name, Cond.initialized "java/lang/Math", Cond.code Lib.Math.min.name Lib.Math.min.code 2 (some .int), Cond.fieldLink RX4 25 "WellMoods$Well" "planHours" "I", Cond.fieldLink RX4 22 "WellMoods$Well" "planned" "[I", Cond.methodLink RX4 57 arraycopyName, Cond.native arraycopyName, Cond.static arraycopyName, Cond.initialized "java/lang/System"]
def wsX5_plan : List Cond := .code yX5_plan cX5_plan 2 (some .int) :: ((wsX5_plan_r1 ++ wsX5_plan_r2) ++ wsX50 ++ wsX40 ++ wsX30 ++ wsX00)
def wsX5_may : List Cond := .code yX5_may cX5_may 3 (some .int) :: ([.fieldLink RX5 12 "WellMoods" "well" "LWellMoods$Well;", .instanceMethod yX4_mayDraw, .initialized RX4, .selects RX4 yX4_mayDraw yX4_mayDraw, .code yX4_mayDraw cX4_mayDraw 2 (some .boolean), .fieldLink RX4 12 "WellMoods$Well" "folk" "LWellMoods$Folk;", .fieldLink RX4 18 "WellMoods$Well" "waits" "[I", .instanceMethod yX0_has, .initialized RX0, .selects RX0 yX0_has yX0_has, .code yX0_has cX0_has 2 (some .boolean), .fieldLink RX0 24 "WellMoods$Folk" "count" "I"] ++ wsX50 ++ wsX40 ++ wsX00)
def wsX5_draw_r1 : List Cond := [Cond.fieldLink RX5 12 "WellMoods" "well" "LWellMoods$Well;", Cond.instanceMethod yX0_has, Cond.initialized RX0, Cond.selects RX0 yX0_has yX0_has, Cond.code yX0_has cX0_has 2 (some .boolean), Cond.fieldLink RX0 24 "WellMoods$Folk" "count" "I", Cond.instanceMethod yX4_mayDraw, Cond.initialized RX4, Cond.selects RX4 yX4_mayDraw yX4_mayDraw, Cond.code yX4_mayDraw cX4_mayDraw 2 (some .boolean), Cond.fieldLink RX4 12 "WellMoods$Well" "folk" "LWellMoods$Folk;", Cond.fieldLink RX4 18 "WellMoods$Well" "waits" "[I", Cond.instanceMethod yX4_hasHours, Cond.selects RX4 yX4_hasHours yX4_hasHours, Cond.code yX4_hasHours cX4_hasHours 2 (some .boolean), Cond.fieldLink RX4 44 "WellMoods$Well" "hour" "I", Cond.instanceMethod yX4_passHour, Cond.selects RX4 yX4_passHour yX4_passHour, Cond.code yX4_passHour cX4_passHour 3 (some .int), Cond.fieldLink RX4 47 "WellMoods$Well" "last" "I", Cond.methodLink RX4 80 yX4_mayDraw, Cond.methodLink RX4 83 yX4_drawBy, Cond.instanceMethod yX4_drawBy, Cond.selects RX4 yX4_drawBy yX4_drawBy]
def wsX5_draw_r2 : List Cond := [Cond.code yX4_drawBy cX4_drawBy 3 (some .int), Cond.fieldLink RX4 29 "WellMoods$Well" "mood" "I", Cond.fieldLink RX4 32 "WellMoods$Well" "level" "I", Cond.fieldLink RX4 38 "WellMoods$Well" "sweet" "I", Cond.fieldLink RX4 41 "WellMoods$Well" "salt" "I", Cond.instanceMethod yX0_pailsBehind, Cond.selects RX0 yX0_pailsBehind yX0_pailsBehind, Cond.code yX0_pailsBehind cX0_pailsBehind 5 (some .int), Cond.methodLink RX0 32 Lib.Math.min.name, Cond.static Lib.Math.min.name, Cond.initialized "java/lang/Math", Cond.code Lib.Math.min.name Lib.Math.min.code 2 (some .int), Cond.methodLink RX0 41 yX0_areFoes, Cond.instanceMethod yX0_areFoes, Cond.selects RX0 yX0_areFoes yX0_areFoes, Cond.code yX0_areFoes cX0_areFoes 3 (some .boolean), Cond.fieldLink RX0 21 "WellMoods$Folk" "foes" "[I", Cond.methodLink RX0 28 yX0_has, Cond.methodLink RX0 45 yX0_pailsAt, Cond.instanceMethod yX0_pailsAt, Cond.selects RX0 yX0_pailsAt yX0_pailsAt, Cond.code yX0_pailsAt cX0_pailsAt 4 (some .int), Cond.fieldLink RX0 9 "WellMoods$Folk" "kinds" "[I", Cond.methodLink RX0 38 Lib.Math.max.name]
def wsX5_draw_r3 : List Cond := [Cond.static Lib.Math.max.name, Cond.code Lib.Math.max.name Lib.Math.max.code 2 (some .int), Cond.instanceMethod yX0_isSweet, Cond.selects RX0 yX0_isSweet yX0_isSweet, Cond.code yX0_isSweet cX0_isSweet 3 (some .boolean), Cond.instanceMethod yX0_moodBehind, Cond.selects RX0 yX0_moodBehind yX0_moodBehind, Cond.code yX0_moodBehind cX0_moodBehind 3 (some .int), Cond.fieldLink RX0 15 "WellMoods$Folk" "feelings" "[I", Cond.static yX5_asMood, Cond.initialized RX5, Cond.code yX5_asMood cX5_asMood 1 (some .int), Cond.methodLink RX5 263 Lib.Math.min.name, Cond.methodLink RX5 268 Lib.Math.max.name, Cond.methodLink RX4 87 yX4_endHour, Cond.instanceMethod yX4_endHour, Cond.selects RX4 yX4_endHour yX4_endHour, Cond.code yX4_endHour cX4_endHour 2 none, Cond.fieldLink RX4 35 "WellMoods$Well" "rain" "I", Cond.methodLink RX4 109 Lib.Math.max.name, Cond.static yX5_waned, Cond.code yX5_waned cX5_waned 1 (some .int), Cond.methodLink RX5 271 yJ6_compare_7cf53, Cond.static yJ6_compare_7cf53]
def wsX5_draw_r4 : List Cond := [Cond.initialized RJ6, Cond.code yJ6_compare_7cf53 cJ6_compare_7cf53 2 (some .int), Cond.static yX5_rained, Cond.code yX5_rained cX5_rained 2 (some .int)]
def wsX5_draw : List Cond := .code yX5_draw cX5_draw 2 (some .int) :: ((wsX5_draw_r1 ++ (wsX5_draw_r2 ++ (wsX5_draw_r3 ++ wsX5_draw_r4))) ++ wsX50 ++ wsX40 ++ wsX00)
def wsX5_pass_r1 : List Cond := [Cond.fieldLink RX5 12 "WellMoods" "well" "LWellMoods$Well;", Cond.methodLink RX5 55 yX5_within, Cond.static yX5_within, Cond.initialized RX5, Cond.code yX5_within cX5_within 3 (some .boolean), Cond.instanceMethod yX4_hasHours, Cond.initialized RX4, Cond.selects RX4 yX4_hasHours yX4_hasHours, Cond.code yX4_hasHours cX4_hasHours 2 (some .boolean), Cond.fieldLink RX4 44 "WellMoods$Well" "hour" "I", Cond.instanceMethod yX4_passHour, Cond.selects RX4 yX4_passHour yX4_passHour, Cond.code yX4_passHour cX4_passHour 3 (some .int), Cond.fieldLink RX4 47 "WellMoods$Well" "last" "I", Cond.methodLink RX4 80 yX4_mayDraw, Cond.instanceMethod yX4_mayDraw, Cond.selects RX4 yX4_mayDraw yX4_mayDraw, Cond.code yX4_mayDraw cX4_mayDraw 2 (some .boolean), Cond.fieldLink RX4 12 "WellMoods$Well" "folk" "LWellMoods$Folk;", Cond.fieldLink RX4 18 "WellMoods$Well" "waits" "[I", Cond.instanceMethod yX0_has, Cond.initialized RX0, Cond.selects RX0 yX0_has yX0_has, Cond.code yX0_has cX0_has 2 (some .boolean)]
def wsX5_pass_r2 : List Cond := [Cond.fieldLink RX0 24 "WellMoods$Folk" "count" "I", Cond.methodLink RX4 83 yX4_drawBy, Cond.instanceMethod yX4_drawBy, Cond.selects RX4 yX4_drawBy yX4_drawBy, Cond.code yX4_drawBy cX4_drawBy 3 (some .int), Cond.fieldLink RX4 29 "WellMoods$Well" "mood" "I", Cond.fieldLink RX4 32 "WellMoods$Well" "level" "I", Cond.fieldLink RX4 38 "WellMoods$Well" "sweet" "I", Cond.fieldLink RX4 41 "WellMoods$Well" "salt" "I", Cond.instanceMethod yX0_pailsBehind, Cond.selects RX0 yX0_pailsBehind yX0_pailsBehind, Cond.code yX0_pailsBehind cX0_pailsBehind 5 (some .int), Cond.methodLink RX0 32 Lib.Math.min.name, Cond.static Lib.Math.min.name, Cond.initialized "java/lang/Math", Cond.code Lib.Math.min.name Lib.Math.min.code 2 (some .int), Cond.methodLink RX0 41 yX0_areFoes, Cond.instanceMethod yX0_areFoes, Cond.selects RX0 yX0_areFoes yX0_areFoes, Cond.code yX0_areFoes cX0_areFoes 3 (some .boolean), Cond.fieldLink RX0 21 "WellMoods$Folk" "foes" "[I", Cond.methodLink RX0 28 yX0_has, Cond.methodLink RX0 45 yX0_pailsAt, Cond.instanceMethod yX0_pailsAt]
def wsX5_pass_r3 : List Cond := [Cond.selects RX0 yX0_pailsAt yX0_pailsAt, Cond.code yX0_pailsAt cX0_pailsAt 4 (some .int), Cond.fieldLink RX0 9 "WellMoods$Folk" "kinds" "[I", Cond.methodLink RX0 38 Lib.Math.max.name, Cond.static Lib.Math.max.name, Cond.code Lib.Math.max.name Lib.Math.max.code 2 (some .int), Cond.instanceMethod yX0_isSweet, Cond.selects RX0 yX0_isSweet yX0_isSweet, Cond.code yX0_isSweet cX0_isSweet 3 (some .boolean), Cond.instanceMethod yX0_moodBehind, Cond.selects RX0 yX0_moodBehind yX0_moodBehind, Cond.code yX0_moodBehind cX0_moodBehind 3 (some .int), Cond.fieldLink RX0 15 "WellMoods$Folk" "feelings" "[I", Cond.static yX5_asMood, Cond.code yX5_asMood cX5_asMood 1 (some .int), Cond.methodLink RX5 263 Lib.Math.min.name, Cond.methodLink RX5 268 Lib.Math.max.name, Cond.methodLink RX4 87 yX4_endHour, Cond.instanceMethod yX4_endHour, Cond.selects RX4 yX4_endHour yX4_endHour, Cond.code yX4_endHour cX4_endHour 2 none, Cond.fieldLink RX4 35 "WellMoods$Well" "rain" "I", Cond.methodLink RX4 109 Lib.Math.max.name, Cond.static yX5_waned]
def wsX5_pass_r4 : List Cond := [Cond.code yX5_waned cX5_waned 1 (some .int), Cond.methodLink RX5 271 yJ6_compare_7cf53, Cond.static yJ6_compare_7cf53, Cond.initialized RJ6, Cond.code yJ6_compare_7cf53 cJ6_compare_7cf53 2 (some .int), Cond.static yX5_rained, Cond.code yX5_rained cX5_rained 2 (some .int)]
def wsX5_pass : List Cond := .code yX5_pass cX5_pass 3 (some .int) :: ((wsX5_pass_r1 ++ (wsX5_pass_r2 ++ (wsX5_pass_r3 ++ wsX5_pass_r4))) ++ wsX50 ++ wsX40 ++ wsX00)
def wsX5_run_r1 : List Cond := [Cond.fieldLink RX5 12 "WellMoods" "well" "LWellMoods$Well;", Cond.instanceMethod yX4_hasHours, Cond.initialized RX4, Cond.selects RX4 yX4_hasHours yX4_hasHours, Cond.code yX4_hasHours cX4_hasHours 2 (some .boolean), Cond.fieldLink RX4 44 "WellMoods$Well" "hour" "I", Cond.instanceMethod yX4_followPlan, Cond.selects RX4 yX4_followPlan yX4_followPlan, Cond.code yX4_followPlan cX4_followPlan 2 (some .int), Cond.fieldLink RX4 25 "WellMoods$Well" "planHours" "I", Cond.fieldLink RX4 22 "WellMoods$Well" "planned" "[I", Cond.methodLink RX4 80 yX4_mayDraw, Cond.instanceMethod yX4_mayDraw, Cond.selects RX4 yX4_mayDraw yX4_mayDraw, Cond.code yX4_mayDraw cX4_mayDraw 2 (some .boolean), Cond.fieldLink RX4 12 "WellMoods$Well" "folk" "LWellMoods$Folk;", Cond.fieldLink RX4 18 "WellMoods$Well" "waits" "[I", Cond.instanceMethod yX0_has, Cond.initialized RX0, Cond.selects RX0 yX0_has yX0_has, Cond.code yX0_has cX0_has 2 (some .boolean), Cond.fieldLink RX0 24 "WellMoods$Folk" "count" "I", Cond.methodLink RX4 112 yX4_passHour, Cond.instanceMethod yX4_passHour]
def wsX5_run_r2 : List Cond := [Cond.selects RX4 yX4_passHour yX4_passHour, Cond.code yX4_passHour cX4_passHour 3 (some .int), Cond.fieldLink RX4 47 "WellMoods$Well" "last" "I", Cond.methodLink RX4 83 yX4_drawBy, Cond.instanceMethod yX4_drawBy, Cond.selects RX4 yX4_drawBy yX4_drawBy, Cond.code yX4_drawBy cX4_drawBy 3 (some .int), Cond.fieldLink RX4 29 "WellMoods$Well" "mood" "I", Cond.fieldLink RX4 32 "WellMoods$Well" "level" "I", Cond.fieldLink RX4 38 "WellMoods$Well" "sweet" "I", Cond.fieldLink RX4 41 "WellMoods$Well" "salt" "I", Cond.instanceMethod yX0_pailsBehind, Cond.selects RX0 yX0_pailsBehind yX0_pailsBehind, Cond.code yX0_pailsBehind cX0_pailsBehind 5 (some .int), Cond.methodLink RX0 32 Lib.Math.min.name, Cond.static Lib.Math.min.name, Cond.initialized "java/lang/Math", Cond.code Lib.Math.min.name Lib.Math.min.code 2 (some .int), Cond.methodLink RX0 41 yX0_areFoes, Cond.instanceMethod yX0_areFoes, Cond.selects RX0 yX0_areFoes yX0_areFoes, Cond.code yX0_areFoes cX0_areFoes 3 (some .boolean), Cond.fieldLink RX0 21 "WellMoods$Folk" "foes" "[I", Cond.methodLink RX0 28 yX0_has]
def wsX5_run_r3 : List Cond := [Cond.methodLink RX0 45 yX0_pailsAt, Cond.instanceMethod yX0_pailsAt, Cond.selects RX0 yX0_pailsAt yX0_pailsAt, Cond.code yX0_pailsAt cX0_pailsAt 4 (some .int), Cond.fieldLink RX0 9 "WellMoods$Folk" "kinds" "[I", Cond.methodLink RX0 38 Lib.Math.max.name, Cond.static Lib.Math.max.name, Cond.code Lib.Math.max.name Lib.Math.max.code 2 (some .int), Cond.instanceMethod yX0_isSweet, Cond.selects RX0 yX0_isSweet yX0_isSweet, Cond.code yX0_isSweet cX0_isSweet 3 (some .boolean), Cond.instanceMethod yX0_moodBehind, Cond.selects RX0 yX0_moodBehind yX0_moodBehind, Cond.code yX0_moodBehind cX0_moodBehind 3 (some .int), Cond.fieldLink RX0 15 "WellMoods$Folk" "feelings" "[I", Cond.static yX5_asMood, Cond.initialized RX5, Cond.code yX5_asMood cX5_asMood 1 (some .int), Cond.methodLink RX5 263 Lib.Math.min.name, Cond.methodLink RX5 268 Lib.Math.max.name, Cond.methodLink RX4 87 yX4_endHour, Cond.instanceMethod yX4_endHour, Cond.selects RX4 yX4_endHour yX4_endHour, Cond.code yX4_endHour cX4_endHour 2 none]
def wsX5_run_r4 : List Cond := [Cond.fieldLink RX4 35 "WellMoods$Well" "rain" "I", Cond.methodLink RX4 109 Lib.Math.max.name, Cond.static yX5_waned, Cond.code yX5_waned cX5_waned 1 (some .int), Cond.methodLink RX5 271 yJ6_compare_7cf53, Cond.static yJ6_compare_7cf53, Cond.initialized RJ6, Cond.code yJ6_compare_7cf53 cJ6_compare_7cf53 2 (some .int), Cond.static yX5_rained, Cond.code yX5_rained cX5_rained 2 (some .int)]
def wsX5_run : List Cond := .code yX5_run cX5_run 1 (some .int) :: ((wsX5_run_r1 ++ (wsX5_run_r2 ++ (wsX5_run_r3 ++ wsX5_run_r4))) ++ wsX50 ++ wsX40 ++ wsX00)
def wsX5_mostFrom_r1 : List Cond := [Cond.fieldLink RX5 44 "WellMoods" "search" "LWellMoods$Search;", Cond.fieldLink RX5 12 "WellMoods" "well" "LWellMoods$Well;", Cond.instanceMethod yX1_observe, Cond.initialized RX1, Cond.selects RX1 yX1_observe yX1_observe, Cond.code yX1_observe cX1_observe 2 none, Cond.fieldLink RX1 12 "WellMoods$Search" "folk" "LWellMoods$Folk;", Cond.fieldLink RX1 18 "WellMoods$Search" "freeFrom" "[I", Cond.methodLink RX1 54 arraycopyName, Cond.native arraycopyName, Cond.static arraycopyName, Cond.initialized "java/lang/System", Cond.fieldLink RX1 28 "WellMoods$Search" "level" "I", Cond.fieldLink RX1 32 "WellMoods$Search" "rain" "I", Cond.fieldLink RX1 35 "WellMoods$Search" "last" "I", Cond.instanceMethod yX0_become, Cond.initialized RX0, Cond.selects RX0 yX0_become yX0_become, Cond.code yX0_become cX0_become 3 none, Cond.fieldLink RX0 9 "WellMoods$Folk" "kinds" "[I", Cond.fieldLink RX0 15 "WellMoods$Folk" "feelings" "[I", Cond.fieldLink RX0 18 "WellMoods$Folk" "rests" "[I", Cond.fieldLink RX0 21 "WellMoods$Folk" "foes" "[I", Cond.fieldLink RX0 24 "WellMoods$Folk" "count" "I"]
def wsX5_mostFrom_r2 : List Cond := [Cond.instanceMethod yX1_mostIn, Cond.selects RX1 yX1_mostIn yX1_mostIn, Cond.code yX1_mostIn cX1_mostIn 3 (some .int), Cond.methodLink RX1 63 Lib.Math.min.name, Cond.static Lib.Math.min.name, Cond.initialized "java/lang/Math", Cond.code Lib.Math.min.name Lib.Math.min.code 2 (some .int), Cond.fieldLink RX1 38 "WellMoods$Search" "hours" "I", Cond.fieldLink RX1 41 "WellMoods$Search" "best" "I", Cond.methodLink RX1 69 yX1_tryHour, Cond.instanceMethod yX1_tryHour, Cond.selects RX1 yX1_tryHour yX1_tryHour, Cond.code yX1_tryHour cX1_tryHour 7 none, Cond.fieldLink RX1 22 "WellMoods$Search" "path" "[I", Cond.methodLink RX1 73 yX1_keep, Cond.instanceMethod yX1_keep, Cond.selects RX1 yX1_keep yX1_keep, Cond.code yX1_keep cX1_keep 2 none, Cond.fieldLink RX1 25 "WellMoods$Search" "row" "[I", Cond.methodLink RX1 80 yX1_tryDrawing, Cond.instanceMethod yX1_tryDrawing, Cond.selects RX1 yX1_tryDrawing yX1_tryDrawing, Cond.static yX5_waned, Cond.initialized RX5]
def wsX5_mostFrom_r3 : List Cond := [Cond.code yX5_waned cX5_waned 1 (some .int), Cond.methodLink RX5 271 yJ6_compare_7cf53, Cond.static yJ6_compare_7cf53, Cond.initialized RJ6, Cond.code yJ6_compare_7cf53 cJ6_compare_7cf53 2 (some .int), Cond.static yX5_rained, Cond.code yX5_rained cX5_rained 2 (some .int), Cond.methodLink RX5 263 Lib.Math.min.name, Cond.code yX1_tryDrawing cX1_tryDrawing 10 none, Cond.instanceMethod yX0_pailsBehind, Cond.selects RX0 yX0_pailsBehind yX0_pailsBehind, Cond.code yX0_pailsBehind cX0_pailsBehind 5 (some .int), Cond.methodLink RX0 32 Lib.Math.min.name, Cond.methodLink RX0 41 yX0_areFoes, Cond.instanceMethod yX0_areFoes, Cond.selects RX0 yX0_areFoes yX0_areFoes, Cond.code yX0_areFoes cX0_areFoes 3 (some .boolean), Cond.methodLink RX0 28 yX0_has, Cond.instanceMethod yX0_has, Cond.selects RX0 yX0_has yX0_has, Cond.code yX0_has cX0_has 2 (some .boolean), Cond.methodLink RX0 45 yX0_pailsAt, Cond.instanceMethod yX0_pailsAt, Cond.selects RX0 yX0_pailsAt yX0_pailsAt]
def wsX5_mostFrom_r4 : List Cond := [Cond.code yX0_pailsAt cX0_pailsAt 4 (some .int), Cond.methodLink RX0 38 Lib.Math.max.name, Cond.static Lib.Math.max.name, Cond.code Lib.Math.max.name Lib.Math.max.code 2 (some .int), Cond.instanceMethod yX0_isSweet, Cond.selects RX0 yX0_isSweet yX0_isSweet, Cond.code yX0_isSweet cX0_isSweet 3 (some .boolean), Cond.instanceMethod yX0_moodBehind, Cond.selects RX0 yX0_moodBehind yX0_moodBehind, Cond.code yX0_moodBehind cX0_moodBehind 3 (some .int), Cond.static yX5_asMood, Cond.code yX5_asMood cX5_asMood 1 (some .int), Cond.methodLink RX5 268 Lib.Math.max.name]
def wsX5_mostFrom : List Cond := .code yX5_mostFrom cX5_mostFrom 3 (some .int) :: ((wsX5_mostFrom_r1 ++ (wsX5_mostFrom_r2 ++ (wsX5_mostFrom_r3 ++ wsX5_mostFrom_r4))) ++ wsX50 ++ wsX10 ++ wsX40 ++ wsX00)
def wsX5_most_r1 : List Cond := [Cond.fieldLink RX5 12 "WellMoods" "well" "LWellMoods$Well;", Cond.methodLink RX5 55 yX5_within, Cond.static yX5_within, Cond.initialized RX5, Cond.code yX5_within cX5_within 3 (some .boolean), Cond.methodLink RX5 170 yX5_mostFrom, Cond.instanceMethod yX5_mostFrom, Cond.selects RX5 yX5_mostFrom yX5_mostFrom, Cond.code yX5_mostFrom cX5_mostFrom 3 (some .int), Cond.fieldLink RX5 44 "WellMoods" "search" "LWellMoods$Search;", Cond.instanceMethod yX1_observe, Cond.initialized RX1, Cond.selects RX1 yX1_observe yX1_observe, Cond.code yX1_observe cX1_observe 2 none, Cond.fieldLink RX1 12 "WellMoods$Search" "folk" "LWellMoods$Folk;", Cond.fieldLink RX1 18 "WellMoods$Search" "freeFrom" "[I", Cond.methodLink RX1 54 arraycopyName, Cond.native arraycopyName, Cond.static arraycopyName, Cond.initialized "java/lang/System", Cond.fieldLink RX1 28 "WellMoods$Search" "level" "I", Cond.fieldLink RX1 32 "WellMoods$Search" "rain" "I", Cond.fieldLink RX1 35 "WellMoods$Search" "last" "I", Cond.instanceMethod yX0_become]
def wsX5_most_r2 : List Cond := [Cond.initialized RX0, Cond.selects RX0 yX0_become yX0_become, Cond.code yX0_become cX0_become 3 none, Cond.fieldLink RX0 9 "WellMoods$Folk" "kinds" "[I", Cond.fieldLink RX0 15 "WellMoods$Folk" "feelings" "[I", Cond.fieldLink RX0 18 "WellMoods$Folk" "rests" "[I", Cond.fieldLink RX0 21 "WellMoods$Folk" "foes" "[I", Cond.fieldLink RX0 24 "WellMoods$Folk" "count" "I", Cond.instanceMethod yX1_mostIn, Cond.selects RX1 yX1_mostIn yX1_mostIn, Cond.code yX1_mostIn cX1_mostIn 3 (some .int), Cond.methodLink RX1 63 Lib.Math.min.name, Cond.static Lib.Math.min.name, Cond.initialized "java/lang/Math", Cond.code Lib.Math.min.name Lib.Math.min.code 2 (some .int), Cond.fieldLink RX1 38 "WellMoods$Search" "hours" "I", Cond.fieldLink RX1 41 "WellMoods$Search" "best" "I", Cond.methodLink RX1 69 yX1_tryHour, Cond.instanceMethod yX1_tryHour, Cond.selects RX1 yX1_tryHour yX1_tryHour, Cond.code yX1_tryHour cX1_tryHour 7 none, Cond.fieldLink RX1 22 "WellMoods$Search" "path" "[I", Cond.methodLink RX1 73 yX1_keep, Cond.instanceMethod yX1_keep]
def wsX5_most_r3 : List Cond := [Cond.selects RX1 yX1_keep yX1_keep, Cond.code yX1_keep cX1_keep 2 none, Cond.fieldLink RX1 25 "WellMoods$Search" "row" "[I", Cond.methodLink RX1 80 yX1_tryDrawing, Cond.instanceMethod yX1_tryDrawing, Cond.selects RX1 yX1_tryDrawing yX1_tryDrawing, Cond.static yX5_waned, Cond.code yX5_waned cX5_waned 1 (some .int), Cond.methodLink RX5 271 yJ6_compare_7cf53, Cond.static yJ6_compare_7cf53, Cond.initialized RJ6, Cond.code yJ6_compare_7cf53 cJ6_compare_7cf53 2 (some .int), Cond.static yX5_rained, Cond.code yX5_rained cX5_rained 2 (some .int), Cond.methodLink RX5 263 Lib.Math.min.name, Cond.code yX1_tryDrawing cX1_tryDrawing 10 none, Cond.instanceMethod yX0_pailsBehind, Cond.selects RX0 yX0_pailsBehind yX0_pailsBehind, Cond.code yX0_pailsBehind cX0_pailsBehind 5 (some .int), Cond.methodLink RX0 32 Lib.Math.min.name, Cond.methodLink RX0 41 yX0_areFoes, Cond.instanceMethod yX0_areFoes, Cond.selects RX0 yX0_areFoes yX0_areFoes, Cond.code yX0_areFoes cX0_areFoes 3 (some .boolean)]
def wsX5_most_r4 : List Cond := [Cond.methodLink RX0 28 yX0_has, Cond.instanceMethod yX0_has, Cond.selects RX0 yX0_has yX0_has, Cond.code yX0_has cX0_has 2 (some .boolean), Cond.methodLink RX0 45 yX0_pailsAt, Cond.instanceMethod yX0_pailsAt, Cond.selects RX0 yX0_pailsAt yX0_pailsAt, Cond.code yX0_pailsAt cX0_pailsAt 4 (some .int), Cond.methodLink RX0 38 Lib.Math.max.name, Cond.static Lib.Math.max.name, Cond.code Lib.Math.max.name Lib.Math.max.code 2 (some .int), Cond.instanceMethod yX0_isSweet, Cond.selects RX0 yX0_isSweet yX0_isSweet, Cond.code yX0_isSweet cX0_isSweet 3 (some .boolean), Cond.instanceMethod yX0_moodBehind, Cond.selects RX0 yX0_moodBehind yX0_moodBehind, Cond.code yX0_moodBehind cX0_moodBehind 3 (some .int), Cond.static yX5_asMood, Cond.code yX5_asMood cX5_asMood 1 (some .int), Cond.methodLink RX5 268 Lib.Math.max.name]
def wsX5_most : List Cond := .code yX5_most cX5_most 2 (some .int) :: ((wsX5_most_r1 ++ (wsX5_most_r2 ++ (wsX5_most_r3 ++ wsX5_most_r4))) ++ wsX50 ++ wsX40 ++ wsX10 ++ wsX00)
def wsX5_row_r1 : List Cond := [Cond.fieldLink RX5 12 "WellMoods" "well" "LWellMoods$Well;", Cond.fieldLink RX5 44 "WellMoods" "search" "LWellMoods$Search;", Cond.methodLink RX5 55 yX5_within, Cond.static yX5_within, Cond.initialized RX5, Cond.code yX5_within cX5_within 3 (some .boolean), Cond.methodLink RX5 170 yX5_mostFrom, Cond.instanceMethod yX5_mostFrom, Cond.selects RX5 yX5_mostFrom yX5_mostFrom, Cond.code yX5_mostFrom cX5_mostFrom 3 (some .int), Cond.instanceMethod yX1_observe, Cond.initialized RX1, Cond.selects RX1 yX1_observe yX1_observe, Cond.code yX1_observe cX1_observe 2 none, Cond.fieldLink RX1 12 "WellMoods$Search" "folk" "LWellMoods$Folk;", Cond.fieldLink RX1 18 "WellMoods$Search" "freeFrom" "[I", Cond.methodLink RX1 54 arraycopyName, Cond.native arraycopyName, Cond.static arraycopyName, Cond.initialized "java/lang/System", Cond.fieldLink RX1 28 "WellMoods$Search" "level" "I", Cond.fieldLink RX1 32 "WellMoods$Search" "rain" "I", Cond.fieldLink RX1 35 "WellMoods$Search" "last" "I", Cond.instanceMethod yX0_become]
def wsX5_row_r2 : List Cond := [Cond.initialized RX0, Cond.selects RX0 yX0_become yX0_become, Cond.code yX0_become cX0_become 3 none, Cond.fieldLink RX0 9 "WellMoods$Folk" "kinds" "[I", Cond.fieldLink RX0 15 "WellMoods$Folk" "feelings" "[I", Cond.fieldLink RX0 18 "WellMoods$Folk" "rests" "[I", Cond.fieldLink RX0 21 "WellMoods$Folk" "foes" "[I", Cond.fieldLink RX0 24 "WellMoods$Folk" "count" "I", Cond.instanceMethod yX1_mostIn, Cond.selects RX1 yX1_mostIn yX1_mostIn, Cond.code yX1_mostIn cX1_mostIn 3 (some .int), Cond.methodLink RX1 63 Lib.Math.min.name, Cond.static Lib.Math.min.name, Cond.initialized "java/lang/Math", Cond.code Lib.Math.min.name Lib.Math.min.code 2 (some .int), Cond.fieldLink RX1 38 "WellMoods$Search" "hours" "I", Cond.fieldLink RX1 41 "WellMoods$Search" "best" "I", Cond.methodLink RX1 69 yX1_tryHour, Cond.instanceMethod yX1_tryHour, Cond.selects RX1 yX1_tryHour yX1_tryHour, Cond.code yX1_tryHour cX1_tryHour 7 none, Cond.fieldLink RX1 22 "WellMoods$Search" "path" "[I", Cond.methodLink RX1 73 yX1_keep, Cond.instanceMethod yX1_keep]
def wsX5_row_r3 : List Cond := [Cond.selects RX1 yX1_keep yX1_keep, Cond.code yX1_keep cX1_keep 2 none, Cond.fieldLink RX1 25 "WellMoods$Search" "row" "[I", Cond.methodLink RX1 80 yX1_tryDrawing, Cond.instanceMethod yX1_tryDrawing, Cond.selects RX1 yX1_tryDrawing yX1_tryDrawing, Cond.static yX5_waned, Cond.code yX5_waned cX5_waned 1 (some .int), Cond.methodLink RX5 271 yJ6_compare_7cf53, Cond.static yJ6_compare_7cf53, Cond.initialized RJ6, Cond.code yJ6_compare_7cf53 cJ6_compare_7cf53 2 (some .int), Cond.static yX5_rained, Cond.code yX5_rained cX5_rained 2 (some .int), Cond.methodLink RX5 263 Lib.Math.min.name, Cond.code yX1_tryDrawing cX1_tryDrawing 10 none, Cond.instanceMethod yX0_pailsBehind, Cond.selects RX0 yX0_pailsBehind yX0_pailsBehind, Cond.code yX0_pailsBehind cX0_pailsBehind 5 (some .int), Cond.methodLink RX0 32 Lib.Math.min.name, Cond.methodLink RX0 41 yX0_areFoes, Cond.instanceMethod yX0_areFoes, Cond.selects RX0 yX0_areFoes yX0_areFoes, Cond.code yX0_areFoes cX0_areFoes 3 (some .boolean)]
def wsX5_row_r4 : List Cond := [Cond.methodLink RX0 28 yX0_has, Cond.instanceMethod yX0_has, Cond.selects RX0 yX0_has yX0_has, Cond.code yX0_has cX0_has 2 (some .boolean), Cond.methodLink RX0 45 yX0_pailsAt, Cond.instanceMethod yX0_pailsAt, Cond.selects RX0 yX0_pailsAt yX0_pailsAt, Cond.code yX0_pailsAt cX0_pailsAt 4 (some .int), Cond.methodLink RX0 38 Lib.Math.max.name, Cond.static Lib.Math.max.name, Cond.code Lib.Math.max.name Lib.Math.max.code 2 (some .int), Cond.instanceMethod yX0_isSweet, Cond.selects RX0 yX0_isSweet yX0_isSweet, Cond.code yX0_isSweet cX0_isSweet 3 (some .boolean), Cond.instanceMethod yX0_moodBehind, Cond.selects RX0 yX0_moodBehind yX0_moodBehind, Cond.code yX0_moodBehind cX0_moodBehind 3 (some .int), Cond.static yX5_asMood, Cond.code yX5_asMood cX5_asMood 1 (some .int), Cond.methodLink RX5 268 Lib.Math.max.name]
def wsX5_row : List Cond := .code yX5_row cX5_row 3 (some .int) :: ((wsX5_row_r1 ++ (wsX5_row_r2 ++ (wsX5_row_r3 ++ wsX5_row_r4))) ++ wsX50 ++ wsX40 ++ wsX10 ++ wsX00)
def wsX5_fewest_r1 : List Cond := [Cond.fieldLink RX5 44 "WellMoods" "search" "LWellMoods$Search;", Cond.fieldLink RX5 12 "WellMoods" "well" "LWellMoods$Well;", Cond.methodLink RX5 55 yX5_within, Cond.static yX5_within, Cond.initialized RX5, Cond.code yX5_within cX5_within 3 (some .boolean), Cond.instanceMethod yX1_observe, Cond.initialized RX1, Cond.selects RX1 yX1_observe yX1_observe, Cond.code yX1_observe cX1_observe 2 none, Cond.fieldLink RX1 12 "WellMoods$Search" "folk" "LWellMoods$Folk;", Cond.fieldLink RX1 18 "WellMoods$Search" "freeFrom" "[I", Cond.methodLink RX1 54 arraycopyName, Cond.native arraycopyName, Cond.static arraycopyName, Cond.initialized "java/lang/System", Cond.fieldLink RX1 28 "WellMoods$Search" "level" "I", Cond.fieldLink RX1 32 "WellMoods$Search" "rain" "I", Cond.fieldLink RX1 35 "WellMoods$Search" "last" "I", Cond.instanceMethod yX0_become, Cond.initialized RX0, Cond.selects RX0 yX0_become yX0_become, Cond.code yX0_become cX0_become 3 none, Cond.fieldLink RX0 9 "WellMoods$Folk" "kinds" "[I"]
def wsX5_fewest_r2 : List Cond := [Cond.fieldLink RX0 15 "WellMoods$Folk" "feelings" "[I", Cond.fieldLink RX0 18 "WellMoods$Folk" "rests" "[I", Cond.fieldLink RX0 21 "WellMoods$Folk" "foes" "[I", Cond.fieldLink RX0 24 "WellMoods$Folk" "count" "I", Cond.instanceMethod yX1_mostIn, Cond.selects RX1 yX1_mostIn yX1_mostIn, Cond.code yX1_mostIn cX1_mostIn 3 (some .int), Cond.methodLink RX1 63 Lib.Math.min.name, Cond.static Lib.Math.min.name, Cond.initialized "java/lang/Math", Cond.code Lib.Math.min.name Lib.Math.min.code 2 (some .int), Cond.fieldLink RX1 38 "WellMoods$Search" "hours" "I", Cond.fieldLink RX1 41 "WellMoods$Search" "best" "I", Cond.methodLink RX1 69 yX1_tryHour, Cond.instanceMethod yX1_tryHour, Cond.selects RX1 yX1_tryHour yX1_tryHour, Cond.code yX1_tryHour cX1_tryHour 7 none, Cond.fieldLink RX1 22 "WellMoods$Search" "path" "[I", Cond.methodLink RX1 73 yX1_keep, Cond.instanceMethod yX1_keep, Cond.selects RX1 yX1_keep yX1_keep, Cond.code yX1_keep cX1_keep 2 none, Cond.fieldLink RX1 25 "WellMoods$Search" "row" "[I", Cond.methodLink RX1 80 yX1_tryDrawing]
def wsX5_fewest_r3 : List Cond := [Cond.instanceMethod yX1_tryDrawing, Cond.selects RX1 yX1_tryDrawing yX1_tryDrawing, Cond.static yX5_waned, Cond.code yX5_waned cX5_waned 1 (some .int), Cond.methodLink RX5 271 yJ6_compare_7cf53, Cond.static yJ6_compare_7cf53, Cond.initialized RJ6, Cond.code yJ6_compare_7cf53 cJ6_compare_7cf53 2 (some .int), Cond.static yX5_rained, Cond.code yX5_rained cX5_rained 2 (some .int), Cond.methodLink RX5 263 Lib.Math.min.name, Cond.code yX1_tryDrawing cX1_tryDrawing 10 none, Cond.instanceMethod yX0_pailsBehind, Cond.selects RX0 yX0_pailsBehind yX0_pailsBehind, Cond.code yX0_pailsBehind cX0_pailsBehind 5 (some .int), Cond.methodLink RX0 32 Lib.Math.min.name, Cond.methodLink RX0 41 yX0_areFoes, Cond.instanceMethod yX0_areFoes, Cond.selects RX0 yX0_areFoes yX0_areFoes, Cond.code yX0_areFoes cX0_areFoes 3 (some .boolean), Cond.methodLink RX0 28 yX0_has, Cond.instanceMethod yX0_has, Cond.selects RX0 yX0_has yX0_has, Cond.code yX0_has cX0_has 2 (some .boolean)]
def wsX5_fewest_r4 : List Cond := [Cond.methodLink RX0 45 yX0_pailsAt, Cond.instanceMethod yX0_pailsAt, Cond.selects RX0 yX0_pailsAt yX0_pailsAt, Cond.code yX0_pailsAt cX0_pailsAt 4 (some .int), Cond.methodLink RX0 38 Lib.Math.max.name, Cond.static Lib.Math.max.name, Cond.code Lib.Math.max.name Lib.Math.max.code 2 (some .int), Cond.instanceMethod yX0_isSweet, Cond.selects RX0 yX0_isSweet yX0_isSweet, Cond.code yX0_isSweet cX0_isSweet 3 (some .boolean), Cond.instanceMethod yX0_moodBehind, Cond.selects RX0 yX0_moodBehind yX0_moodBehind, Cond.code yX0_moodBehind cX0_moodBehind 3 (some .int), Cond.static yX5_asMood, Cond.code yX5_asMood cX5_asMood 1 (some .int), Cond.methodLink RX5 268 Lib.Math.max.name]
def wsX5_fewest : List Cond := .code yX5_fewest cX5_fewest 3 (some .int) :: ((wsX5_fewest_r1 ++ (wsX5_fewest_r2 ++ (wsX5_fewest_r3 ++ wsX5_fewest_r4))) ++ wsX50 ++ wsX40 ++ wsX10 ++ wsX00)
def wsX5_mostInPeace_r1 : List Cond := [Cond.fieldLink RX5 44 "WellMoods" "search" "LWellMoods$Search;", Cond.fieldLink RX5 12 "WellMoods" "well" "LWellMoods$Well;", Cond.instanceMethod yX0_makeFoes, Cond.initialized RX0, Cond.selects RX0 yX0_makeFoes yX0_makeFoes, Cond.code yX0_makeFoes cX0_makeFoes 4 none, Cond.fieldLink RX0 21 "WellMoods$Folk" "foes" "[I", Cond.methodLink RX0 28 yX0_has, Cond.instanceMethod yX0_has, Cond.selects RX0 yX0_has yX0_has, Cond.code yX0_has cX0_has 2 (some .boolean), Cond.fieldLink RX0 24 "WellMoods$Folk" "count" "I", Cond.instanceMethod yX1_mostIn, Cond.initialized RX1, Cond.selects RX1 yX1_mostIn yX1_mostIn, Cond.code yX1_mostIn cX1_mostIn 3 (some .int), Cond.methodLink RX1 63 Lib.Math.min.name, Cond.static Lib.Math.min.name, Cond.initialized "java/lang/Math", Cond.code Lib.Math.min.name Lib.Math.min.code 2 (some .int), Cond.fieldLink RX1 38 "WellMoods$Search" "hours" "I", Cond.fieldLink RX1 41 "WellMoods$Search" "best" "I", Cond.fieldLink RX1 28 "WellMoods$Search" "level" "I", Cond.fieldLink RX1 35 "WellMoods$Search" "last" "I"]
def wsX5_mostInPeace_r2 : List Cond := [Cond.methodLink RX1 69 yX1_tryHour, Cond.instanceMethod yX1_tryHour, Cond.selects RX1 yX1_tryHour yX1_tryHour, Cond.code yX1_tryHour cX1_tryHour 7 none, Cond.fieldLink RX1 12 "WellMoods$Search" "folk" "LWellMoods$Folk;", Cond.fieldLink RX1 18 "WellMoods$Search" "freeFrom" "[I", Cond.fieldLink RX1 22 "WellMoods$Search" "path" "[I", Cond.fieldLink RX1 32 "WellMoods$Search" "rain" "I", Cond.methodLink RX1 73 yX1_keep, Cond.instanceMethod yX1_keep, Cond.selects RX1 yX1_keep yX1_keep, Cond.code yX1_keep cX1_keep 2 none, Cond.fieldLink RX1 25 "WellMoods$Search" "row" "[I", Cond.methodLink RX1 54 arraycopyName, Cond.native arraycopyName, Cond.static arraycopyName, Cond.initialized "java/lang/System", Cond.methodLink RX1 80 yX1_tryDrawing, Cond.instanceMethod yX1_tryDrawing, Cond.selects RX1 yX1_tryDrawing yX1_tryDrawing, Cond.static yX5_waned, Cond.initialized RX5, Cond.code yX5_waned cX5_waned 1 (some .int), Cond.methodLink RX5 271 yJ6_compare_7cf53]
def wsX5_mostInPeace_r3 : List Cond := [Cond.static yJ6_compare_7cf53, Cond.initialized RJ6, Cond.code yJ6_compare_7cf53 cJ6_compare_7cf53 2 (some .int), Cond.static yX5_rained, Cond.code yX5_rained cX5_rained 2 (some .int), Cond.methodLink RX5 263 Lib.Math.min.name, Cond.code yX1_tryDrawing cX1_tryDrawing 10 none, Cond.instanceMethod yX0_pailsBehind, Cond.selects RX0 yX0_pailsBehind yX0_pailsBehind, Cond.code yX0_pailsBehind cX0_pailsBehind 5 (some .int), Cond.methodLink RX0 32 Lib.Math.min.name, Cond.methodLink RX0 41 yX0_areFoes, Cond.instanceMethod yX0_areFoes, Cond.selects RX0 yX0_areFoes yX0_areFoes, Cond.code yX0_areFoes cX0_areFoes 3 (some .boolean), Cond.methodLink RX0 45 yX0_pailsAt, Cond.instanceMethod yX0_pailsAt, Cond.selects RX0 yX0_pailsAt yX0_pailsAt, Cond.code yX0_pailsAt cX0_pailsAt 4 (some .int), Cond.fieldLink RX0 9 "WellMoods$Folk" "kinds" "[I", Cond.methodLink RX0 38 Lib.Math.max.name, Cond.static Lib.Math.max.name, Cond.code Lib.Math.max.name Lib.Math.max.code 2 (some .int), Cond.instanceMethod yX0_isSweet]
def wsX5_mostInPeace_r4 : List Cond := [Cond.selects RX0 yX0_isSweet yX0_isSweet, Cond.code yX0_isSweet cX0_isSweet 3 (some .boolean), Cond.instanceMethod yX0_moodBehind, Cond.selects RX0 yX0_moodBehind yX0_moodBehind, Cond.code yX0_moodBehind cX0_moodBehind 3 (some .int), Cond.fieldLink RX0 15 "WellMoods$Folk" "feelings" "[I", Cond.static yX5_asMood, Cond.code yX5_asMood cX5_asMood 1 (some .int), Cond.methodLink RX5 268 Lib.Math.max.name]
def wsX5_mostInPeace : List Cond := .code yX5_mostInPeace cX5_mostInPeace 4 (some .int) :: ((wsX5_mostInPeace_r1 ++ (wsX5_mostInPeace_r2 ++ (wsX5_mostInPeace_r3 ++ wsX5_mostInPeace_r4))) ++ wsX50 ++ wsX10 ++ wsX40 ++ wsX00)
def wsX5_peace_r1 : List Cond := [Cond.fieldLink RX5 44 "WellMoods" "search" "LWellMoods$Search;", Cond.fieldLink RX5 12 "WellMoods" "well" "LWellMoods$Well;", Cond.instanceMethod yX1_observe, Cond.initialized RX1, Cond.selects RX1 yX1_observe yX1_observe, Cond.code yX1_observe cX1_observe 2 none, Cond.fieldLink RX1 12 "WellMoods$Search" "folk" "LWellMoods$Folk;", Cond.fieldLink RX1 18 "WellMoods$Search" "freeFrom" "[I", Cond.methodLink RX1 54 arraycopyName, Cond.native arraycopyName, Cond.static arraycopyName, Cond.initialized "java/lang/System", Cond.fieldLink RX1 28 "WellMoods$Search" "level" "I", Cond.fieldLink RX1 32 "WellMoods$Search" "rain" "I", Cond.fieldLink RX1 35 "WellMoods$Search" "last" "I", Cond.instanceMethod yX0_become, Cond.initialized RX0, Cond.selects RX0 yX0_become yX0_become, Cond.code yX0_become cX0_become 3 none, Cond.fieldLink RX0 9 "WellMoods$Folk" "kinds" "[I", Cond.fieldLink RX0 15 "WellMoods$Folk" "feelings" "[I", Cond.fieldLink RX0 18 "WellMoods$Folk" "rests" "[I", Cond.fieldLink RX0 21 "WellMoods$Folk" "foes" "[I", Cond.fieldLink RX0 24 "WellMoods$Folk" "count" "I"]
def wsX5_peace_r2 : List Cond := [Cond.instanceMethod yX1_mostIn, Cond.selects RX1 yX1_mostIn yX1_mostIn, Cond.code yX1_mostIn cX1_mostIn 3 (some .int), Cond.methodLink RX1 63 Lib.Math.min.name, Cond.static Lib.Math.min.name, Cond.initialized "java/lang/Math", Cond.code Lib.Math.min.name Lib.Math.min.code 2 (some .int), Cond.fieldLink RX1 38 "WellMoods$Search" "hours" "I", Cond.fieldLink RX1 41 "WellMoods$Search" "best" "I", Cond.methodLink RX1 69 yX1_tryHour, Cond.instanceMethod yX1_tryHour, Cond.selects RX1 yX1_tryHour yX1_tryHour, Cond.code yX1_tryHour cX1_tryHour 7 none, Cond.fieldLink RX1 22 "WellMoods$Search" "path" "[I", Cond.methodLink RX1 73 yX1_keep, Cond.instanceMethod yX1_keep, Cond.selects RX1 yX1_keep yX1_keep, Cond.code yX1_keep cX1_keep 2 none, Cond.fieldLink RX1 25 "WellMoods$Search" "row" "[I", Cond.methodLink RX1 80 yX1_tryDrawing, Cond.instanceMethod yX1_tryDrawing, Cond.selects RX1 yX1_tryDrawing yX1_tryDrawing, Cond.static yX5_waned, Cond.initialized RX5]
def wsX5_peace_r3 : List Cond := [Cond.code yX5_waned cX5_waned 1 (some .int), Cond.methodLink RX5 271 yJ6_compare_7cf53, Cond.static yJ6_compare_7cf53, Cond.initialized RJ6, Cond.code yJ6_compare_7cf53 cJ6_compare_7cf53 2 (some .int), Cond.static yX5_rained, Cond.code yX5_rained cX5_rained 2 (some .int), Cond.methodLink RX5 263 Lib.Math.min.name, Cond.code yX1_tryDrawing cX1_tryDrawing 10 none, Cond.instanceMethod yX0_pailsBehind, Cond.selects RX0 yX0_pailsBehind yX0_pailsBehind, Cond.code yX0_pailsBehind cX0_pailsBehind 5 (some .int), Cond.methodLink RX0 32 Lib.Math.min.name, Cond.methodLink RX0 41 yX0_areFoes, Cond.instanceMethod yX0_areFoes, Cond.selects RX0 yX0_areFoes yX0_areFoes, Cond.code yX0_areFoes cX0_areFoes 3 (some .boolean), Cond.methodLink RX0 28 yX0_has, Cond.instanceMethod yX0_has, Cond.selects RX0 yX0_has yX0_has, Cond.code yX0_has cX0_has 2 (some .boolean), Cond.methodLink RX0 45 yX0_pailsAt, Cond.instanceMethod yX0_pailsAt, Cond.selects RX0 yX0_pailsAt yX0_pailsAt]
def wsX5_peace_r4 : List Cond := [Cond.code yX0_pailsAt cX0_pailsAt 4 (some .int), Cond.methodLink RX0 38 Lib.Math.max.name, Cond.static Lib.Math.max.name, Cond.code Lib.Math.max.name Lib.Math.max.code 2 (some .int), Cond.instanceMethod yX0_isSweet, Cond.selects RX0 yX0_isSweet yX0_isSweet, Cond.code yX0_isSweet cX0_isSweet 3 (some .boolean), Cond.instanceMethod yX0_moodBehind, Cond.selects RX0 yX0_moodBehind yX0_moodBehind, Cond.code yX0_moodBehind cX0_moodBehind 3 (some .int), Cond.static yX5_asMood, Cond.code yX5_asMood cX5_asMood 1 (some .int), Cond.methodLink RX5 268 Lib.Math.max.name, Cond.methodLink RX5 184 yX5_mostInPeace, Cond.instanceMethod yX5_mostInPeace, Cond.selects RX5 yX5_mostInPeace yX5_mostInPeace, Cond.code yX5_mostInPeace cX5_mostInPeace 4 (some .int), Cond.instanceMethod yX0_makeFoes, Cond.selects RX0 yX0_makeFoes yX0_makeFoes, Cond.code yX0_makeFoes cX0_makeFoes 4 none]
def wsX5_peace : List Cond := .code yX5_peace cX5_peace 6 (some .int) :: ((wsX5_peace_r1 ++ (wsX5_peace_r2 ++ (wsX5_peace_r3 ++ wsX5_peace_r4))) ++ wsX50 ++ wsX40 ++ wsX00 ++ wsX10)
def wsX5_gives_r1 : List Cond := [Cond.fieldLink RX5 12 "WellMoods" "well" "LWellMoods$Well;", Cond.instanceMethod yX0_has, Cond.initialized RX0, Cond.selects RX0 yX0_has yX0_has, Cond.code yX0_has cX0_has 2 (some .boolean), Cond.fieldLink RX0 24 "WellMoods$Folk" "count" "I", Cond.methodLink RX5 98 yX5_isMood, Cond.static yX5_isMood, Cond.initialized RX5, Cond.code yX5_isMood cX5_isMood 1 (some .boolean), Cond.methodLink RX5 55 yX5_within, Cond.static yX5_within, Cond.code yX5_within cX5_within 3 (some .boolean), Cond.instanceMethod yX4_givesAt, Cond.initialized RX4, Cond.selects RX4 yX4_givesAt yX4_givesAt, Cond.code yX4_givesAt cX4_givesAt 4 (some .int), Cond.fieldLink RX4 32 "WellMoods$Well" "level" "I", Cond.fieldLink RX4 12 "WellMoods$Well" "folk" "LWellMoods$Folk;", Cond.methodLink RX4 63 Lib.Math.min.name, Cond.static Lib.Math.min.name, Cond.initialized "java/lang/Math", Cond.code Lib.Math.min.name Lib.Math.min.code 2 (some .int), Cond.instanceMethod yX0_pailsAt]
def wsX5_gives_r2 : List Cond := [Cond.selects RX0 yX0_pailsAt yX0_pailsAt, Cond.code yX0_pailsAt cX0_pailsAt 4 (some .int), Cond.fieldLink RX0 9 "WellMoods$Folk" "kinds" "[I", Cond.methodLink RX0 32 Lib.Math.min.name, Cond.methodLink RX0 38 Lib.Math.max.name, Cond.static Lib.Math.max.name, Cond.code Lib.Math.max.name Lib.Math.max.code 2 (some .int), Cond.instanceMethod yX0_isSweet, Cond.selects RX0 yX0_isSweet yX0_isSweet, Cond.code yX0_isSweet cX0_isSweet 3 (some .boolean)]
def wsX5_gives : List Cond := .code yX5_gives cX5_gives 3 (some .int) :: ((wsX5_gives_r1 ++ wsX5_gives_r2) ++ wsX50 ++ wsX40 ++ wsX00)
def wsX5_isPails : List Cond := .code yX5_isPails cX5_isPails 2 (some .boolean) :: ([.constantLong RX5 261 (9)])
def wsX5_stranger_r1 : List Cond := [Cond.fieldLink RX5 12 "WellMoods" "well" "LWellMoods$Well;", Cond.methodLink RX5 98 yX5_isMood, Cond.static yX5_isMood, Cond.initialized RX5, Cond.code yX5_isMood cX5_isMood 1 (some .boolean), Cond.methodLink RX5 55 yX5_within, Cond.static yX5_within, Cond.code yX5_within cX5_within 3 (some .boolean), Cond.instanceMethod yX0_has, Cond.initialized RX0, Cond.selects RX0 yX0_has yX0_has, Cond.code yX0_has cX0_has 2 (some .boolean), Cond.fieldLink RX0 24 "WellMoods$Folk" "count" "I", Cond.methodLink RX5 190 yX5_isPails, Cond.static yX5_isPails, Cond.code yX5_isPails cX5_isPails 2 (some .boolean), Cond.constantLong RX5 261 (9), Cond.methodLink RX5 194 yX5_asMood, Cond.static yX5_asMood, Cond.code yX5_asMood cX5_asMood 1 (some .int), Cond.methodLink RX5 263 Lib.Math.min.name, Cond.static Lib.Math.min.name, Cond.initialized "java/lang/Math", Cond.code Lib.Math.min.name Lib.Math.min.code 2 (some .int)]
def wsX5_stranger_r2 : List Cond := [Cond.methodLink RX5 268 Lib.Math.max.name, Cond.static Lib.Math.max.name, Cond.code Lib.Math.max.name Lib.Math.max.code 2 (some .int), Cond.methodLink RX5 197 yX5_waned, Cond.static yX5_waned, Cond.code yX5_waned cX5_waned 1 (some .int), Cond.methodLink RX5 271 yJ6_compare_7cf53, Cond.static yJ6_compare_7cf53, Cond.initialized RJ6, Cond.code yJ6_compare_7cf53 cJ6_compare_7cf53 2 (some .int), Cond.instanceMethod yX0_pailsAt, Cond.selects RX0 yX0_pailsAt yX0_pailsAt, Cond.code yX0_pailsAt cX0_pailsAt 4 (some .int), Cond.fieldLink RX0 9 "WellMoods$Folk" "kinds" "[I", Cond.methodLink RX0 32 Lib.Math.min.name, Cond.methodLink RX0 38 Lib.Math.max.name]
def wsX5_stranger : List Cond := .code yX5_stranger cX5_stranger 7 (some .int) :: ((wsX5_stranger_r1 ++ wsX5_stranger_r2) ++ wsX50 ++ wsX40 ++ wsX00)
def wsX5_isTale : List Cond := .code yX5_isTale cX5_isTale 4 (some .boolean) :: ([.fieldLink RX5 12 "WellMoods" "well" "LWellMoods$Well;", .instanceMethod yX0_has, .initialized RX0, .selects RX0 yX0_has yX0_has, .code yX0_has cX0_has 2 (some .boolean), .fieldLink RX0 24 "WellMoods$Folk" "count" "I", .methodLink RX5 98 yX5_isMood, .static yX5_isMood, .initialized RX5, .code yX5_isMood cX5_isMood 1 (some .boolean), .methodLink RX5 55 yX5_within, .static yX5_within, .code yX5_within cX5_within 3 (some .boolean), .methodLink RX5 190 yX5_isPails, .static yX5_isPails, .code yX5_isPails cX5_isPails 2 (some .boolean), .constantLong RX5 261 (9)] ++ wsX50 ++ wsX40 ++ wsX00)
def wsX5_liar_r1 : List Cond := [Cond.fieldLink RX5 12 "WellMoods" "well" "LWellMoods$Well;", Cond.methodLink RX5 203 yX5_isTale, Cond.instanceMethod yX5_isTale, Cond.selects RX5 yX5_isTale yX5_isTale, Cond.initialized RX5, Cond.code yX5_isTale cX5_isTale 4 (some .boolean), Cond.instanceMethod yX0_has, Cond.initialized RX0, Cond.selects RX0 yX0_has yX0_has, Cond.code yX0_has cX0_has 2 (some .boolean), Cond.fieldLink RX0 24 "WellMoods$Folk" "count" "I", Cond.methodLink RX5 98 yX5_isMood, Cond.static yX5_isMood, Cond.code yX5_isMood cX5_isMood 1 (some .boolean), Cond.methodLink RX5 55 yX5_within, Cond.static yX5_within, Cond.code yX5_within cX5_within 3 (some .boolean), Cond.methodLink RX5 190 yX5_isPails, Cond.static yX5_isPails, Cond.code yX5_isPails cX5_isPails 2 (some .boolean), Cond.constantLong RX5 261 (9), Cond.instanceMethod yX0_pailsAt, Cond.selects RX0 yX0_pailsAt yX0_pailsAt, Cond.code yX0_pailsAt cX0_pailsAt 4 (some .int)]
def wsX5_liar_r2 : List Cond := [Cond.fieldLink RX0 9 "WellMoods$Folk" "kinds" "[I", Cond.methodLink RX0 32 Lib.Math.min.name, Cond.static Lib.Math.min.name, Cond.initialized "java/lang/Math", Cond.code Lib.Math.min.name Lib.Math.min.code 2 (some .int), Cond.methodLink RX0 38 Lib.Math.max.name, Cond.static Lib.Math.max.name, Cond.code Lib.Math.max.name Lib.Math.max.code 2 (some .int)]
def wsX5_liar : List Cond := .code yX5_liar cX5_liar 9 (some .int) :: ((wsX5_liar_r1 ++ wsX5_liar_r2) ++ wsX50 ++ wsX40 ++ wsX00)
def wsX5_other_r1 : List Cond := [Cond.fieldLink RX5 12 "WellMoods" "well" "LWellMoods$Well;", Cond.methodLink RX5 55 yX5_within, Cond.static yX5_within, Cond.initialized RX5, Cond.code yX5_within cX5_within 3 (some .boolean), Cond.methodLink RX5 170 yX5_mostFrom, Cond.instanceMethod yX5_mostFrom, Cond.selects RX5 yX5_mostFrom yX5_mostFrom, Cond.code yX5_mostFrom cX5_mostFrom 3 (some .int), Cond.fieldLink RX5 44 "WellMoods" "search" "LWellMoods$Search;", Cond.instanceMethod yX1_observe, Cond.initialized RX1, Cond.selects RX1 yX1_observe yX1_observe, Cond.code yX1_observe cX1_observe 2 none, Cond.fieldLink RX1 12 "WellMoods$Search" "folk" "LWellMoods$Folk;", Cond.fieldLink RX1 18 "WellMoods$Search" "freeFrom" "[I", Cond.methodLink RX1 54 arraycopyName, Cond.native arraycopyName, Cond.static arraycopyName, Cond.initialized "java/lang/System", Cond.fieldLink RX1 28 "WellMoods$Search" "level" "I", Cond.fieldLink RX1 32 "WellMoods$Search" "rain" "I", Cond.fieldLink RX1 35 "WellMoods$Search" "last" "I", Cond.instanceMethod yX0_become]
def wsX5_other_r2 : List Cond := [Cond.initialized RX0, Cond.selects RX0 yX0_become yX0_become, Cond.code yX0_become cX0_become 3 none, Cond.fieldLink RX0 9 "WellMoods$Folk" "kinds" "[I", Cond.fieldLink RX0 15 "WellMoods$Folk" "feelings" "[I", Cond.fieldLink RX0 18 "WellMoods$Folk" "rests" "[I", Cond.fieldLink RX0 21 "WellMoods$Folk" "foes" "[I", Cond.fieldLink RX0 24 "WellMoods$Folk" "count" "I", Cond.instanceMethod yX1_mostIn, Cond.selects RX1 yX1_mostIn yX1_mostIn, Cond.code yX1_mostIn cX1_mostIn 3 (some .int), Cond.methodLink RX1 63 Lib.Math.min.name, Cond.static Lib.Math.min.name, Cond.initialized "java/lang/Math", Cond.code Lib.Math.min.name Lib.Math.min.code 2 (some .int), Cond.fieldLink RX1 38 "WellMoods$Search" "hours" "I", Cond.fieldLink RX1 41 "WellMoods$Search" "best" "I", Cond.methodLink RX1 69 yX1_tryHour, Cond.instanceMethod yX1_tryHour, Cond.selects RX1 yX1_tryHour yX1_tryHour, Cond.code yX1_tryHour cX1_tryHour 7 none, Cond.fieldLink RX1 22 "WellMoods$Search" "path" "[I", Cond.methodLink RX1 73 yX1_keep, Cond.instanceMethod yX1_keep]
def wsX5_other_r3 : List Cond := [Cond.selects RX1 yX1_keep yX1_keep, Cond.code yX1_keep cX1_keep 2 none, Cond.fieldLink RX1 25 "WellMoods$Search" "row" "[I", Cond.methodLink RX1 80 yX1_tryDrawing, Cond.instanceMethod yX1_tryDrawing, Cond.selects RX1 yX1_tryDrawing yX1_tryDrawing, Cond.static yX5_waned, Cond.code yX5_waned cX5_waned 1 (some .int), Cond.methodLink RX5 271 yJ6_compare_7cf53, Cond.static yJ6_compare_7cf53, Cond.initialized RJ6, Cond.code yJ6_compare_7cf53 cJ6_compare_7cf53 2 (some .int), Cond.static yX5_rained, Cond.code yX5_rained cX5_rained 2 (some .int), Cond.methodLink RX5 263 Lib.Math.min.name, Cond.code yX1_tryDrawing cX1_tryDrawing 10 none, Cond.instanceMethod yX0_pailsBehind, Cond.selects RX0 yX0_pailsBehind yX0_pailsBehind, Cond.code yX0_pailsBehind cX0_pailsBehind 5 (some .int), Cond.methodLink RX0 32 Lib.Math.min.name, Cond.methodLink RX0 41 yX0_areFoes, Cond.instanceMethod yX0_areFoes, Cond.selects RX0 yX0_areFoes yX0_areFoes, Cond.code yX0_areFoes cX0_areFoes 3 (some .boolean)]
def wsX5_other_r4 : List Cond := [Cond.methodLink RX0 28 yX0_has, Cond.instanceMethod yX0_has, Cond.selects RX0 yX0_has yX0_has, Cond.code yX0_has cX0_has 2 (some .boolean), Cond.methodLink RX0 45 yX0_pailsAt, Cond.instanceMethod yX0_pailsAt, Cond.selects RX0 yX0_pailsAt yX0_pailsAt, Cond.code yX0_pailsAt cX0_pailsAt 4 (some .int), Cond.methodLink RX0 38 Lib.Math.max.name, Cond.static Lib.Math.max.name, Cond.code Lib.Math.max.name Lib.Math.max.code 2 (some .int), Cond.instanceMethod yX0_isSweet, Cond.selects RX0 yX0_isSweet yX0_isSweet, Cond.code yX0_isSweet cX0_isSweet 3 (some .boolean), Cond.instanceMethod yX0_moodBehind, Cond.selects RX0 yX0_moodBehind yX0_moodBehind, Cond.code yX0_moodBehind cX0_moodBehind 3 (some .int), Cond.static yX5_asMood, Cond.code yX5_asMood cX5_asMood 1 (some .int), Cond.methodLink RX5 268 Lib.Math.max.name]
def wsX5_other : List Cond := .code yX5_other cX5_other 2 (some .int) :: ((wsX5_other_r1 ++ (wsX5_other_r2 ++ (wsX5_other_r3 ++ wsX5_other_r4))) ++ wsX50 ++ wsX40 ++ wsX10 ++ wsX00)
def wsX5_drawn_r1 : List Cond := [Cond.fieldLink RX5 12 "WellMoods" "well" "LWellMoods$Well;", Cond.methodLink RX5 55 yX5_within, Cond.static yX5_within, Cond.initialized RX5, Cond.code yX5_within cX5_within 3 (some .boolean), Cond.instanceMethod yX4_hasHours, Cond.initialized RX4, Cond.selects RX4 yX4_hasHours yX4_hasHours, Cond.code yX4_hasHours cX4_hasHours 2 (some .boolean), Cond.fieldLink RX4 44 "WellMoods$Well" "hour" "I", Cond.instanceMethod yX4_lot, Cond.selects RX4 yX4_lot yX4_lot, Cond.code yX4_lot cX4_lot 2 (some .int), Cond.fieldLink RX4 50 "WellMoods$Well" "lots" "I", Cond.constantLong RX4 115 (1103515245), Cond.constantLong RX4 117 (12345), Cond.constantLong RX4 119 (2147483647), Cond.constant RX4 121 (65536), Cond.fieldLink RX4 12 "WellMoods$Well" "folk" "LWellMoods$Folk;", Cond.methodLink RX4 80 yX4_mayDraw, Cond.instanceMethod yX4_mayDraw, Cond.selects RX4 yX4_mayDraw yX4_mayDraw, Cond.code yX4_mayDraw cX4_mayDraw 2 (some .boolean), Cond.fieldLink RX4 18 "WellMoods$Well" "waits" "[I"]
def wsX5_drawn_r2 : List Cond := [Cond.instanceMethod yX0_has, Cond.initialized RX0, Cond.selects RX0 yX0_has yX0_has, Cond.code yX0_has cX0_has 2 (some .boolean), Cond.fieldLink RX0 24 "WellMoods$Folk" "count" "I", Cond.instanceMethod yX4_passHour, Cond.selects RX4 yX4_passHour yX4_passHour, Cond.code yX4_passHour cX4_passHour 3 (some .int), Cond.fieldLink RX4 47 "WellMoods$Well" "last" "I", Cond.methodLink RX4 83 yX4_drawBy, Cond.instanceMethod yX4_drawBy, Cond.selects RX4 yX4_drawBy yX4_drawBy, Cond.code yX4_drawBy cX4_drawBy 3 (some .int), Cond.fieldLink RX4 29 "WellMoods$Well" "mood" "I", Cond.fieldLink RX4 32 "WellMoods$Well" "level" "I", Cond.fieldLink RX4 38 "WellMoods$Well" "sweet" "I", Cond.fieldLink RX4 41 "WellMoods$Well" "salt" "I", Cond.instanceMethod yX0_pailsBehind, Cond.selects RX0 yX0_pailsBehind yX0_pailsBehind, Cond.code yX0_pailsBehind cX0_pailsBehind 5 (some .int), Cond.methodLink RX0 32 Lib.Math.min.name, Cond.static Lib.Math.min.name, Cond.initialized "java/lang/Math", Cond.code Lib.Math.min.name Lib.Math.min.code 2 (some .int)]
def wsX5_drawn_r3 : List Cond := [Cond.methodLink RX0 41 yX0_areFoes, Cond.instanceMethod yX0_areFoes, Cond.selects RX0 yX0_areFoes yX0_areFoes, Cond.code yX0_areFoes cX0_areFoes 3 (some .boolean), Cond.fieldLink RX0 21 "WellMoods$Folk" "foes" "[I", Cond.methodLink RX0 28 yX0_has, Cond.methodLink RX0 45 yX0_pailsAt, Cond.instanceMethod yX0_pailsAt, Cond.selects RX0 yX0_pailsAt yX0_pailsAt, Cond.code yX0_pailsAt cX0_pailsAt 4 (some .int), Cond.fieldLink RX0 9 "WellMoods$Folk" "kinds" "[I", Cond.methodLink RX0 38 Lib.Math.max.name, Cond.static Lib.Math.max.name, Cond.code Lib.Math.max.name Lib.Math.max.code 2 (some .int), Cond.instanceMethod yX0_isSweet, Cond.selects RX0 yX0_isSweet yX0_isSweet, Cond.code yX0_isSweet cX0_isSweet 3 (some .boolean), Cond.instanceMethod yX0_moodBehind, Cond.selects RX0 yX0_moodBehind yX0_moodBehind, Cond.code yX0_moodBehind cX0_moodBehind 3 (some .int), Cond.fieldLink RX0 15 "WellMoods$Folk" "feelings" "[I", Cond.static yX5_asMood, Cond.code yX5_asMood cX5_asMood 1 (some .int), Cond.methodLink RX5 263 Lib.Math.min.name]
def wsX5_drawn_r4 : List Cond := [Cond.methodLink RX5 268 Lib.Math.max.name, Cond.methodLink RX4 87 yX4_endHour, Cond.instanceMethod yX4_endHour, Cond.selects RX4 yX4_endHour yX4_endHour, Cond.code yX4_endHour cX4_endHour 2 none, Cond.fieldLink RX4 35 "WellMoods$Well" "rain" "I", Cond.methodLink RX4 109 Lib.Math.max.name, Cond.static yX5_waned, Cond.code yX5_waned cX5_waned 1 (some .int), Cond.methodLink RX5 271 yJ6_compare_7cf53, Cond.static yJ6_compare_7cf53, Cond.initialized RJ6, Cond.code yJ6_compare_7cf53 cJ6_compare_7cf53 2 (some .int), Cond.static yX5_rained, Cond.code yX5_rained cX5_rained 2 (some .int)]
def wsX5_drawn : List Cond := .code yX5_drawn cX5_drawn 4 (some .int) :: ((wsX5_drawn_r1 ++ (wsX5_drawn_r2 ++ (wsX5_drawn_r3 ++ wsX5_drawn_r4))) ++ wsX50 ++ wsX40 ++ wsX00)
def wsX5_seed : List Cond := .code yX5_seed cX5_seed 3 (some .int) :: ([.fieldLink RX5 12 "WellMoods" "well" "LWellMoods$Well;"] ++ wsX50 ++ wsX40)
def wsX5_image_r1 : List Cond := [Cond.fieldLink RX5 16 "WellMoods" "kept" "LWellMoods$Well;", Cond.fieldLink RX5 12 "WellMoods" "well" "LWellMoods$Well;", Cond.fieldLink RX5 19 "WellMoods" "isKept" "Z", Cond.instanceMethod yX4_become, Cond.initialized RX4, Cond.selects RX4 yX4_become yX4_become, Cond.code yX4_become cX4_become 2 none, Cond.fieldLink RX4 12 "WellMoods$Well" "folk" "LWellMoods$Folk;", Cond.fieldLink RX4 18 "WellMoods$Well" "waits" "[I", Cond.methodLink RX4 57 arraycopyName, Cond.native arraycopyName, Cond.static arraycopyName, Cond.initialized "java/lang/System", Cond.fieldLink RX4 22 "WellMoods$Well" "planned" "[I", Cond.fieldLink RX4 25 "WellMoods$Well" "planHours" "I", Cond.fieldLink RX4 29 "WellMoods$Well" "mood" "I", Cond.fieldLink RX4 32 "WellMoods$Well" "level" "I", Cond.fieldLink RX4 35 "WellMoods$Well" "rain" "I", Cond.fieldLink RX4 38 "WellMoods$Well" "sweet" "I", Cond.fieldLink RX4 41 "WellMoods$Well" "salt" "I", Cond.fieldLink RX4 44 "WellMoods$Well" "hour" "I", Cond.fieldLink RX4 47 "WellMoods$Well" "last" "I", Cond.fieldLink RX4 50 "WellMoods$Well" "lots" "I", Cond.instanceMethod yX0_become]
def wsX5_image_r2 : List Cond := [Cond.initialized RX0, Cond.selects RX0 yX0_become yX0_become, Cond.code yX0_become cX0_become 3 none, Cond.fieldLink RX0 9 "WellMoods$Folk" "kinds" "[I", Cond.fieldLink RX0 15 "WellMoods$Folk" "feelings" "[I", Cond.fieldLink RX0 18 "WellMoods$Folk" "rests" "[I", Cond.fieldLink RX0 21 "WellMoods$Folk" "foes" "[I", Cond.fieldLink RX0 24 "WellMoods$Folk" "count" "I"]
def wsX5_image : List Cond := .code yX5_image cX5_image 1 (some .int) :: ((wsX5_image_r1 ++ wsX5_image_r2) ++ wsX50 ++ wsX40 ++ wsX00)
def wsX5_restore_r1 : List Cond := [Cond.fieldLink RX5 19 "WellMoods" "isKept" "Z", Cond.fieldLink RX5 12 "WellMoods" "well" "LWellMoods$Well;", Cond.fieldLink RX5 16 "WellMoods" "kept" "LWellMoods$Well;", Cond.instanceMethod yX4_become, Cond.initialized RX4, Cond.selects RX4 yX4_become yX4_become, Cond.code yX4_become cX4_become 2 none, Cond.fieldLink RX4 12 "WellMoods$Well" "folk" "LWellMoods$Folk;", Cond.fieldLink RX4 18 "WellMoods$Well" "waits" "[I", Cond.methodLink RX4 57 arraycopyName, Cond.native arraycopyName, Cond.static arraycopyName, Cond.initialized "java/lang/System", Cond.fieldLink RX4 22 "WellMoods$Well" "planned" "[I", Cond.fieldLink RX4 25 "WellMoods$Well" "planHours" "I", Cond.fieldLink RX4 29 "WellMoods$Well" "mood" "I", Cond.fieldLink RX4 32 "WellMoods$Well" "level" "I", Cond.fieldLink RX4 35 "WellMoods$Well" "rain" "I", Cond.fieldLink RX4 38 "WellMoods$Well" "sweet" "I", Cond.fieldLink RX4 41 "WellMoods$Well" "salt" "I", Cond.fieldLink RX4 44 "WellMoods$Well" "hour" "I", Cond.fieldLink RX4 47 "WellMoods$Well" "last" "I", Cond.fieldLink RX4 50 "WellMoods$Well" "lots" "I", Cond.instanceMethod yX0_become]
def wsX5_restore_r2 : List Cond := [Cond.initialized RX0, Cond.selects RX0 yX0_become yX0_become, Cond.code yX0_become cX0_become 3 none, Cond.fieldLink RX0 9 "WellMoods$Folk" "kinds" "[I", Cond.fieldLink RX0 15 "WellMoods$Folk" "feelings" "[I", Cond.fieldLink RX0 18 "WellMoods$Folk" "rests" "[I", Cond.fieldLink RX0 21 "WellMoods$Folk" "foes" "[I", Cond.fieldLink RX0 24 "WellMoods$Folk" "count" "I"]
def wsX5_restore : List Cond := .code yX5_restore cX5_restore 1 (some .int) :: ((wsX5_restore_r1 ++ wsX5_restore_r2) ++ wsX50 ++ wsX40 ++ wsX00)
def wsX5_isSheet : List Cond := .code yX5_isSheet cX5_isSheet 1 (some .boolean) :: ([.methodLink RX5 55 yX5_within, .static yX5_within, .initialized RX5, .code yX5_within cX5_within 3 (some .boolean)])
def wsX5_isLane : List Cond := .code yX5_isLane cX5_isLane 1 (some .boolean) :: ([.methodLink RX5 55 yX5_within, .static yX5_within, .initialized RX5, .code yX5_within cX5_within 3 (some .boolean)])
def wsX5_refusal : List Cond := .code yX5_refusal cX5_refusal 5 (some .int) :: ([.fieldLink RX5 50 "WellMoods" "sheets" "[LWellMoods$Sheet;", .methodLink RX5 231 yX5_isSheet, .static yX5_isSheet, .initialized RX5, .code yX5_isSheet cX5_isSheet 1 (some .boolean), .methodLink RX5 55 yX5_within, .static yX5_within, .code yX5_within cX5_within 3 (some .boolean), .methodLink RX5 234 yX5_isLane, .static yX5_isLane, .code yX5_isLane cX5_isLane 1 (some .boolean), .instanceMethod yX2_hasSpan, .initialized RX2, .selects RX2 yX2_hasSpan yX2_hasSpan, .code yX2_hasSpan cX2_hasSpan 3 (some .boolean), .fieldLink RX2 23 "WellMoods$Sheet" "length" "I"] ++ wsX50 ++ wsX20)
def wsX5_areDrawings : List Cond := .code yX5_areDrawings cX5_areDrawings 7 (some .boolean) :: ([.fieldLink RX5 12 "WellMoods" "well" "LWellMoods$Well;", .methodLink RX5 190 yX5_isPails, .static yX5_isPails, .initialized RX5, .code yX5_isPails cX5_isPails 2 (some .boolean), .constantLong RX5 261 (9)] ++ wsX20 ++ wsX50 ++ wsX40 ++ wsX00)
def wsX5_fitsFrom_r1 : List Cond := [Cond.fieldLink RX5 12 "WellMoods" "well" "LWellMoods$Well;", Cond.instanceMethod yX0_pailsAt, Cond.initialized RX0, Cond.selects RX0 yX0_pailsAt yX0_pailsAt, Cond.code yX0_pailsAt cX0_pailsAt 4 (some .int), Cond.fieldLink RX0 9 "WellMoods$Folk" "kinds" "[I", Cond.methodLink RX0 32 Lib.Math.min.name, Cond.static Lib.Math.min.name, Cond.initialized "java/lang/Math", Cond.code Lib.Math.min.name Lib.Math.min.code 2 (some .int), Cond.methodLink RX0 38 Lib.Math.max.name, Cond.static Lib.Math.max.name, Cond.code Lib.Math.max.name Lib.Math.max.code 2 (some .int), Cond.instanceMethod yX0_moodBehind, Cond.selects RX0 yX0_moodBehind yX0_moodBehind, Cond.code yX0_moodBehind cX0_moodBehind 3 (some .int), Cond.fieldLink RX0 15 "WellMoods$Folk" "feelings" "[I", Cond.static yX5_asMood, Cond.initialized RX5, Cond.code yX5_asMood cX5_asMood 1 (some .int), Cond.methodLink RX5 263 Lib.Math.min.name, Cond.methodLink RX5 268 Lib.Math.max.name, Cond.methodLink RX5 197 yX5_waned, Cond.static yX5_waned]
def wsX5_fitsFrom_r2 : List Cond := [Cond.code yX5_waned cX5_waned 1 (some .int), Cond.methodLink RX5 271 yJ6_compare_7cf53, Cond.static yJ6_compare_7cf53, Cond.initialized RJ6, Cond.code yJ6_compare_7cf53 cJ6_compare_7cf53 2 (some .int)]
def wsX5_fitsFrom : List Cond := .code yX5_fitsFrom cX5_fitsFrom 8 (some .boolean) :: ((wsX5_fitsFrom_r1 ++ wsX5_fitsFrom_r2) ++ wsX20 ++ wsX50 ++ wsX40 ++ wsX00)
def wsX5_fit_r1 : List Cond := [Cond.fieldLink RX5 50 "WellMoods" "sheets" "[LWellMoods$Sheet;", Cond.methodLink RX5 55 yX5_within, Cond.static yX5_within, Cond.initialized RX5, Cond.code yX5_within cX5_within 3 (some .boolean), Cond.methodLink RX5 215 yX5_refusal, Cond.instanceMethod yX5_refusal, Cond.selects RX5 yX5_refusal yX5_refusal, Cond.code yX5_refusal cX5_refusal 5 (some .int), Cond.methodLink RX5 231 yX5_isSheet, Cond.static yX5_isSheet, Cond.code yX5_isSheet cX5_isSheet 1 (some .boolean), Cond.methodLink RX5 234 yX5_isLane, Cond.static yX5_isLane, Cond.code yX5_isLane cX5_isLane 1 (some .boolean), Cond.instanceMethod yX2_hasSpan, Cond.initialized RX2, Cond.selects RX2 yX2_hasSpan yX2_hasSpan, Cond.code yX2_hasSpan cX2_hasSpan 3 (some .boolean), Cond.fieldLink RX2 23 "WellMoods$Sheet" "length" "I", Cond.methodLink RX5 219 yX5_areDrawings, Cond.instanceMethod yX5_areDrawings, Cond.selects RX5 yX5_areDrawings yX5_areDrawings, Cond.code yX5_areDrawings cX5_areDrawings 7 (some .boolean)]
def wsX5_fit_r2 : List Cond := [Cond.fieldLink RX5 12 "WellMoods" "well" "LWellMoods$Well;", Cond.methodLink RX5 190 yX5_isPails, Cond.static yX5_isPails, Cond.code yX5_isPails cX5_isPails 2 (some .boolean), Cond.constantLong RX5 261 (9), Cond.methodLink RX5 223 yX5_fitsFrom, Cond.instanceMethod yX5_fitsFrom, Cond.selects RX5 yX5_fitsFrom yX5_fitsFrom, Cond.code yX5_fitsFrom cX5_fitsFrom 8 (some .boolean), Cond.instanceMethod yX0_pailsAt, Cond.initialized RX0, Cond.selects RX0 yX0_pailsAt yX0_pailsAt, Cond.code yX0_pailsAt cX0_pailsAt 4 (some .int), Cond.fieldLink RX0 9 "WellMoods$Folk" "kinds" "[I", Cond.methodLink RX0 32 Lib.Math.min.name, Cond.static Lib.Math.min.name, Cond.initialized "java/lang/Math", Cond.code Lib.Math.min.name Lib.Math.min.code 2 (some .int), Cond.methodLink RX0 38 Lib.Math.max.name, Cond.static Lib.Math.max.name, Cond.code Lib.Math.max.name Lib.Math.max.code 2 (some .int), Cond.instanceMethod yX0_moodBehind, Cond.selects RX0 yX0_moodBehind yX0_moodBehind, Cond.code yX0_moodBehind cX0_moodBehind 3 (some .int)]
def wsX5_fit_r3 : List Cond := [Cond.fieldLink RX0 15 "WellMoods$Folk" "feelings" "[I", Cond.static yX5_asMood, Cond.code yX5_asMood cX5_asMood 1 (some .int), Cond.methodLink RX5 263 Lib.Math.min.name, Cond.methodLink RX5 268 Lib.Math.max.name, Cond.methodLink RX5 197 yX5_waned, Cond.static yX5_waned, Cond.code yX5_waned cX5_waned 1 (some .int), Cond.methodLink RX5 271 yJ6_compare_7cf53, Cond.static yJ6_compare_7cf53, Cond.initialized RJ6, Cond.code yJ6_compare_7cf53 cJ6_compare_7cf53 2 (some .int)]
def wsX5_fit : List Cond := .code yX5_fit cX5_fit 8 (some .int) :: ((wsX5_fit_r1 ++ (wsX5_fit_r2 ++ wsX5_fit_r3)) ++ wsX50 ++ wsX20 ++ wsX40 ++ wsX00)
def wsX5_film_r1 : List Cond := [Cond.fieldLink RX5 12 "WellMoods" "well" "LWellMoods$Well;", Cond.fieldLink RX5 50 "WellMoods" "sheets" "[LWellMoods$Sheet;", Cond.instanceMethod yX0_has, Cond.initialized RX0, Cond.selects RX0 yX0_has yX0_has, Cond.code yX0_has cX0_has 2 (some .boolean), Cond.fieldLink RX0 24 "WellMoods$Folk" "count" "I", Cond.methodLink RX5 215 yX5_refusal, Cond.instanceMethod yX5_refusal, Cond.selects RX5 yX5_refusal yX5_refusal, Cond.initialized RX5, Cond.code yX5_refusal cX5_refusal 5 (some .int), Cond.methodLink RX5 231 yX5_isSheet, Cond.static yX5_isSheet, Cond.code yX5_isSheet cX5_isSheet 1 (some .boolean), Cond.methodLink RX5 55 yX5_within, Cond.static yX5_within, Cond.code yX5_within cX5_within 3 (some .boolean), Cond.methodLink RX5 234 yX5_isLane, Cond.static yX5_isLane, Cond.code yX5_isLane cX5_isLane 1 (some .boolean), Cond.instanceMethod yX2_hasSpan, Cond.initialized RX2, Cond.selects RX2 yX2_hasSpan yX2_hasSpan]
def wsX5_film_r2 : List Cond := [Cond.code yX2_hasSpan cX2_hasSpan 3 (some .boolean), Cond.fieldLink RX2 23 "WellMoods$Sheet" "length" "I", Cond.instanceMethod yX4_givesAt, Cond.initialized RX4, Cond.selects RX4 yX4_givesAt yX4_givesAt, Cond.code yX4_givesAt cX4_givesAt 4 (some .int), Cond.fieldLink RX4 32 "WellMoods$Well" "level" "I", Cond.fieldLink RX4 12 "WellMoods$Well" "folk" "LWellMoods$Folk;", Cond.methodLink RX4 63 Lib.Math.min.name, Cond.static Lib.Math.min.name, Cond.initialized "java/lang/Math", Cond.code Lib.Math.min.name Lib.Math.min.code 2 (some .int), Cond.instanceMethod yX0_pailsAt, Cond.selects RX0 yX0_pailsAt yX0_pailsAt, Cond.code yX0_pailsAt cX0_pailsAt 4 (some .int), Cond.fieldLink RX0 9 "WellMoods$Folk" "kinds" "[I", Cond.methodLink RX0 32 Lib.Math.min.name, Cond.methodLink RX0 38 Lib.Math.max.name, Cond.static Lib.Math.max.name, Cond.code Lib.Math.max.name Lib.Math.max.code 2 (some .int), Cond.instanceMethod yX0_isSweet, Cond.selects RX0 yX0_isSweet yX0_isSweet, Cond.code yX0_isSweet cX0_isSweet 3 (some .boolean), Cond.instanceMethod yX2_put]
def wsX5_film_r3 : List Cond := [Cond.selects RX2 yX2_put yX2_put, Cond.code yX2_put cX2_put 4 none, Cond.fieldLink RX2 19 "WellMoods$Sheet" "lane" "I", Cond.fieldLink RX2 9 "WellMoods$Sheet" "items" "[J"]
def wsX5_film : List Cond := .code yX5_film cX5_film 7 (some .int) :: ((wsX5_film_r1 ++ (wsX5_film_r2 ++ wsX5_film_r3)) ++ wsX50 ++ wsX40 ++ wsX00 ++ wsX20)
def wsX5_sheet : List Cond := .code yX5_sheet cX5_sheet 4 (some .int) :: ([.fieldLink RX5 50 "WellMoods" "sheets" "[LWellMoods$Sheet;", .methodLink RX5 231 yX5_isSheet, .static yX5_isSheet, .initialized RX5, .code yX5_isSheet cX5_isSheet 1 (some .boolean), .methodLink RX5 55 yX5_within, .static yX5_within, .code yX5_within cX5_within 3 (some .boolean), .methodLink RX5 234 yX5_isLane, .static yX5_isLane, .code yX5_isLane cX5_isLane 1 (some .boolean), .instanceMethod yX2_begin, .initialized RX2, .selects RX2 yX2_begin yX2_begin, .code yX2_begin cX2_begin 4 none, .fieldLink RX2 15 "WellMoods$Sheet" "isThere" "Z", .fieldLink RX2 19 "WellMoods$Sheet" "lane" "I", .fieldLink RX2 23 "WellMoods$Sheet" "length" "I", .fieldLink RX2 9 "WellMoods$Sheet" "items" "[J"] ++ wsX50 ++ wsX20)
def wsX5_drop : List Cond := .code yX5_drop cX5_drop 2 (some .int) :: ([.fieldLink RX5 50 "WellMoods" "sheets" "[LWellMoods$Sheet;", .methodLink RX5 231 yX5_isSheet, .static yX5_isSheet, .initialized RX5, .code yX5_isSheet cX5_isSheet 1 (some .boolean), .methodLink RX5 55 yX5_within, .static yX5_within, .code yX5_within cX5_within 3 (some .boolean)] ++ wsX50 ++ wsX20)
def wsX5_item_r1 : List Cond := [Cond.fieldLink RX5 50 "WellMoods" "sheets" "[LWellMoods$Sheet;", Cond.methodLink RX5 215 yX5_refusal, Cond.instanceMethod yX5_refusal, Cond.selects RX5 yX5_refusal yX5_refusal, Cond.initialized RX5, Cond.code yX5_refusal cX5_refusal 5 (some .int), Cond.methodLink RX5 231 yX5_isSheet, Cond.static yX5_isSheet, Cond.code yX5_isSheet cX5_isSheet 1 (some .boolean), Cond.methodLink RX5 55 yX5_within, Cond.static yX5_within, Cond.code yX5_within cX5_within 3 (some .boolean), Cond.methodLink RX5 234 yX5_isLane, Cond.static yX5_isLane, Cond.code yX5_isLane cX5_isLane 1 (some .boolean), Cond.instanceMethod yX2_hasSpan, Cond.initialized RX2, Cond.selects RX2 yX2_hasSpan yX2_hasSpan, Cond.code yX2_hasSpan cX2_hasSpan 3 (some .boolean), Cond.fieldLink RX2 23 "WellMoods$Sheet" "length" "I", Cond.instanceMethod yX2_put, Cond.selects RX2 yX2_put yX2_put, Cond.code yX2_put cX2_put 4 none, Cond.fieldLink RX2 19 "WellMoods$Sheet" "lane" "I"]
def wsX5_item_r2 : List Cond := [Cond.fieldLink RX2 9 "WellMoods$Sheet" "items" "[J"]
def wsX5_item : List Cond := .code yX5_item cX5_item 7 (some .int) :: ((wsX5_item_r1 ++ wsX5_item_r2) ++ wsX50 ++ wsX20)
def wsX5_copy : List Cond := .code yX5_copy cX5_copy 6 (some .int) :: ([.fieldLink RX5 50 "WellMoods" "sheets" "[LWellMoods$Sheet;", .methodLink RX5 255 arraycopyName, .native arraycopyName, .static arraycopyName, .initialized "java/lang/System", .methodLink RX5 231 yX5_isSheet, .static yX5_isSheet, .initialized RX5, .code yX5_isSheet cX5_isSheet 1 (some .boolean), .methodLink RX5 55 yX5_within, .static yX5_within, .code yX5_within cX5_within 3 (some .boolean), .instanceMethod yX2_hasSpan, .initialized RX2, .selects RX2 yX2_hasSpan yX2_hasSpan, .code yX2_hasSpan cX2_hasSpan 3 (some .boolean), .fieldLink RX2 23 "WellMoods$Sheet" "length" "I"] ++ wsX50 ++ wsX20)
def wsX6_init_r1 : List Cond := [Cond.methodLink RX6 1 objectInit, Cond.instanceMethod objectInit, Cond.code objectInit ⟨#[0xb1]⟩ 1 none, Cond.arrayClass .int, Cond.fieldLink RX6 7 "WellMoodsModel" "kinds" "[I", Cond.fieldLink RX6 13 "WellMoodsModel" "feels" "[I", Cond.fieldLink RX6 16 "WellMoodsModel" "rests" "[I", Cond.fieldLink RX6 19 "WellMoodsModel" "quarrels" "[I", Cond.fieldLink RX6 22 "WellMoodsModel" "free" "[I", Cond.fieldLink RX6 25 "WellMoodsModel" "level" "I", Cond.fieldLink RX6 29 "WellMoodsModel" "rain" "I", Cond.fieldLink RX6 32 "WellMoodsModel" "ahead" "I", Cond.fieldLink RX6 35 "WellMoodsModel" "plan" "[I", Cond.fieldLink RX6 38 "WellMoodsModel" "draws" "I", Cond.fieldLink RX6 41 "WellMoodsModel" "tape" "[I", Cond.fieldLink RX6 44 "WellMoodsModel" "read" "[I", Cond.fieldLink RX6 47 "WellMoodsModel" "tryFree" "[I", Cond.fieldLink RX6 50 "WellMoodsModel" "row" "[I", Cond.fieldLink RX6 53 "WellMoodsModel" "best" "[I", Cond.fieldLink RX6 56 "WellMoodsModel" "kept" "[I", Cond.fieldLink RX6 59 "WellMoodsModel" "lanes" "[I", Cond.fieldLink RX6 62 "WellMoodsModel" "rowSizes" "[I", Cond.arrayClass .long, Cond.fieldLink RX6 65 "WellMoodsModel" "items" "[J"]
def wsX6_init_r2 : List Cond := [Cond.fieldLink RX6 69 "WellMoodsModel" "moved" "[J"]
def wsX6_init : List Cond := .code yX6_init cX6_init 2 none :: ((wsX6_init_r1 ++ wsX6_init_r2) ++ wsX60)
def wsX6_in : List Cond := .code yX6_in cX6_in 6 (some .boolean) :: ([])
def wsX6_has : List Cond := .code yX6_has cX6_has 2 (some .boolean) :: ([])
def wsX6_isOne : List Cond := .code yX6_isOne cX6_isOne 2 (some .boolean) :: ([.fieldLink RX6 72 "WellMoodsModel" "many" "I", .methodLink RX6 75 yX6_in, .static yX6_in, .initialized RX6, .code yX6_in cX6_in 6 (some .boolean)] ++ wsX60)
def wsX6_isMood : List Cond := .code yX6_isMood cX6_isMood 1 (some .boolean) :: ([.constantLong RX6 79 (-9), .constantLong RX6 81 (9), .methodLink RX6 75 yX6_in, .static yX6_in, .initialized RX6, .code yX6_in cX6_in 6 (some .boolean)])
def wsX6_add : List Cond := .code yX6_add cX6_add 4 none :: ([.fieldLink RX6 7 "WellMoodsModel" "kinds" "[I", .fieldLink RX6 72 "WellMoodsModel" "many" "I", .fieldLink RX6 13 "WellMoodsModel" "feels" "[I", .fieldLink RX6 16 "WellMoodsModel" "rests" "[I", .fieldLink RX6 19 "WellMoodsModel" "quarrels" "[I", .fieldLink RX6 22 "WellMoodsModel" "free" "[I"] ++ wsX60)
def wsX6_folk : List Cond := .code yX6_folk cX6_folk 4 (some .int) :: ([.constantLong RX6 83 (3), .constantLong RX6 85 (-3), .constantLong RX6 81 (9), .fieldLink RX6 72 "WellMoodsModel" "many" "I", .methodLink RX6 75 yX6_in, .static yX6_in, .initialized RX6, .code yX6_in cX6_in 6 (some .boolean), .methodLink RX6 87 yX6_add, .instanceMethod yX6_add, .selects RX6 yX6_add yX6_add, .code yX6_add cX6_add 4 none, .fieldLink RX6 7 "WellMoodsModel" "kinds" "[I", .fieldLink RX6 13 "WellMoodsModel" "feels" "[I", .fieldLink RX6 16 "WellMoodsModel" "rests" "[I", .fieldLink RX6 19 "WellMoodsModel" "quarrels" "[I", .fieldLink RX6 22 "WellMoodsModel" "free" "[I"] ++ wsX60)
def wsX6_told : List Cond := .code yX6_told cX6_told 4 (some .int) :: ([.constantLong RX6 95 (4), .constant RX6 97 (-100001), .fieldLink RX6 22 "WellMoodsModel" "free" "[I", .fieldLink RX6 98 "WellMoodsModel" "hour" "I", .fieldLink RX6 7 "WellMoodsModel" "kinds" "[I", .fieldLink RX6 13 "WellMoodsModel" "feels" "[I", .fieldLink RX6 16 "WellMoodsModel" "rests" "[I", .fieldLink RX6 19 "WellMoodsModel" "quarrels" "[I", .methodLink RX6 91 yX6_isOne, .instanceMethod yX6_isOne, .selects RX6 yX6_isOne yX6_isOne, .initialized RX6, .code yX6_isOne cX6_isOne 2 (some .boolean), .fieldLink RX6 72 "WellMoodsModel" "many" "I", .methodLink RX6 75 yX6_in, .static yX6_in, .code yX6_in cX6_in 6 (some .boolean)] ++ wsX60)
def wsX6_setQuarrel : List Cond := .code yX6_setQuarrel cX6_setQuarrel 4 none :: ([.fieldLink RX6 19 "WellMoodsModel" "quarrels" "[I"] ++ wsX60)
def wsX6_quarrel : List Cond := .code yX6_quarrel cX6_quarrel 5 (some .int) :: ([.fieldLink RX6 19 "WellMoodsModel" "quarrels" "[I", .methodLink RX6 91 yX6_isOne, .instanceMethod yX6_isOne, .selects RX6 yX6_isOne yX6_isOne, .initialized RX6, .code yX6_isOne cX6_isOne 2 (some .boolean), .fieldLink RX6 72 "WellMoodsModel" "many" "I", .methodLink RX6 75 yX6_in, .static yX6_in, .code yX6_in cX6_in 6 (some .boolean), .methodLink RX6 101 yX6_setQuarrel, .instanceMethod yX6_setQuarrel, .selects RX6 yX6_setQuarrel yX6_setQuarrel, .code yX6_setQuarrel cX6_setQuarrel 4 none] ++ wsX60)
def wsX6_set : List Cond := .code yX6_set cX6_set 4 (some .int) :: ([.constantLong RX6 105 (2), .constantLong RX6 110 (999), .constantLong RX6 81 (9), .constant RX6 97 (-100001), .fieldLink RX6 112 "WellMoodsModel" "mood" "I", .fieldLink RX6 25 "WellMoodsModel" "level" "I", .fieldLink RX6 29 "WellMoodsModel" "rain" "I", .methodLink RX6 75 yX6_in, .static yX6_in, .initialized RX6, .code yX6_in cX6_in 6 (some .boolean), .methodLink RX6 107 yX6_isMood, .static yX6_isMood, .code yX6_isMood cX6_isMood 1 (some .boolean), .constantLong RX6 79 (-9)] ++ wsX60)
def wsX6_is : List Cond := .code yX6_is cX6_is 2 (some .int) :: ([.fieldLink RX6 112 "WellMoodsModel" "mood" "I", .fieldLink RX6 25 "WellMoodsModel" "level" "I", .fieldLink RX6 29 "WellMoodsModel" "rain" "I", .fieldLink RX6 115 "WellMoodsModel" "sweet" "I", .fieldLink RX6 118 "WellMoodsModel" "salt" "I", .fieldLink RX6 98 "WellMoodsModel" "hour" "I", .fieldLink RX6 72 "WellMoodsModel" "many" "I", .fieldLink RX6 121 "WellMoodsModel" "planMany" "I", .fieldLink RX6 32 "WellMoodsModel" "ahead" "I", .constant RX6 97 (-100001)] ++ wsX60)
def wsX6_type : List Cond := .code yX6_type cX6_type 5 (some .int) :: ([.constantLong RX6 124 (8), .constantLong RX6 126 (255), .constantLong RX6 128 (32), .constantLong RX6 130 (126), .fieldLink RX6 132 "WellMoodsModel" "taped" "I", .fieldLink RX6 41 "WellMoodsModel" "tape" "[I", .methodLink RX6 75 yX6_in, .static yX6_in, .initialized RX6, .code yX6_in cX6_in 6 (some .boolean)] ++ wsX60)
def wsX6_nextByte : List Cond := .code yX6_nextByte cX6_nextByte 1 (some .int) :: ([.fieldLink RX6 135 "WellMoodsModel" "place" "I", .fieldLink RX6 132 "WellMoodsModel" "taped" "I", .fieldLink RX6 41 "WellMoodsModel" "tape" "[I"] ++ wsX60)
def wsX6_readDigit : List Cond := .code yX6_readDigit cX6_readDigit 4 (some .int) :: ([.fieldLink RX6 135 "WellMoodsModel" "place" "I", .methodLink RX6 138 yX6_nextByte, .instanceMethod yX6_nextByte, .selects RX6 yX6_nextByte yX6_nextByte, .initialized RX6, .code yX6_nextByte cX6_nextByte 1 (some .int), .fieldLink RX6 132 "WellMoodsModel" "taped" "I", .fieldLink RX6 41 "WellMoodsModel" "tape" "[I", .methodLink RX6 75 yX6_in, .static yX6_in, .code yX6_in cX6_in 6 (some .boolean)] ++ wsX60)
def wsX6_readOne : List Cond := .code yX6_readOne cX6_readOne 5 (some .boolean) :: ([.fieldLink RX6 44 "WellMoodsModel" "read" "[I", .fieldLink RX6 135 "WellMoodsModel" "place" "I", .methodLink RX6 138 yX6_nextByte, .instanceMethod yX6_nextByte, .selects RX6 yX6_nextByte yX6_nextByte, .initialized RX6, .code yX6_nextByte cX6_nextByte 1 (some .int), .fieldLink RX6 132 "WellMoodsModel" "taped" "I", .fieldLink RX6 41 "WellMoodsModel" "tape" "[I", .methodLink RX6 142 yX6_readDigit, .instanceMethod yX6_readDigit, .selects RX6 yX6_readDigit yX6_readDigit, .code yX6_readDigit cX6_readDigit 4 (some .int), .methodLink RX6 75 yX6_in, .static yX6_in, .code yX6_in cX6_in 6 (some .boolean)] ++ wsX60)
def wsX6_readVillage : List Cond := .code yX6_readVillage cX6_readVillage 3 (some .boolean) :: ([.fieldLink RX6 135 "WellMoodsModel" "place" "I", .fieldLink RX6 149 "WellMoodsModel" "reads" "I", .methodLink RX6 146 yX6_readOne, .instanceMethod yX6_readOne, .selects RX6 yX6_readOne yX6_readOne, .initialized RX6, .code yX6_readOne cX6_readOne 5 (some .boolean), .fieldLink RX6 44 "WellMoodsModel" "read" "[I", .methodLink RX6 138 yX6_nextByte, .instanceMethod yX6_nextByte, .selects RX6 yX6_nextByte yX6_nextByte, .code yX6_nextByte cX6_nextByte 1 (some .int), .fieldLink RX6 132 "WellMoodsModel" "taped" "I", .fieldLink RX6 41 "WellMoodsModel" "tape" "[I", .methodLink RX6 142 yX6_readDigit, .instanceMethod yX6_readDigit, .selects RX6 yX6_readDigit yX6_readDigit, .code yX6_readDigit cX6_readDigit 4 (some .int), .methodLink RX6 75 yX6_in, .static yX6_in, .code yX6_in cX6_in 6 (some .boolean)] ++ wsX60)
def wsX6_village_r1 : List Cond := [Cond.fieldLink RX6 132 "WellMoodsModel" "taped" "I", Cond.fieldLink RX6 135 "WellMoodsModel" "place" "I", Cond.fieldLink RX6 72 "WellMoodsModel" "many" "I", Cond.fieldLink RX6 121 "WellMoodsModel" "planMany" "I", Cond.fieldLink RX6 32 "WellMoodsModel" "ahead" "I", Cond.fieldLink RX6 149 "WellMoodsModel" "reads" "I", Cond.fieldLink RX6 44 "WellMoodsModel" "read" "[I", Cond.methodLink RX6 152 yX6_readVillage, Cond.instanceMethod yX6_readVillage, Cond.selects RX6 yX6_readVillage yX6_readVillage, Cond.initialized RX6, Cond.code yX6_readVillage cX6_readVillage 3 (some .boolean), Cond.methodLink RX6 146 yX6_readOne, Cond.instanceMethod yX6_readOne, Cond.selects RX6 yX6_readOne yX6_readOne, Cond.code yX6_readOne cX6_readOne 5 (some .boolean), Cond.methodLink RX6 138 yX6_nextByte, Cond.instanceMethod yX6_nextByte, Cond.selects RX6 yX6_nextByte yX6_nextByte, Cond.code yX6_nextByte cX6_nextByte 1 (some .int), Cond.fieldLink RX6 41 "WellMoodsModel" "tape" "[I", Cond.methodLink RX6 142 yX6_readDigit, Cond.instanceMethod yX6_readDigit, Cond.selects RX6 yX6_readDigit yX6_readDigit]
def wsX6_village_r2 : List Cond := [Cond.code yX6_readDigit cX6_readDigit 4 (some .int), Cond.methodLink RX6 75 yX6_in, Cond.static yX6_in, Cond.code yX6_in cX6_in 6 (some .boolean), Cond.methodLink RX6 87 yX6_add, Cond.instanceMethod yX6_add, Cond.selects RX6 yX6_add yX6_add, Cond.code yX6_add cX6_add 4 none, Cond.fieldLink RX6 7 "WellMoodsModel" "kinds" "[I", Cond.fieldLink RX6 13 "WellMoodsModel" "feels" "[I", Cond.fieldLink RX6 16 "WellMoodsModel" "rests" "[I", Cond.fieldLink RX6 19 "WellMoodsModel" "quarrels" "[I", Cond.fieldLink RX6 22 "WellMoodsModel" "free" "[I"]
def wsX6_village : List Cond := .code yX6_village cX6_village 3 (some .int) :: ((wsX6_village_r1 ++ wsX6_village_r2) ++ wsX60)
def wsX6_readPlan : List Cond := .code yX6_readPlan cX6_readPlan 2 (some .boolean) :: ([.fieldLink RX6 135 "WellMoodsModel" "place" "I", .fieldLink RX6 149 "WellMoodsModel" "reads" "I", .fieldLink RX6 44 "WellMoodsModel" "read" "[I", .methodLink RX6 138 yX6_nextByte, .instanceMethod yX6_nextByte, .selects RX6 yX6_nextByte yX6_nextByte, .initialized RX6, .code yX6_nextByte cX6_nextByte 1 (some .int), .fieldLink RX6 132 "WellMoodsModel" "taped" "I", .fieldLink RX6 41 "WellMoodsModel" "tape" "[I", .methodLink RX6 91 yX6_isOne, .instanceMethod yX6_isOne, .selects RX6 yX6_isOne yX6_isOne, .code yX6_isOne cX6_isOne 2 (some .boolean), .fieldLink RX6 72 "WellMoodsModel" "many" "I", .methodLink RX6 75 yX6_in, .static yX6_in, .code yX6_in cX6_in 6 (some .boolean)] ++ wsX60)
def wsX6_plan : List Cond := .code yX6_plan cX6_plan 3 (some .int) :: ([.fieldLink RX6 132 "WellMoodsModel" "taped" "I", .fieldLink RX6 135 "WellMoodsModel" "place" "I", .fieldLink RX6 149 "WellMoodsModel" "reads" "I", .fieldLink RX6 121 "WellMoodsModel" "planMany" "I", .fieldLink RX6 35 "WellMoodsModel" "plan" "[I", .fieldLink RX6 44 "WellMoodsModel" "read" "[I", .methodLink RX6 156 yX6_readPlan, .instanceMethod yX6_readPlan, .selects RX6 yX6_readPlan yX6_readPlan, .initialized RX6, .code yX6_readPlan cX6_readPlan 2 (some .boolean), .methodLink RX6 138 yX6_nextByte, .instanceMethod yX6_nextByte, .selects RX6 yX6_nextByte yX6_nextByte, .code yX6_nextByte cX6_nextByte 1 (some .int), .fieldLink RX6 41 "WellMoodsModel" "tape" "[I", .methodLink RX6 91 yX6_isOne, .instanceMethod yX6_isOne, .selects RX6 yX6_isOne yX6_isOne, .code yX6_isOne cX6_isOne 2 (some .boolean), .fieldLink RX6 72 "WellMoodsModel" "many" "I", .methodLink RX6 75 yX6_in, .static yX6_in, .code yX6_in cX6_in 6 (some .boolean)] ++ wsX60)
def wsX6_pailsOf : List Cond := .code yX6_pailsOf cX6_pailsOf 3 (some .int) :: ([])
def wsX6_isSweet : List Cond := .code yX6_isSweet cX6_isSweet 2 (some .boolean) :: ([])
def wsX6_most9 : List Cond := .code yX6_most9 cX6_most9 1 (some .int) :: ([])
def wsX6_wane : List Cond := .code yX6_wane cX6_wane 1 (some .int) :: ([])
def wsX6_feltBy : List Cond := .code yX6_feltBy cX6_feltBy 2 (some .int) :: ([.fieldLink RX6 7 "WellMoodsModel" "kinds" "[I", .fieldLink RX6 13 "WellMoodsModel" "feels" "[I"] ++ wsX60)
def wsX6_begin : List Cond := .code yX6_begin cX6_begin 2 none :: ([.fieldLink RX6 112 "WellMoodsModel" "mood" "I", .fieldLink RX6 159 "WellMoodsModel" "tryMood" "I", .fieldLink RX6 25 "WellMoodsModel" "level" "I", .fieldLink RX6 162 "WellMoodsModel" "tryLevel" "I", .fieldLink RX6 98 "WellMoodsModel" "hour" "I", .fieldLink RX6 165 "WellMoodsModel" "tryHour" "I", .fieldLink RX6 32 "WellMoodsModel" "ahead" "I", .fieldLink RX6 168 "WellMoodsModel" "tryAhead" "I", .fieldLink RX6 47 "WellMoodsModel" "tryFree" "[I", .fieldLink RX6 22 "WellMoodsModel" "free" "[I"] ++ wsX60)
def wsX6_tryOne_r1 : List Cond := [Cond.fieldLink RX6 171 "WellMoodsModel" "tryPails" "I", Cond.fieldLink RX6 174 "WellMoodsModel" "trySweet" "Z", Cond.fieldLink RX6 47 "WellMoodsModel" "tryFree" "[I", Cond.fieldLink RX6 165 "WellMoodsModel" "tryHour" "I", Cond.fieldLink RX6 168 "WellMoodsModel" "tryAhead" "I", Cond.fieldLink RX6 19 "WellMoodsModel" "quarrels" "[I", Cond.fieldLink RX6 7 "WellMoodsModel" "kinds" "[I", Cond.fieldLink RX6 159 "WellMoodsModel" "tryMood" "I", Cond.fieldLink RX6 162 "WellMoodsModel" "tryLevel" "I", Cond.fieldLink RX6 16 "WellMoodsModel" "rests" "[I", Cond.fieldLink RX6 29 "WellMoodsModel" "rain" "I", Cond.methodLink RX6 178 yX6_has, Cond.static yX6_has, Cond.initialized RX6, Cond.code yX6_has cX6_has 2 (some .boolean), Cond.methodLink RX6 182 yX6_pailsOf, Cond.static yX6_pailsOf, Cond.code yX6_pailsOf cX6_pailsOf 3 (some .int), Cond.methodLink RX6 185 yX6_isSweet, Cond.static yX6_isSweet, Cond.code yX6_isSweet cX6_isSweet 2 (some .boolean), Cond.methodLink RX6 188 yX6_feltBy, Cond.instanceMethod yX6_feltBy, Cond.selects RX6 yX6_feltBy yX6_feltBy]
def wsX6_tryOne_r2 : List Cond := [Cond.code yX6_feltBy cX6_feltBy 2 (some .int), Cond.fieldLink RX6 13 "WellMoodsModel" "feels" "[I", Cond.methodLink RX6 192 yX6_most9, Cond.static yX6_most9, Cond.code yX6_most9 cX6_most9 1 (some .int), Cond.methodLink RX6 195 yX6_wane, Cond.static yX6_wane, Cond.code yX6_wane cX6_wane 1 (some .int)]
def wsX6_tryOne : List Cond := .code yX6_tryOne cX6_tryOne 4 (some .boolean) :: ((wsX6_tryOne_r1 ++ wsX6_tryOne_r2) ++ wsX60)
def wsX6_keep : List Cond := .code yX6_keep cX6_keep 2 none :: ([.fieldLink RX6 159 "WellMoodsModel" "tryMood" "I", .fieldLink RX6 112 "WellMoodsModel" "mood" "I", .fieldLink RX6 162 "WellMoodsModel" "tryLevel" "I", .fieldLink RX6 25 "WellMoodsModel" "level" "I", .fieldLink RX6 165 "WellMoodsModel" "tryHour" "I", .fieldLink RX6 98 "WellMoodsModel" "hour" "I", .fieldLink RX6 168 "WellMoodsModel" "tryAhead" "I", .fieldLink RX6 32 "WellMoodsModel" "ahead" "I", .fieldLink RX6 115 "WellMoodsModel" "sweet" "I", .fieldLink RX6 174 "WellMoodsModel" "trySweet" "Z", .fieldLink RX6 171 "WellMoodsModel" "tryPails" "I", .fieldLink RX6 118 "WellMoodsModel" "salt" "I", .fieldLink RX6 22 "WellMoodsModel" "free" "[I", .fieldLink RX6 47 "WellMoodsModel" "tryFree" "[I"] ++ wsX60)
def wsX6_goOn_r1 : List Cond := [Cond.fieldLink RX6 171 "WellMoodsModel" "tryPails" "I", Cond.methodLink RX6 198 yX6_begin, Cond.instanceMethod yX6_begin, Cond.selects RX6 yX6_begin yX6_begin, Cond.initialized RX6, Cond.code yX6_begin cX6_begin 2 none, Cond.fieldLink RX6 112 "WellMoodsModel" "mood" "I", Cond.fieldLink RX6 159 "WellMoodsModel" "tryMood" "I", Cond.fieldLink RX6 25 "WellMoodsModel" "level" "I", Cond.fieldLink RX6 162 "WellMoodsModel" "tryLevel" "I", Cond.fieldLink RX6 98 "WellMoodsModel" "hour" "I", Cond.fieldLink RX6 165 "WellMoodsModel" "tryHour" "I", Cond.fieldLink RX6 32 "WellMoodsModel" "ahead" "I", Cond.fieldLink RX6 168 "WellMoodsModel" "tryAhead" "I", Cond.fieldLink RX6 47 "WellMoodsModel" "tryFree" "[I", Cond.fieldLink RX6 22 "WellMoodsModel" "free" "[I", Cond.methodLink RX6 201 yX6_tryOne, Cond.instanceMethod yX6_tryOne, Cond.selects RX6 yX6_tryOne yX6_tryOne, Cond.code yX6_tryOne cX6_tryOne 4 (some .boolean), Cond.fieldLink RX6 174 "WellMoodsModel" "trySweet" "Z", Cond.fieldLink RX6 19 "WellMoodsModel" "quarrels" "[I", Cond.fieldLink RX6 7 "WellMoodsModel" "kinds" "[I", Cond.fieldLink RX6 16 "WellMoodsModel" "rests" "[I"]
def wsX6_goOn_r2 : List Cond := [Cond.fieldLink RX6 29 "WellMoodsModel" "rain" "I", Cond.methodLink RX6 178 yX6_has, Cond.static yX6_has, Cond.code yX6_has cX6_has 2 (some .boolean), Cond.methodLink RX6 182 yX6_pailsOf, Cond.static yX6_pailsOf, Cond.code yX6_pailsOf cX6_pailsOf 3 (some .int), Cond.methodLink RX6 185 yX6_isSweet, Cond.static yX6_isSweet, Cond.code yX6_isSweet cX6_isSweet 2 (some .boolean), Cond.methodLink RX6 188 yX6_feltBy, Cond.instanceMethod yX6_feltBy, Cond.selects RX6 yX6_feltBy yX6_feltBy, Cond.code yX6_feltBy cX6_feltBy 2 (some .int), Cond.fieldLink RX6 13 "WellMoodsModel" "feels" "[I", Cond.methodLink RX6 192 yX6_most9, Cond.static yX6_most9, Cond.code yX6_most9 cX6_most9 1 (some .int), Cond.methodLink RX6 195 yX6_wane, Cond.static yX6_wane, Cond.code yX6_wane cX6_wane 1 (some .int), Cond.methodLink RX6 204 yX6_keep, Cond.instanceMethod yX6_keep, Cond.selects RX6 yX6_keep yX6_keep]
def wsX6_goOn_r3 : List Cond := [Cond.code yX6_keep cX6_keep 2 none, Cond.fieldLink RX6 115 "WellMoodsModel" "sweet" "I", Cond.fieldLink RX6 118 "WellMoodsModel" "salt" "I"]
def wsX6_goOn : List Cond := .code yX6_goOn cX6_goOn 2 (some .int) :: ((wsX6_goOn_r1 ++ (wsX6_goOn_r2 ++ wsX6_goOn_r3)) ++ wsX60)
def wsX6_may : List Cond := .code yX6_may cX6_may 3 (some .int) :: ([.fieldLink RX6 72 "WellMoodsModel" "many" "I", .fieldLink RX6 22 "WellMoodsModel" "free" "[I", .fieldLink RX6 98 "WellMoodsModel" "hour" "I"] ++ wsX60)
def wsX6_draw_r1 : List Cond := [Cond.fieldLink RX6 22 "WellMoodsModel" "free" "[I", Cond.fieldLink RX6 98 "WellMoodsModel" "hour" "I", Cond.methodLink RX6 91 yX6_isOne, Cond.instanceMethod yX6_isOne, Cond.selects RX6 yX6_isOne yX6_isOne, Cond.initialized RX6, Cond.code yX6_isOne cX6_isOne 2 (some .boolean), Cond.fieldLink RX6 72 "WellMoodsModel" "many" "I", Cond.methodLink RX6 75 yX6_in, Cond.static yX6_in, Cond.code yX6_in cX6_in 6 (some .boolean), Cond.methodLink RX6 207 yX6_goOn, Cond.instanceMethod yX6_goOn, Cond.selects RX6 yX6_goOn yX6_goOn, Cond.code yX6_goOn cX6_goOn 2 (some .int), Cond.fieldLink RX6 171 "WellMoodsModel" "tryPails" "I", Cond.methodLink RX6 198 yX6_begin, Cond.instanceMethod yX6_begin, Cond.selects RX6 yX6_begin yX6_begin, Cond.code yX6_begin cX6_begin 2 none, Cond.fieldLink RX6 112 "WellMoodsModel" "mood" "I", Cond.fieldLink RX6 159 "WellMoodsModel" "tryMood" "I", Cond.fieldLink RX6 25 "WellMoodsModel" "level" "I", Cond.fieldLink RX6 162 "WellMoodsModel" "tryLevel" "I"]
def wsX6_draw_r2 : List Cond := [Cond.fieldLink RX6 165 "WellMoodsModel" "tryHour" "I", Cond.fieldLink RX6 32 "WellMoodsModel" "ahead" "I", Cond.fieldLink RX6 168 "WellMoodsModel" "tryAhead" "I", Cond.fieldLink RX6 47 "WellMoodsModel" "tryFree" "[I", Cond.methodLink RX6 201 yX6_tryOne, Cond.instanceMethod yX6_tryOne, Cond.selects RX6 yX6_tryOne yX6_tryOne, Cond.code yX6_tryOne cX6_tryOne 4 (some .boolean), Cond.fieldLink RX6 174 "WellMoodsModel" "trySweet" "Z", Cond.fieldLink RX6 19 "WellMoodsModel" "quarrels" "[I", Cond.fieldLink RX6 7 "WellMoodsModel" "kinds" "[I", Cond.fieldLink RX6 16 "WellMoodsModel" "rests" "[I", Cond.fieldLink RX6 29 "WellMoodsModel" "rain" "I", Cond.methodLink RX6 178 yX6_has, Cond.static yX6_has, Cond.code yX6_has cX6_has 2 (some .boolean), Cond.methodLink RX6 182 yX6_pailsOf, Cond.static yX6_pailsOf, Cond.code yX6_pailsOf cX6_pailsOf 3 (some .int), Cond.methodLink RX6 185 yX6_isSweet, Cond.static yX6_isSweet, Cond.code yX6_isSweet cX6_isSweet 2 (some .boolean), Cond.methodLink RX6 188 yX6_feltBy, Cond.instanceMethod yX6_feltBy]
def wsX6_draw_r3 : List Cond := [Cond.selects RX6 yX6_feltBy yX6_feltBy, Cond.code yX6_feltBy cX6_feltBy 2 (some .int), Cond.fieldLink RX6 13 "WellMoodsModel" "feels" "[I", Cond.methodLink RX6 192 yX6_most9, Cond.static yX6_most9, Cond.code yX6_most9 cX6_most9 1 (some .int), Cond.methodLink RX6 195 yX6_wane, Cond.static yX6_wane, Cond.code yX6_wane cX6_wane 1 (some .int), Cond.methodLink RX6 204 yX6_keep, Cond.instanceMethod yX6_keep, Cond.selects RX6 yX6_keep yX6_keep, Cond.code yX6_keep cX6_keep 2 none, Cond.fieldLink RX6 115 "WellMoodsModel" "sweet" "I", Cond.fieldLink RX6 118 "WellMoodsModel" "salt" "I"]
def wsX6_draw : List Cond := .code yX6_draw cX6_draw 2 (some .int) :: ((wsX6_draw_r1 ++ (wsX6_draw_r2 ++ wsX6_draw_r3)) ++ wsX60)
def wsX6_pass_r1 : List Cond := [Cond.constantLong RX6 210 (60), Cond.fieldLink RX6 98 "WellMoodsModel" "hour" "I", Cond.methodLink RX6 75 yX6_in, Cond.static yX6_in, Cond.initialized RX6, Cond.code yX6_in cX6_in 6 (some .boolean), Cond.methodLink RX6 207 yX6_goOn, Cond.instanceMethod yX6_goOn, Cond.selects RX6 yX6_goOn yX6_goOn, Cond.code yX6_goOn cX6_goOn 2 (some .int), Cond.fieldLink RX6 171 "WellMoodsModel" "tryPails" "I", Cond.methodLink RX6 198 yX6_begin, Cond.instanceMethod yX6_begin, Cond.selects RX6 yX6_begin yX6_begin, Cond.code yX6_begin cX6_begin 2 none, Cond.fieldLink RX6 112 "WellMoodsModel" "mood" "I", Cond.fieldLink RX6 159 "WellMoodsModel" "tryMood" "I", Cond.fieldLink RX6 25 "WellMoodsModel" "level" "I", Cond.fieldLink RX6 162 "WellMoodsModel" "tryLevel" "I", Cond.fieldLink RX6 165 "WellMoodsModel" "tryHour" "I", Cond.fieldLink RX6 32 "WellMoodsModel" "ahead" "I", Cond.fieldLink RX6 168 "WellMoodsModel" "tryAhead" "I", Cond.fieldLink RX6 47 "WellMoodsModel" "tryFree" "[I", Cond.fieldLink RX6 22 "WellMoodsModel" "free" "[I"]
def wsX6_pass_r2 : List Cond := [Cond.methodLink RX6 201 yX6_tryOne, Cond.instanceMethod yX6_tryOne, Cond.selects RX6 yX6_tryOne yX6_tryOne, Cond.code yX6_tryOne cX6_tryOne 4 (some .boolean), Cond.fieldLink RX6 174 "WellMoodsModel" "trySweet" "Z", Cond.fieldLink RX6 19 "WellMoodsModel" "quarrels" "[I", Cond.fieldLink RX6 7 "WellMoodsModel" "kinds" "[I", Cond.fieldLink RX6 16 "WellMoodsModel" "rests" "[I", Cond.fieldLink RX6 29 "WellMoodsModel" "rain" "I", Cond.methodLink RX6 178 yX6_has, Cond.static yX6_has, Cond.code yX6_has cX6_has 2 (some .boolean), Cond.methodLink RX6 182 yX6_pailsOf, Cond.static yX6_pailsOf, Cond.code yX6_pailsOf cX6_pailsOf 3 (some .int), Cond.methodLink RX6 185 yX6_isSweet, Cond.static yX6_isSweet, Cond.code yX6_isSweet cX6_isSweet 2 (some .boolean), Cond.methodLink RX6 188 yX6_feltBy, Cond.instanceMethod yX6_feltBy, Cond.selects RX6 yX6_feltBy yX6_feltBy, Cond.code yX6_feltBy cX6_feltBy 2 (some .int), Cond.fieldLink RX6 13 "WellMoodsModel" "feels" "[I", Cond.methodLink RX6 192 yX6_most9]
def wsX6_pass_r3 : List Cond := [Cond.static yX6_most9, Cond.code yX6_most9 cX6_most9 1 (some .int), Cond.methodLink RX6 195 yX6_wane, Cond.static yX6_wane, Cond.code yX6_wane cX6_wane 1 (some .int), Cond.methodLink RX6 204 yX6_keep, Cond.instanceMethod yX6_keep, Cond.selects RX6 yX6_keep yX6_keep, Cond.code yX6_keep cX6_keep 2 none, Cond.fieldLink RX6 115 "WellMoodsModel" "sweet" "I", Cond.fieldLink RX6 118 "WellMoodsModel" "salt" "I"]
def wsX6_pass : List Cond := .code yX6_pass cX6_pass 3 (some .int) :: ((wsX6_pass_r1 ++ (wsX6_pass_r2 ++ wsX6_pass_r3)) ++ wsX60)
def wsX6_run_r1 : List Cond := [Cond.fieldLink RX6 98 "WellMoodsModel" "hour" "I", Cond.fieldLink RX6 121 "WellMoodsModel" "planMany" "I", Cond.fieldLink RX6 35 "WellMoodsModel" "plan" "[I", Cond.methodLink RX6 207 yX6_goOn, Cond.instanceMethod yX6_goOn, Cond.selects RX6 yX6_goOn yX6_goOn, Cond.initialized RX6, Cond.code yX6_goOn cX6_goOn 2 (some .int), Cond.fieldLink RX6 171 "WellMoodsModel" "tryPails" "I", Cond.methodLink RX6 198 yX6_begin, Cond.instanceMethod yX6_begin, Cond.selects RX6 yX6_begin yX6_begin, Cond.code yX6_begin cX6_begin 2 none, Cond.fieldLink RX6 112 "WellMoodsModel" "mood" "I", Cond.fieldLink RX6 159 "WellMoodsModel" "tryMood" "I", Cond.fieldLink RX6 25 "WellMoodsModel" "level" "I", Cond.fieldLink RX6 162 "WellMoodsModel" "tryLevel" "I", Cond.fieldLink RX6 165 "WellMoodsModel" "tryHour" "I", Cond.fieldLink RX6 32 "WellMoodsModel" "ahead" "I", Cond.fieldLink RX6 168 "WellMoodsModel" "tryAhead" "I", Cond.fieldLink RX6 47 "WellMoodsModel" "tryFree" "[I", Cond.fieldLink RX6 22 "WellMoodsModel" "free" "[I", Cond.methodLink RX6 201 yX6_tryOne, Cond.instanceMethod yX6_tryOne]
def wsX6_run_r2 : List Cond := [Cond.selects RX6 yX6_tryOne yX6_tryOne, Cond.code yX6_tryOne cX6_tryOne 4 (some .boolean), Cond.fieldLink RX6 174 "WellMoodsModel" "trySweet" "Z", Cond.fieldLink RX6 19 "WellMoodsModel" "quarrels" "[I", Cond.fieldLink RX6 7 "WellMoodsModel" "kinds" "[I", Cond.fieldLink RX6 16 "WellMoodsModel" "rests" "[I", Cond.fieldLink RX6 29 "WellMoodsModel" "rain" "I", Cond.methodLink RX6 178 yX6_has, Cond.static yX6_has, Cond.code yX6_has cX6_has 2 (some .boolean), Cond.methodLink RX6 182 yX6_pailsOf, Cond.static yX6_pailsOf, Cond.code yX6_pailsOf cX6_pailsOf 3 (some .int), Cond.methodLink RX6 185 yX6_isSweet, Cond.static yX6_isSweet, Cond.code yX6_isSweet cX6_isSweet 2 (some .boolean), Cond.methodLink RX6 188 yX6_feltBy, Cond.instanceMethod yX6_feltBy, Cond.selects RX6 yX6_feltBy yX6_feltBy, Cond.code yX6_feltBy cX6_feltBy 2 (some .int), Cond.fieldLink RX6 13 "WellMoodsModel" "feels" "[I", Cond.methodLink RX6 192 yX6_most9, Cond.static yX6_most9, Cond.code yX6_most9 cX6_most9 1 (some .int)]
def wsX6_run_r3 : List Cond := [Cond.methodLink RX6 195 yX6_wane, Cond.static yX6_wane, Cond.code yX6_wane cX6_wane 1 (some .int), Cond.methodLink RX6 204 yX6_keep, Cond.instanceMethod yX6_keep, Cond.selects RX6 yX6_keep yX6_keep, Cond.code yX6_keep cX6_keep 2 none, Cond.fieldLink RX6 115 "WellMoodsModel" "sweet" "I", Cond.fieldLink RX6 118 "WellMoodsModel" "salt" "I"]
def wsX6_run : List Cond := .code yX6_run cX6_run 2 (some .int) :: ((wsX6_run_r1 ++ (wsX6_run_r2 ++ wsX6_run_r3)) ++ wsX60)
def wsX6_nextRow : List Cond := .code yX6_nextRow cX6_nextRow 3 (some .boolean) :: ([.fieldLink RX6 50 "WellMoodsModel" "row" "[I", .fieldLink RX6 72 "WellMoodsModel" "many" "I"] ++ wsX60)
def wsX6_findMost_r1 : List Cond := [Cond.fieldLink RX6 50 "WellMoodsModel" "row" "[I", Cond.fieldLink RX6 159 "WellMoodsModel" "tryMood" "I", Cond.fieldLink RX6 72 "WellMoodsModel" "many" "I", Cond.fieldLink RX6 174 "WellMoodsModel" "trySweet" "Z", Cond.fieldLink RX6 171 "WellMoodsModel" "tryPails" "I", Cond.fieldLink RX6 53 "WellMoodsModel" "best" "[I", Cond.methodLink RX6 198 yX6_begin, Cond.instanceMethod yX6_begin, Cond.selects RX6 yX6_begin yX6_begin, Cond.initialized RX6, Cond.code yX6_begin cX6_begin 2 none, Cond.fieldLink RX6 112 "WellMoodsModel" "mood" "I", Cond.fieldLink RX6 25 "WellMoodsModel" "level" "I", Cond.fieldLink RX6 162 "WellMoodsModel" "tryLevel" "I", Cond.fieldLink RX6 98 "WellMoodsModel" "hour" "I", Cond.fieldLink RX6 165 "WellMoodsModel" "tryHour" "I", Cond.fieldLink RX6 32 "WellMoodsModel" "ahead" "I", Cond.fieldLink RX6 168 "WellMoodsModel" "tryAhead" "I", Cond.fieldLink RX6 47 "WellMoodsModel" "tryFree" "[I", Cond.fieldLink RX6 22 "WellMoodsModel" "free" "[I", Cond.methodLink RX6 201 yX6_tryOne, Cond.instanceMethod yX6_tryOne, Cond.selects RX6 yX6_tryOne yX6_tryOne, Cond.code yX6_tryOne cX6_tryOne 4 (some .boolean)]
def wsX6_findMost_r2 : List Cond := [Cond.fieldLink RX6 19 "WellMoodsModel" "quarrels" "[I", Cond.fieldLink RX6 7 "WellMoodsModel" "kinds" "[I", Cond.fieldLink RX6 16 "WellMoodsModel" "rests" "[I", Cond.fieldLink RX6 29 "WellMoodsModel" "rain" "I", Cond.methodLink RX6 178 yX6_has, Cond.static yX6_has, Cond.code yX6_has cX6_has 2 (some .boolean), Cond.methodLink RX6 182 yX6_pailsOf, Cond.static yX6_pailsOf, Cond.code yX6_pailsOf cX6_pailsOf 3 (some .int), Cond.methodLink RX6 185 yX6_isSweet, Cond.static yX6_isSweet, Cond.code yX6_isSweet cX6_isSweet 2 (some .boolean), Cond.methodLink RX6 188 yX6_feltBy, Cond.instanceMethod yX6_feltBy, Cond.selects RX6 yX6_feltBy yX6_feltBy, Cond.code yX6_feltBy cX6_feltBy 2 (some .int), Cond.fieldLink RX6 13 "WellMoodsModel" "feels" "[I", Cond.methodLink RX6 192 yX6_most9, Cond.static yX6_most9, Cond.code yX6_most9 cX6_most9 1 (some .int), Cond.methodLink RX6 195 yX6_wane, Cond.static yX6_wane, Cond.code yX6_wane cX6_wane 1 (some .int)]
def wsX6_findMost_r3 : List Cond := [Cond.methodLink RX6 212 yX6_nextRow, Cond.instanceMethod yX6_nextRow, Cond.selects RX6 yX6_nextRow yX6_nextRow, Cond.code yX6_nextRow cX6_nextRow 3 (some .boolean)]
def wsX6_findMost : List Cond := .code yX6_findMost cX6_findMost 8 (some .int) :: ((wsX6_findMost_r1 ++ (wsX6_findMost_r2 ++ wsX6_findMost_r3)) ++ wsX60)
def wsX6_most_r1 : List Cond := [Cond.constantLong RX6 215 (5), Cond.fieldLink RX6 112 "WellMoodsModel" "mood" "I", Cond.methodLink RX6 75 yX6_in, Cond.static yX6_in, Cond.initialized RX6, Cond.code yX6_in cX6_in 6 (some .boolean), Cond.methodLink RX6 217 yX6_findMost, Cond.instanceMethod yX6_findMost, Cond.selects RX6 yX6_findMost yX6_findMost, Cond.code yX6_findMost cX6_findMost 8 (some .int), Cond.fieldLink RX6 50 "WellMoodsModel" "row" "[I", Cond.fieldLink RX6 159 "WellMoodsModel" "tryMood" "I", Cond.fieldLink RX6 72 "WellMoodsModel" "many" "I", Cond.fieldLink RX6 174 "WellMoodsModel" "trySweet" "Z", Cond.fieldLink RX6 171 "WellMoodsModel" "tryPails" "I", Cond.fieldLink RX6 53 "WellMoodsModel" "best" "[I", Cond.methodLink RX6 198 yX6_begin, Cond.instanceMethod yX6_begin, Cond.selects RX6 yX6_begin yX6_begin, Cond.code yX6_begin cX6_begin 2 none, Cond.fieldLink RX6 25 "WellMoodsModel" "level" "I", Cond.fieldLink RX6 162 "WellMoodsModel" "tryLevel" "I", Cond.fieldLink RX6 98 "WellMoodsModel" "hour" "I", Cond.fieldLink RX6 165 "WellMoodsModel" "tryHour" "I"]
def wsX6_most_r2 : List Cond := [Cond.fieldLink RX6 32 "WellMoodsModel" "ahead" "I", Cond.fieldLink RX6 168 "WellMoodsModel" "tryAhead" "I", Cond.fieldLink RX6 47 "WellMoodsModel" "tryFree" "[I", Cond.fieldLink RX6 22 "WellMoodsModel" "free" "[I", Cond.methodLink RX6 201 yX6_tryOne, Cond.instanceMethod yX6_tryOne, Cond.selects RX6 yX6_tryOne yX6_tryOne, Cond.code yX6_tryOne cX6_tryOne 4 (some .boolean), Cond.fieldLink RX6 19 "WellMoodsModel" "quarrels" "[I", Cond.fieldLink RX6 7 "WellMoodsModel" "kinds" "[I", Cond.fieldLink RX6 16 "WellMoodsModel" "rests" "[I", Cond.fieldLink RX6 29 "WellMoodsModel" "rain" "I", Cond.methodLink RX6 178 yX6_has, Cond.static yX6_has, Cond.code yX6_has cX6_has 2 (some .boolean), Cond.methodLink RX6 182 yX6_pailsOf, Cond.static yX6_pailsOf, Cond.code yX6_pailsOf cX6_pailsOf 3 (some .int), Cond.methodLink RX6 185 yX6_isSweet, Cond.static yX6_isSweet, Cond.code yX6_isSweet cX6_isSweet 2 (some .boolean), Cond.methodLink RX6 188 yX6_feltBy, Cond.instanceMethod yX6_feltBy, Cond.selects RX6 yX6_feltBy yX6_feltBy]
def wsX6_most_r3 : List Cond := [Cond.code yX6_feltBy cX6_feltBy 2 (some .int), Cond.fieldLink RX6 13 "WellMoodsModel" "feels" "[I", Cond.methodLink RX6 192 yX6_most9, Cond.static yX6_most9, Cond.code yX6_most9 cX6_most9 1 (some .int), Cond.methodLink RX6 195 yX6_wane, Cond.static yX6_wane, Cond.code yX6_wane cX6_wane 1 (some .int), Cond.methodLink RX6 212 yX6_nextRow, Cond.instanceMethod yX6_nextRow, Cond.selects RX6 yX6_nextRow yX6_nextRow, Cond.code yX6_nextRow cX6_nextRow 3 (some .boolean)]
def wsX6_most : List Cond := .code yX6_most cX6_most 2 (some .int) :: ((wsX6_most_r1 ++ (wsX6_most_r2 ++ wsX6_most_r3)) ++ wsX60)
def wsX6_row_r1 : List Cond := [Cond.constantLong RX6 215 (5), Cond.fieldLink RX6 112 "WellMoodsModel" "mood" "I", Cond.fieldLink RX6 53 "WellMoodsModel" "best" "[I", Cond.methodLink RX6 75 yX6_in, Cond.static yX6_in, Cond.initialized RX6, Cond.code yX6_in cX6_in 6 (some .boolean), Cond.methodLink RX6 217 yX6_findMost, Cond.instanceMethod yX6_findMost, Cond.selects RX6 yX6_findMost yX6_findMost, Cond.code yX6_findMost cX6_findMost 8 (some .int), Cond.fieldLink RX6 50 "WellMoodsModel" "row" "[I", Cond.fieldLink RX6 159 "WellMoodsModel" "tryMood" "I", Cond.fieldLink RX6 72 "WellMoodsModel" "many" "I", Cond.fieldLink RX6 174 "WellMoodsModel" "trySweet" "Z", Cond.fieldLink RX6 171 "WellMoodsModel" "tryPails" "I", Cond.methodLink RX6 198 yX6_begin, Cond.instanceMethod yX6_begin, Cond.selects RX6 yX6_begin yX6_begin, Cond.code yX6_begin cX6_begin 2 none, Cond.fieldLink RX6 25 "WellMoodsModel" "level" "I", Cond.fieldLink RX6 162 "WellMoodsModel" "tryLevel" "I", Cond.fieldLink RX6 98 "WellMoodsModel" "hour" "I", Cond.fieldLink RX6 165 "WellMoodsModel" "tryHour" "I"]
def wsX6_row_r2 : List Cond := [Cond.fieldLink RX6 32 "WellMoodsModel" "ahead" "I", Cond.fieldLink RX6 168 "WellMoodsModel" "tryAhead" "I", Cond.fieldLink RX6 47 "WellMoodsModel" "tryFree" "[I", Cond.fieldLink RX6 22 "WellMoodsModel" "free" "[I", Cond.methodLink RX6 201 yX6_tryOne, Cond.instanceMethod yX6_tryOne, Cond.selects RX6 yX6_tryOne yX6_tryOne, Cond.code yX6_tryOne cX6_tryOne 4 (some .boolean), Cond.fieldLink RX6 19 "WellMoodsModel" "quarrels" "[I", Cond.fieldLink RX6 7 "WellMoodsModel" "kinds" "[I", Cond.fieldLink RX6 16 "WellMoodsModel" "rests" "[I", Cond.fieldLink RX6 29 "WellMoodsModel" "rain" "I", Cond.methodLink RX6 178 yX6_has, Cond.static yX6_has, Cond.code yX6_has cX6_has 2 (some .boolean), Cond.methodLink RX6 182 yX6_pailsOf, Cond.static yX6_pailsOf, Cond.code yX6_pailsOf cX6_pailsOf 3 (some .int), Cond.methodLink RX6 185 yX6_isSweet, Cond.static yX6_isSweet, Cond.code yX6_isSweet cX6_isSweet 2 (some .boolean), Cond.methodLink RX6 188 yX6_feltBy, Cond.instanceMethod yX6_feltBy, Cond.selects RX6 yX6_feltBy yX6_feltBy]
def wsX6_row_r3 : List Cond := [Cond.code yX6_feltBy cX6_feltBy 2 (some .int), Cond.fieldLink RX6 13 "WellMoodsModel" "feels" "[I", Cond.methodLink RX6 192 yX6_most9, Cond.static yX6_most9, Cond.code yX6_most9 cX6_most9 1 (some .int), Cond.methodLink RX6 195 yX6_wane, Cond.static yX6_wane, Cond.code yX6_wane cX6_wane 1 (some .int), Cond.methodLink RX6 212 yX6_nextRow, Cond.instanceMethod yX6_nextRow, Cond.selects RX6 yX6_nextRow yX6_nextRow, Cond.code yX6_nextRow cX6_nextRow 3 (some .boolean)]
def wsX6_row : List Cond := .code yX6_row cX6_row 3 (some .int) :: ((wsX6_row_r1 ++ (wsX6_row_r2 ++ wsX6_row_r3)) ++ wsX60)
def wsX6_fewest_r1 : List Cond := [Cond.constantLong RX6 220 (99), Cond.fieldLink RX6 112 "WellMoodsModel" "mood" "I", Cond.methodLink RX6 75 yX6_in, Cond.static yX6_in, Cond.initialized RX6, Cond.code yX6_in cX6_in 6 (some .boolean), Cond.methodLink RX6 217 yX6_findMost, Cond.instanceMethod yX6_findMost, Cond.selects RX6 yX6_findMost yX6_findMost, Cond.code yX6_findMost cX6_findMost 8 (some .int), Cond.fieldLink RX6 50 "WellMoodsModel" "row" "[I", Cond.fieldLink RX6 159 "WellMoodsModel" "tryMood" "I", Cond.fieldLink RX6 72 "WellMoodsModel" "many" "I", Cond.fieldLink RX6 174 "WellMoodsModel" "trySweet" "Z", Cond.fieldLink RX6 171 "WellMoodsModel" "tryPails" "I", Cond.fieldLink RX6 53 "WellMoodsModel" "best" "[I", Cond.methodLink RX6 198 yX6_begin, Cond.instanceMethod yX6_begin, Cond.selects RX6 yX6_begin yX6_begin, Cond.code yX6_begin cX6_begin 2 none, Cond.fieldLink RX6 25 "WellMoodsModel" "level" "I", Cond.fieldLink RX6 162 "WellMoodsModel" "tryLevel" "I", Cond.fieldLink RX6 98 "WellMoodsModel" "hour" "I", Cond.fieldLink RX6 165 "WellMoodsModel" "tryHour" "I"]
def wsX6_fewest_r2 : List Cond := [Cond.fieldLink RX6 32 "WellMoodsModel" "ahead" "I", Cond.fieldLink RX6 168 "WellMoodsModel" "tryAhead" "I", Cond.fieldLink RX6 47 "WellMoodsModel" "tryFree" "[I", Cond.fieldLink RX6 22 "WellMoodsModel" "free" "[I", Cond.methodLink RX6 201 yX6_tryOne, Cond.instanceMethod yX6_tryOne, Cond.selects RX6 yX6_tryOne yX6_tryOne, Cond.code yX6_tryOne cX6_tryOne 4 (some .boolean), Cond.fieldLink RX6 19 "WellMoodsModel" "quarrels" "[I", Cond.fieldLink RX6 7 "WellMoodsModel" "kinds" "[I", Cond.fieldLink RX6 16 "WellMoodsModel" "rests" "[I", Cond.fieldLink RX6 29 "WellMoodsModel" "rain" "I", Cond.methodLink RX6 178 yX6_has, Cond.static yX6_has, Cond.code yX6_has cX6_has 2 (some .boolean), Cond.methodLink RX6 182 yX6_pailsOf, Cond.static yX6_pailsOf, Cond.code yX6_pailsOf cX6_pailsOf 3 (some .int), Cond.methodLink RX6 185 yX6_isSweet, Cond.static yX6_isSweet, Cond.code yX6_isSweet cX6_isSweet 2 (some .boolean), Cond.methodLink RX6 188 yX6_feltBy, Cond.instanceMethod yX6_feltBy, Cond.selects RX6 yX6_feltBy yX6_feltBy]
def wsX6_fewest_r3 : List Cond := [Cond.code yX6_feltBy cX6_feltBy 2 (some .int), Cond.fieldLink RX6 13 "WellMoodsModel" "feels" "[I", Cond.methodLink RX6 192 yX6_most9, Cond.static yX6_most9, Cond.code yX6_most9 cX6_most9 1 (some .int), Cond.methodLink RX6 195 yX6_wane, Cond.static yX6_wane, Cond.code yX6_wane cX6_wane 1 (some .int), Cond.methodLink RX6 212 yX6_nextRow, Cond.instanceMethod yX6_nextRow, Cond.selects RX6 yX6_nextRow yX6_nextRow, Cond.code yX6_nextRow cX6_nextRow 3 (some .boolean)]
def wsX6_fewest : List Cond := .code yX6_fewest cX6_fewest 3 (some .int) :: ((wsX6_fewest_r1 ++ (wsX6_fewest_r2 ++ wsX6_fewest_r3)) ++ wsX60)
def wsX6_peace_r1 : List Cond := [Cond.fieldLink RX6 112 "WellMoodsModel" "mood" "I", Cond.fieldLink RX6 72 "WellMoodsModel" "many" "I", Cond.fieldLink RX6 19 "WellMoodsModel" "quarrels" "[I", Cond.methodLink RX6 217 yX6_findMost, Cond.instanceMethod yX6_findMost, Cond.selects RX6 yX6_findMost yX6_findMost, Cond.initialized RX6, Cond.code yX6_findMost cX6_findMost 8 (some .int), Cond.fieldLink RX6 50 "WellMoodsModel" "row" "[I", Cond.fieldLink RX6 159 "WellMoodsModel" "tryMood" "I", Cond.fieldLink RX6 174 "WellMoodsModel" "trySweet" "Z", Cond.fieldLink RX6 171 "WellMoodsModel" "tryPails" "I", Cond.fieldLink RX6 53 "WellMoodsModel" "best" "[I", Cond.methodLink RX6 198 yX6_begin, Cond.instanceMethod yX6_begin, Cond.selects RX6 yX6_begin yX6_begin, Cond.code yX6_begin cX6_begin 2 none, Cond.fieldLink RX6 25 "WellMoodsModel" "level" "I", Cond.fieldLink RX6 162 "WellMoodsModel" "tryLevel" "I", Cond.fieldLink RX6 98 "WellMoodsModel" "hour" "I", Cond.fieldLink RX6 165 "WellMoodsModel" "tryHour" "I", Cond.fieldLink RX6 32 "WellMoodsModel" "ahead" "I", Cond.fieldLink RX6 168 "WellMoodsModel" "tryAhead" "I", Cond.fieldLink RX6 47 "WellMoodsModel" "tryFree" "[I"]
def wsX6_peace_r2 : List Cond := [Cond.fieldLink RX6 22 "WellMoodsModel" "free" "[I", Cond.methodLink RX6 201 yX6_tryOne, Cond.instanceMethod yX6_tryOne, Cond.selects RX6 yX6_tryOne yX6_tryOne, Cond.code yX6_tryOne cX6_tryOne 4 (some .boolean), Cond.fieldLink RX6 7 "WellMoodsModel" "kinds" "[I", Cond.fieldLink RX6 16 "WellMoodsModel" "rests" "[I", Cond.fieldLink RX6 29 "WellMoodsModel" "rain" "I", Cond.methodLink RX6 178 yX6_has, Cond.static yX6_has, Cond.code yX6_has cX6_has 2 (some .boolean), Cond.methodLink RX6 182 yX6_pailsOf, Cond.static yX6_pailsOf, Cond.code yX6_pailsOf cX6_pailsOf 3 (some .int), Cond.methodLink RX6 185 yX6_isSweet, Cond.static yX6_isSweet, Cond.code yX6_isSweet cX6_isSweet 2 (some .boolean), Cond.methodLink RX6 188 yX6_feltBy, Cond.instanceMethod yX6_feltBy, Cond.selects RX6 yX6_feltBy yX6_feltBy, Cond.code yX6_feltBy cX6_feltBy 2 (some .int), Cond.fieldLink RX6 13 "WellMoodsModel" "feels" "[I", Cond.methodLink RX6 192 yX6_most9, Cond.static yX6_most9]
def wsX6_peace_r3 : List Cond := [Cond.code yX6_most9 cX6_most9 1 (some .int), Cond.methodLink RX6 195 yX6_wane, Cond.static yX6_wane, Cond.code yX6_wane cX6_wane 1 (some .int), Cond.methodLink RX6 212 yX6_nextRow, Cond.instanceMethod yX6_nextRow, Cond.selects RX6 yX6_nextRow yX6_nextRow, Cond.code yX6_nextRow cX6_nextRow 3 (some .boolean), Cond.methodLink RX6 101 yX6_setQuarrel, Cond.instanceMethod yX6_setQuarrel, Cond.selects RX6 yX6_setQuarrel yX6_setQuarrel, Cond.code yX6_setQuarrel cX6_setQuarrel 4 none]
def wsX6_peace : List Cond := .code yX6_peace cX6_peace 7 (some .int) :: ((wsX6_peace_r1 ++ (wsX6_peace_r2 ++ wsX6_peace_r3)) ++ wsX60)
def wsX6_other_r1 : List Cond := [Cond.constantLong RX6 215 (5), Cond.fieldLink RX6 112 "WellMoodsModel" "mood" "I", Cond.methodLink RX6 75 yX6_in, Cond.static yX6_in, Cond.initialized RX6, Cond.code yX6_in cX6_in 6 (some .boolean), Cond.methodLink RX6 217 yX6_findMost, Cond.instanceMethod yX6_findMost, Cond.selects RX6 yX6_findMost yX6_findMost, Cond.code yX6_findMost cX6_findMost 8 (some .int), Cond.fieldLink RX6 50 "WellMoodsModel" "row" "[I", Cond.fieldLink RX6 159 "WellMoodsModel" "tryMood" "I", Cond.fieldLink RX6 72 "WellMoodsModel" "many" "I", Cond.fieldLink RX6 174 "WellMoodsModel" "trySweet" "Z", Cond.fieldLink RX6 171 "WellMoodsModel" "tryPails" "I", Cond.fieldLink RX6 53 "WellMoodsModel" "best" "[I", Cond.methodLink RX6 198 yX6_begin, Cond.instanceMethod yX6_begin, Cond.selects RX6 yX6_begin yX6_begin, Cond.code yX6_begin cX6_begin 2 none, Cond.fieldLink RX6 25 "WellMoodsModel" "level" "I", Cond.fieldLink RX6 162 "WellMoodsModel" "tryLevel" "I", Cond.fieldLink RX6 98 "WellMoodsModel" "hour" "I", Cond.fieldLink RX6 165 "WellMoodsModel" "tryHour" "I"]
def wsX6_other_r2 : List Cond := [Cond.fieldLink RX6 32 "WellMoodsModel" "ahead" "I", Cond.fieldLink RX6 168 "WellMoodsModel" "tryAhead" "I", Cond.fieldLink RX6 47 "WellMoodsModel" "tryFree" "[I", Cond.fieldLink RX6 22 "WellMoodsModel" "free" "[I", Cond.methodLink RX6 201 yX6_tryOne, Cond.instanceMethod yX6_tryOne, Cond.selects RX6 yX6_tryOne yX6_tryOne, Cond.code yX6_tryOne cX6_tryOne 4 (some .boolean), Cond.fieldLink RX6 19 "WellMoodsModel" "quarrels" "[I", Cond.fieldLink RX6 7 "WellMoodsModel" "kinds" "[I", Cond.fieldLink RX6 16 "WellMoodsModel" "rests" "[I", Cond.fieldLink RX6 29 "WellMoodsModel" "rain" "I", Cond.methodLink RX6 178 yX6_has, Cond.static yX6_has, Cond.code yX6_has cX6_has 2 (some .boolean), Cond.methodLink RX6 182 yX6_pailsOf, Cond.static yX6_pailsOf, Cond.code yX6_pailsOf cX6_pailsOf 3 (some .int), Cond.methodLink RX6 185 yX6_isSweet, Cond.static yX6_isSweet, Cond.code yX6_isSweet cX6_isSweet 2 (some .boolean), Cond.methodLink RX6 188 yX6_feltBy, Cond.instanceMethod yX6_feltBy, Cond.selects RX6 yX6_feltBy yX6_feltBy]
def wsX6_other_r3 : List Cond := [Cond.code yX6_feltBy cX6_feltBy 2 (some .int), Cond.fieldLink RX6 13 "WellMoodsModel" "feels" "[I", Cond.methodLink RX6 192 yX6_most9, Cond.static yX6_most9, Cond.code yX6_most9 cX6_most9 1 (some .int), Cond.methodLink RX6 195 yX6_wane, Cond.static yX6_wane, Cond.code yX6_wane cX6_wane 1 (some .int), Cond.methodLink RX6 212 yX6_nextRow, Cond.instanceMethod yX6_nextRow, Cond.selects RX6 yX6_nextRow yX6_nextRow, Cond.code yX6_nextRow cX6_nextRow 3 (some .boolean)]
def wsX6_other : List Cond := .code yX6_other cX6_other 2 (some .int) :: ((wsX6_other_r1 ++ (wsX6_other_r2 ++ wsX6_other_r3)) ++ wsX60)
def wsX6_givesOf : List Cond := .code yX6_givesOf cX6_givesOf 4 (some .int) :: ([.fieldLink RX6 7 "WellMoodsModel" "kinds" "[I", .fieldLink RX6 25 "WellMoodsModel" "level" "I", .methodLink RX6 182 yX6_pailsOf, .static yX6_pailsOf, .initialized RX6, .code yX6_pailsOf cX6_pailsOf 3 (some .int), .methodLink RX6 185 yX6_isSweet, .static yX6_isSweet, .code yX6_isSweet cX6_isSweet 2 (some .boolean)] ++ wsX60)
def wsX6_gives_r1 : List Cond := [Cond.methodLink RX6 91 yX6_isOne, Cond.instanceMethod yX6_isOne, Cond.selects RX6 yX6_isOne yX6_isOne, Cond.initialized RX6, Cond.code yX6_isOne cX6_isOne 2 (some .boolean), Cond.fieldLink RX6 72 "WellMoodsModel" "many" "I", Cond.methodLink RX6 75 yX6_in, Cond.static yX6_in, Cond.code yX6_in cX6_in 6 (some .boolean), Cond.methodLink RX6 107 yX6_isMood, Cond.static yX6_isMood, Cond.code yX6_isMood cX6_isMood 1 (some .boolean), Cond.constantLong RX6 79 (-9), Cond.constantLong RX6 81 (9), Cond.methodLink RX6 222 yX6_givesOf, Cond.instanceMethod yX6_givesOf, Cond.selects RX6 yX6_givesOf yX6_givesOf, Cond.code yX6_givesOf cX6_givesOf 4 (some .int), Cond.fieldLink RX6 7 "WellMoodsModel" "kinds" "[I", Cond.fieldLink RX6 25 "WellMoodsModel" "level" "I", Cond.methodLink RX6 182 yX6_pailsOf, Cond.static yX6_pailsOf, Cond.code yX6_pailsOf cX6_pailsOf 3 (some .int), Cond.methodLink RX6 185 yX6_isSweet]
def wsX6_gives_r2 : List Cond := [Cond.static yX6_isSweet, Cond.code yX6_isSweet cX6_isSweet 2 (some .boolean)]
def wsX6_gives : List Cond := .code yX6_gives cX6_gives 3 (some .int) :: ((wsX6_gives_r1 ++ wsX6_gives_r2) ++ wsX60)
def wsX6_stranger : List Cond := .code yX6_stranger cX6_stranger 6 (some .int) :: ([.constantLong RX6 81 (9), .fieldLink RX6 7 "WellMoodsModel" "kinds" "[I", .methodLink RX6 107 yX6_isMood, .static yX6_isMood, .initialized RX6, .code yX6_isMood cX6_isMood 1 (some .boolean), .constantLong RX6 79 (-9), .methodLink RX6 75 yX6_in, .static yX6_in, .code yX6_in cX6_in 6 (some .boolean), .methodLink RX6 91 yX6_isOne, .instanceMethod yX6_isOne, .selects RX6 yX6_isOne yX6_isOne, .code yX6_isOne cX6_isOne 2 (some .boolean), .fieldLink RX6 72 "WellMoodsModel" "many" "I", .methodLink RX6 192 yX6_most9, .static yX6_most9, .code yX6_most9 cX6_most9 1 (some .int), .methodLink RX6 195 yX6_wane, .static yX6_wane, .code yX6_wane cX6_wane 1 (some .int), .methodLink RX6 182 yX6_pailsOf, .static yX6_pailsOf, .code yX6_pailsOf cX6_pailsOf 3 (some .int)] ++ wsX60)
def wsX6_liar : List Cond := .code yX6_liar cX6_liar 7 (some .int) :: ([.constantLong RX6 81 (9), .fieldLink RX6 7 "WellMoodsModel" "kinds" "[I", .methodLink RX6 91 yX6_isOne, .instanceMethod yX6_isOne, .selects RX6 yX6_isOne yX6_isOne, .initialized RX6, .code yX6_isOne cX6_isOne 2 (some .boolean), .fieldLink RX6 72 "WellMoodsModel" "many" "I", .methodLink RX6 75 yX6_in, .static yX6_in, .code yX6_in cX6_in 6 (some .boolean), .methodLink RX6 107 yX6_isMood, .static yX6_isMood, .code yX6_isMood cX6_isMood 1 (some .boolean), .constantLong RX6 79 (-9), .methodLink RX6 182 yX6_pailsOf, .static yX6_pailsOf, .code yX6_pailsOf cX6_pailsOf 3 (some .int)] ++ wsX60)
def wsX6_drawn_r1 : List Cond := [Cond.constantLong RX6 210 (60), Cond.fieldLink RX6 98 "WellMoodsModel" "hour" "I", Cond.fieldLink RX6 38 "WellMoodsModel" "draws" "I", Cond.constantLong RX6 225 (1103515245), Cond.constantLong RX6 227 (12345), Cond.constantLong RX6 229 (2147483647), Cond.constant RX6 231 (65536), Cond.fieldLink RX6 72 "WellMoodsModel" "many" "I", Cond.fieldLink RX6 22 "WellMoodsModel" "free" "[I", Cond.methodLink RX6 75 yX6_in, Cond.static yX6_in, Cond.initialized RX6, Cond.code yX6_in cX6_in 6 (some .boolean), Cond.methodLink RX6 207 yX6_goOn, Cond.instanceMethod yX6_goOn, Cond.selects RX6 yX6_goOn yX6_goOn, Cond.code yX6_goOn cX6_goOn 2 (some .int), Cond.fieldLink RX6 171 "WellMoodsModel" "tryPails" "I", Cond.methodLink RX6 198 yX6_begin, Cond.instanceMethod yX6_begin, Cond.selects RX6 yX6_begin yX6_begin, Cond.code yX6_begin cX6_begin 2 none, Cond.fieldLink RX6 112 "WellMoodsModel" "mood" "I", Cond.fieldLink RX6 159 "WellMoodsModel" "tryMood" "I"]
def wsX6_drawn_r2 : List Cond := [Cond.fieldLink RX6 25 "WellMoodsModel" "level" "I", Cond.fieldLink RX6 162 "WellMoodsModel" "tryLevel" "I", Cond.fieldLink RX6 165 "WellMoodsModel" "tryHour" "I", Cond.fieldLink RX6 32 "WellMoodsModel" "ahead" "I", Cond.fieldLink RX6 168 "WellMoodsModel" "tryAhead" "I", Cond.fieldLink RX6 47 "WellMoodsModel" "tryFree" "[I", Cond.methodLink RX6 201 yX6_tryOne, Cond.instanceMethod yX6_tryOne, Cond.selects RX6 yX6_tryOne yX6_tryOne, Cond.code yX6_tryOne cX6_tryOne 4 (some .boolean), Cond.fieldLink RX6 174 "WellMoodsModel" "trySweet" "Z", Cond.fieldLink RX6 19 "WellMoodsModel" "quarrels" "[I", Cond.fieldLink RX6 7 "WellMoodsModel" "kinds" "[I", Cond.fieldLink RX6 16 "WellMoodsModel" "rests" "[I", Cond.fieldLink RX6 29 "WellMoodsModel" "rain" "I", Cond.methodLink RX6 178 yX6_has, Cond.static yX6_has, Cond.code yX6_has cX6_has 2 (some .boolean), Cond.methodLink RX6 182 yX6_pailsOf, Cond.static yX6_pailsOf, Cond.code yX6_pailsOf cX6_pailsOf 3 (some .int), Cond.methodLink RX6 185 yX6_isSweet, Cond.static yX6_isSweet, Cond.code yX6_isSweet cX6_isSweet 2 (some .boolean)]
def wsX6_drawn_r3 : List Cond := [Cond.methodLink RX6 188 yX6_feltBy, Cond.instanceMethod yX6_feltBy, Cond.selects RX6 yX6_feltBy yX6_feltBy, Cond.code yX6_feltBy cX6_feltBy 2 (some .int), Cond.fieldLink RX6 13 "WellMoodsModel" "feels" "[I", Cond.methodLink RX6 192 yX6_most9, Cond.static yX6_most9, Cond.code yX6_most9 cX6_most9 1 (some .int), Cond.methodLink RX6 195 yX6_wane, Cond.static yX6_wane, Cond.code yX6_wane cX6_wane 1 (some .int), Cond.methodLink RX6 204 yX6_keep, Cond.instanceMethod yX6_keep, Cond.selects RX6 yX6_keep yX6_keep, Cond.code yX6_keep cX6_keep 2 none, Cond.fieldLink RX6 115 "WellMoodsModel" "sweet" "I", Cond.fieldLink RX6 118 "WellMoodsModel" "salt" "I"]
def wsX6_drawn : List Cond := .code yX6_drawn cX6_drawn 5 (some .int) :: ((wsX6_drawn_r1 ++ (wsX6_drawn_r2 ++ wsX6_drawn_r3)) ++ wsX60)
def wsX6_seed : List Cond := .code yX6_seed cX6_seed 3 (some .int) :: ([.fieldLink RX6 38 "WellMoodsModel" "draws" "I"] ++ wsX60)
def wsX6_carried : List Cond := .code yX6_carried cX6_carried 6 (some .int) :: ([.fieldLink RX6 7 "WellMoodsModel" "kinds" "[I", .fieldLink RX6 13 "WellMoodsModel" "feels" "[I", .fieldLink RX6 16 "WellMoodsModel" "rests" "[I", .fieldLink RX6 19 "WellMoodsModel" "quarrels" "[I", .fieldLink RX6 22 "WellMoodsModel" "free" "[I", .fieldLink RX6 35 "WellMoodsModel" "plan" "[I"] ++ wsX60)
def wsX6_image : List Cond := .code yX6_image cX6_image 2 (some .int) :: ([.fieldLink RX6 56 "WellMoodsModel" "kept" "[I", .fieldLink RX6 72 "WellMoodsModel" "many" "I", .fieldLink RX6 112 "WellMoodsModel" "mood" "I", .fieldLink RX6 25 "WellMoodsModel" "level" "I", .fieldLink RX6 29 "WellMoodsModel" "rain" "I", .fieldLink RX6 115 "WellMoodsModel" "sweet" "I", .fieldLink RX6 118 "WellMoodsModel" "salt" "I", .fieldLink RX6 98 "WellMoodsModel" "hour" "I", .fieldLink RX6 32 "WellMoodsModel" "ahead" "I", .fieldLink RX6 121 "WellMoodsModel" "planMany" "I", .fieldLink RX6 38 "WellMoodsModel" "draws" "I", .fieldLink RX6 236 "WellMoodsModel" "isKept" "Z", .methodLink RX6 232 yX6_carried, .instanceMethod yX6_carried, .selects RX6 yX6_carried yX6_carried, .initialized RX6, .code yX6_carried cX6_carried 6 (some .int), .fieldLink RX6 7 "WellMoodsModel" "kinds" "[I", .fieldLink RX6 13 "WellMoodsModel" "feels" "[I", .fieldLink RX6 16 "WellMoodsModel" "rests" "[I", .fieldLink RX6 19 "WellMoodsModel" "quarrels" "[I", .fieldLink RX6 22 "WellMoodsModel" "free" "[I", .fieldLink RX6 35 "WellMoodsModel" "plan" "[I"] ++ wsX60)
def wsX6_restore : List Cond := .code yX6_restore cX6_restore 2 (some .int) :: ([.fieldLink RX6 236 "WellMoodsModel" "isKept" "Z", .fieldLink RX6 56 "WellMoodsModel" "kept" "[I", .fieldLink RX6 72 "WellMoodsModel" "many" "I", .fieldLink RX6 112 "WellMoodsModel" "mood" "I", .fieldLink RX6 25 "WellMoodsModel" "level" "I", .fieldLink RX6 29 "WellMoodsModel" "rain" "I", .fieldLink RX6 115 "WellMoodsModel" "sweet" "I", .fieldLink RX6 118 "WellMoodsModel" "salt" "I", .fieldLink RX6 98 "WellMoodsModel" "hour" "I", .fieldLink RX6 32 "WellMoodsModel" "ahead" "I", .fieldLink RX6 121 "WellMoodsModel" "planMany" "I", .fieldLink RX6 38 "WellMoodsModel" "draws" "I", .methodLink RX6 232 yX6_carried, .instanceMethod yX6_carried, .selects RX6 yX6_carried yX6_carried, .initialized RX6, .code yX6_carried cX6_carried 6 (some .int), .fieldLink RX6 7 "WellMoodsModel" "kinds" "[I", .fieldLink RX6 13 "WellMoodsModel" "feels" "[I", .fieldLink RX6 16 "WellMoodsModel" "rests" "[I", .fieldLink RX6 19 "WellMoodsModel" "quarrels" "[I", .fieldLink RX6 22 "WellMoodsModel" "free" "[I", .fieldLink RX6 35 "WellMoodsModel" "plan" "[I"] ++ wsX60)
def wsX6_isSheet : List Cond := .code yX6_isSheet cX6_isSheet 2 (some .boolean) :: ([.constantLong RX6 83 (3), .constantLong RX6 105 (2), .methodLink RX6 75 yX6_in, .static yX6_in, .initialized RX6, .code yX6_in cX6_in 6 (some .boolean)])
def wsX6_asLane : List Cond := .code yX6_asLane cX6_asLane 3 (some .long) :: ([])
def wsX6_sheet : List Cond := .code yX6_sheet cX6_sheet 5 (some .int) :: ([.fieldLink RX6 59 "WellMoodsModel" "lanes" "[I", .fieldLink RX6 62 "WellMoodsModel" "rowSizes" "[I", .fieldLink RX6 65 "WellMoodsModel" "items" "[J", .methodLink RX6 239 yX6_isSheet, .static yX6_isSheet, .initialized RX6, .code yX6_isSheet cX6_isSheet 2 (some .boolean), .constantLong RX6 83 (3), .constantLong RX6 105 (2), .methodLink RX6 75 yX6_in, .static yX6_in, .code yX6_in cX6_in 6 (some .boolean)] ++ wsX60)
def wsX6_drop : List Cond := .code yX6_drop cX6_drop 2 (some .int) :: ([.constantLong RX6 83 (3), .fieldLink RX6 59 "WellMoodsModel" "lanes" "[I", .fieldLink RX6 62 "WellMoodsModel" "rowSizes" "[I", .methodLink RX6 75 yX6_in, .static yX6_in, .initialized RX6, .code yX6_in cX6_in 6 (some .boolean)] ++ wsX60)
def wsX6_lacksRow : List Cond := .code yX6_lacksRow cX6_lacksRow 5 (some .int) :: ([.fieldLink RX6 59 "WellMoodsModel" "lanes" "[I", .fieldLink RX6 62 "WellMoodsModel" "rowSizes" "[I", .methodLink RX6 75 yX6_in, .static yX6_in, .initialized RX6, .code yX6_in cX6_in 6 (some .boolean)] ++ wsX60)
def wsX6_item : List Cond := .code yX6_item cX6_item 7 (some .int) :: ([.fieldLink RX6 65 "WellMoodsModel" "items" "[J", .methodLink RX6 239 yX6_isSheet, .static yX6_isSheet, .initialized RX6, .code yX6_isSheet cX6_isSheet 2 (some .boolean), .constantLong RX6 83 (3), .constantLong RX6 105 (2), .methodLink RX6 75 yX6_in, .static yX6_in, .code yX6_in cX6_in 6 (some .boolean), .methodLink RX6 242 yX6_lacksRow, .instanceMethod yX6_lacksRow, .selects RX6 yX6_lacksRow yX6_lacksRow, .code yX6_lacksRow cX6_lacksRow 5 (some .int), .fieldLink RX6 59 "WellMoodsModel" "lanes" "[I", .fieldLink RX6 62 "WellMoodsModel" "rowSizes" "[I", .methodLink RX6 246 yX6_asLane, .static yX6_asLane, .code yX6_asLane cX6_asLane 3 (some .long)] ++ wsX60)
def wsX6_fits : List Cond := .code yX6_fits cX6_fits 8 (some .boolean) :: ([.fieldLink RX6 65 "WellMoodsModel" "items" "[J", .fieldLink RX6 7 "WellMoodsModel" "kinds" "[I", .methodLink RX6 182 yX6_pailsOf, .static yX6_pailsOf, .initialized RX6, .code yX6_pailsOf cX6_pailsOf 3 (some .int), .methodLink RX6 188 yX6_feltBy, .instanceMethod yX6_feltBy, .selects RX6 yX6_feltBy yX6_feltBy, .code yX6_feltBy cX6_feltBy 2 (some .int), .fieldLink RX6 13 "WellMoodsModel" "feels" "[I", .methodLink RX6 192 yX6_most9, .static yX6_most9, .code yX6_most9 cX6_most9 1 (some .int), .methodLink RX6 195 yX6_wane, .static yX6_wane, .code yX6_wane cX6_wane 1 (some .int)] ++ wsX60)
def wsX6_fit_r1 : List Cond := [Cond.constantLong RX6 124 (8), Cond.fieldLink RX6 65 "WellMoodsModel" "items" "[J", Cond.fieldLink RX6 72 "WellMoodsModel" "many" "I", Cond.constantLong RX6 81 (9), Cond.methodLink RX6 239 yX6_isSheet, Cond.static yX6_isSheet, Cond.initialized RX6, Cond.code yX6_isSheet cX6_isSheet 2 (some .boolean), Cond.constantLong RX6 83 (3), Cond.constantLong RX6 105 (2), Cond.methodLink RX6 75 yX6_in, Cond.static yX6_in, Cond.code yX6_in cX6_in 6 (some .boolean), Cond.methodLink RX6 242 yX6_lacksRow, Cond.instanceMethod yX6_lacksRow, Cond.selects RX6 yX6_lacksRow yX6_lacksRow, Cond.code yX6_lacksRow cX6_lacksRow 5 (some .int), Cond.fieldLink RX6 59 "WellMoodsModel" "lanes" "[I", Cond.fieldLink RX6 62 "WellMoodsModel" "rowSizes" "[I", Cond.methodLink RX6 250 yX6_fits, Cond.instanceMethod yX6_fits, Cond.selects RX6 yX6_fits yX6_fits, Cond.code yX6_fits cX6_fits 8 (some .boolean), Cond.fieldLink RX6 7 "WellMoodsModel" "kinds" "[I"]
def wsX6_fit_r2 : List Cond := [Cond.methodLink RX6 182 yX6_pailsOf, Cond.static yX6_pailsOf, Cond.code yX6_pailsOf cX6_pailsOf 3 (some .int), Cond.methodLink RX6 188 yX6_feltBy, Cond.instanceMethod yX6_feltBy, Cond.selects RX6 yX6_feltBy yX6_feltBy, Cond.code yX6_feltBy cX6_feltBy 2 (some .int), Cond.fieldLink RX6 13 "WellMoodsModel" "feels" "[I", Cond.methodLink RX6 192 yX6_most9, Cond.static yX6_most9, Cond.code yX6_most9 cX6_most9 1 (some .int), Cond.methodLink RX6 195 yX6_wane, Cond.static yX6_wane, Cond.code yX6_wane cX6_wane 1 (some .int)]
def wsX6_fit : List Cond := .code yX6_fit cX6_fit 9 (some .int) :: ((wsX6_fit_r1 ++ wsX6_fit_r2) ++ wsX60)
def wsX6_film_r1 : List Cond := [Cond.fieldLink RX6 65 "WellMoodsModel" "items" "[J", Cond.methodLink RX6 91 yX6_isOne, Cond.instanceMethod yX6_isOne, Cond.selects RX6 yX6_isOne yX6_isOne, Cond.initialized RX6, Cond.code yX6_isOne cX6_isOne 2 (some .boolean), Cond.fieldLink RX6 72 "WellMoodsModel" "many" "I", Cond.methodLink RX6 75 yX6_in, Cond.static yX6_in, Cond.code yX6_in cX6_in 6 (some .boolean), Cond.methodLink RX6 239 yX6_isSheet, Cond.static yX6_isSheet, Cond.code yX6_isSheet cX6_isSheet 2 (some .boolean), Cond.constantLong RX6 83 (3), Cond.constantLong RX6 105 (2), Cond.methodLink RX6 242 yX6_lacksRow, Cond.instanceMethod yX6_lacksRow, Cond.selects RX6 yX6_lacksRow yX6_lacksRow, Cond.code yX6_lacksRow cX6_lacksRow 5 (some .int), Cond.fieldLink RX6 59 "WellMoodsModel" "lanes" "[I", Cond.fieldLink RX6 62 "WellMoodsModel" "rowSizes" "[I", Cond.methodLink RX6 222 yX6_givesOf, Cond.instanceMethod yX6_givesOf, Cond.selects RX6 yX6_givesOf yX6_givesOf]
def wsX6_film_r2 : List Cond := [Cond.code yX6_givesOf cX6_givesOf 4 (some .int), Cond.fieldLink RX6 7 "WellMoodsModel" "kinds" "[I", Cond.fieldLink RX6 25 "WellMoodsModel" "level" "I", Cond.methodLink RX6 182 yX6_pailsOf, Cond.static yX6_pailsOf, Cond.code yX6_pailsOf cX6_pailsOf 3 (some .int), Cond.methodLink RX6 185 yX6_isSweet, Cond.static yX6_isSweet, Cond.code yX6_isSweet cX6_isSweet 2 (some .boolean)]
def wsX6_film : List Cond := .code yX6_film cX6_film 7 (some .int) :: ((wsX6_film_r1 ++ wsX6_film_r2) ++ wsX60)
def wsX6_copy : List Cond := .code yX6_copy cX6_copy 7 (some .int) :: ([.constantLong RX6 83 (3), .fieldLink RX6 59 "WellMoodsModel" "lanes" "[I", .fieldLink RX6 62 "WellMoodsModel" "rowSizes" "[I", .fieldLink RX6 69 "WellMoodsModel" "moved" "[J", .fieldLink RX6 65 "WellMoodsModel" "items" "[J", .methodLink RX6 75 yX6_in, .static yX6_in, .initialized RX6, .code yX6_in cX6_in 6 (some .boolean)] ++ wsX60)
def wsJ9_max_7cf53 : List Cond := .code yJ9_max_7cf53 cJ9_max_7cf53 2 (some .int) :: ([])
def wsJ9_min_7cf53 : List Cond := .code yJ9_min_7cf53 cJ9_min_7cf53 2 (some .int) :: ([])
def wsL_law_r1 : List Cond := [Cond.classLink RL 7 RX5, Cond.instantiable RX5 8, Cond.initialized RX5, Cond.classLink RL 10 RX6, Cond.instantiable RX6 36, Cond.initialized RX6, Cond.constantLong RL 37 (4294967295), Cond.methodLink RL 9 yX5_init, Cond.instanceMethod yX5_init, Cond.code yX5_init cX5_init 2 none, Cond.methodLink RX5 3 objectInit, Cond.instanceMethod objectInit, Cond.code objectInit ⟨#[0xb1]⟩ 1 none, Cond.classLink RX5 9 RX4, Cond.instantiable RX4 12, Cond.initialized RX4, Cond.fieldLink RX5 12 "WellMoods" "well" "LWellMoods$Well;", Cond.fieldLink RX5 16 "WellMoods" "kept" "LWellMoods$Well;", Cond.fieldLink RX5 19 "WellMoods" "isKept" "Z", Cond.classLink RX5 23 RX3, Cond.instantiable RX3 3, Cond.initialized RX3, Cond.fieldLink RX5 26 "WellMoods" "tape" "LWellMoods$Tape;", Cond.classLink RX5 30 RX0]
def wsL_law_r2 : List Cond := [Cond.instantiable RX0 5, Cond.initialized RX0, Cond.fieldLink RX5 33 "WellMoods" "newcomers" "LWellMoods$Folk;", Cond.arrayClass .int, Cond.fieldLink RX5 37 "WellMoods" "newPlan" "[I", Cond.classLink RX5 41 RX1, Cond.instantiable RX1 9, Cond.initialized RX1, Cond.fieldLink RX5 44 "WellMoods" "search" "LWellMoods$Search;", Cond.classLink RX5 48 RX2, Cond.fieldLink RX5 50 "WellMoods" "sheets" "[LWellMoods$Sheet;", Cond.instantiable RX2 4, Cond.initialized RX2, Cond.instanceMethod yX4_init, Cond.code yX4_init cX4_init 1 none, Cond.methodLink RX4 3 objectInit, Cond.classLink RX4 9 RX0, Cond.fieldLink RX4 12 "WellMoods$Well" "folk" "LWellMoods$Folk;", Cond.fieldLink RX4 18 "WellMoods$Well" "waits" "[I", Cond.fieldLink RX4 22 "WellMoods$Well" "planned" "[I", Cond.fieldLink RX4 25 "WellMoods$Well" "planHours" "I", Cond.fieldLink RX4 29 "WellMoods$Well" "mood" "I", Cond.fieldLink RX4 32 "WellMoods$Well" "level" "I", Cond.fieldLink RX4 35 "WellMoods$Well" "rain" "I"]
def wsL_law_r3 : List Cond := [Cond.fieldLink RX4 38 "WellMoods$Well" "sweet" "I", Cond.fieldLink RX4 41 "WellMoods$Well" "salt" "I", Cond.fieldLink RX4 44 "WellMoods$Well" "hour" "I", Cond.fieldLink RX4 47 "WellMoods$Well" "last" "I", Cond.fieldLink RX4 50 "WellMoods$Well" "lots" "I", Cond.instanceMethod yX0_init, Cond.code yX0_init cX0_init 1 none, Cond.methodLink RX0 3 objectInit, Cond.fieldLink RX0 9 "WellMoods$Folk" "kinds" "[I", Cond.fieldLink RX0 15 "WellMoods$Folk" "feelings" "[I", Cond.fieldLink RX0 18 "WellMoods$Folk" "rests" "[I", Cond.fieldLink RX0 21 "WellMoods$Folk" "foes" "[I", Cond.fieldLink RX0 24 "WellMoods$Folk" "count" "I", Cond.instanceMethod yX3_init, Cond.code yX3_init cX3_init 1 none, Cond.methodLink RX3 3 objectInit, Cond.arrayClass .byte, Cond.fieldLink RX3 9 "WellMoods$Tape" "bytes" "[B", Cond.fieldLink RX3 15 "WellMoods$Tape" "length" "I", Cond.fieldLink RX3 19 "WellMoods$Tape" "place" "I", Cond.instanceMethod yX1_init, Cond.code yX1_init cX1_init 1 none, Cond.methodLink RX1 3 objectInit, Cond.classLink RX1 9 RX0]
def wsL_law_r4 : List Cond := [Cond.fieldLink RX1 12 "WellMoods$Search" "folk" "LWellMoods$Folk;", Cond.fieldLink RX1 18 "WellMoods$Search" "freeFrom" "[I", Cond.fieldLink RX1 22 "WellMoods$Search" "path" "[I", Cond.fieldLink RX1 25 "WellMoods$Search" "row" "[I", Cond.fieldLink RX1 28 "WellMoods$Search" "level" "I", Cond.fieldLink RX1 32 "WellMoods$Search" "rain" "I", Cond.fieldLink RX1 35 "WellMoods$Search" "last" "I", Cond.fieldLink RX1 38 "WellMoods$Search" "hours" "I", Cond.fieldLink RX1 41 "WellMoods$Search" "best" "I", Cond.instanceMethod yX2_init, Cond.code yX2_init cX2_init 1 none, Cond.methodLink RX2 3 objectInit, Cond.arrayClass .long, Cond.fieldLink RX2 9 "WellMoods$Sheet" "items" "[J", Cond.fieldLink RX2 15 "WellMoods$Sheet" "isThere" "Z", Cond.fieldLink RX2 19 "WellMoods$Sheet" "lane" "I", Cond.fieldLink RX2 23 "WellMoods$Sheet" "length" "I", Cond.methodLink RL 12 yX6_init, Cond.instanceMethod yX6_init, Cond.code yX6_init cX6_init 2 none, Cond.methodLink RX6 1 objectInit, Cond.fieldLink RX6 7 "WellMoodsModel" "kinds" "[I", Cond.fieldLink RX6 13 "WellMoodsModel" "feels" "[I", Cond.fieldLink RX6 16 "WellMoodsModel" "rests" "[I"]
def wsL_law_r5 : List Cond := [Cond.fieldLink RX6 19 "WellMoodsModel" "quarrels" "[I", Cond.fieldLink RX6 22 "WellMoodsModel" "free" "[I", Cond.fieldLink RX6 25 "WellMoodsModel" "level" "I", Cond.fieldLink RX6 29 "WellMoodsModel" "rain" "I", Cond.fieldLink RX6 32 "WellMoodsModel" "ahead" "I", Cond.fieldLink RX6 35 "WellMoodsModel" "plan" "[I", Cond.fieldLink RX6 38 "WellMoodsModel" "draws" "I", Cond.fieldLink RX6 41 "WellMoodsModel" "tape" "[I", Cond.fieldLink RX6 44 "WellMoodsModel" "read" "[I", Cond.fieldLink RX6 47 "WellMoodsModel" "tryFree" "[I", Cond.fieldLink RX6 50 "WellMoodsModel" "row" "[I", Cond.fieldLink RX6 53 "WellMoodsModel" "best" "[I", Cond.fieldLink RX6 56 "WellMoodsModel" "kept" "[I", Cond.fieldLink RX6 59 "WellMoodsModel" "lanes" "[I", Cond.fieldLink RX6 62 "WellMoodsModel" "rowSizes" "[I", Cond.fieldLink RX6 65 "WellMoodsModel" "items" "[J", Cond.fieldLink RX6 69 "WellMoodsModel" "moved" "[J", Cond.methodLink RL 13 yX5_folk, Cond.instanceMethod yX5_folk, Cond.selects RX5 yX5_folk yX5_folk, Cond.code yX5_folk cX5_folk 4 (some .int), Cond.methodLink RX5 55 yX5_within, Cond.static yX5_within, Cond.code yX5_within cX5_within 3 (some .boolean)]
def wsL_law_r6 : List Cond := [Cond.instanceMethod yX0_add, Cond.selects RX0 yX0_add yX0_add, Cond.code yX0_add cX0_add 5 (some .int), Cond.methodLink RL 17 yX6_folk, Cond.instanceMethod yX6_folk, Cond.selects RX6 yX6_folk yX6_folk, Cond.code yX6_folk cX6_folk 4 (some .int), Cond.constantLong RX6 83 (3), Cond.constantLong RX6 85 (-3), Cond.constantLong RX6 81 (9), Cond.fieldLink RX6 72 "WellMoodsModel" "many" "I", Cond.methodLink RX6 75 yX6_in, Cond.static yX6_in, Cond.code yX6_in cX6_in 6 (some .boolean), Cond.methodLink RX6 87 yX6_add, Cond.instanceMethod yX6_add, Cond.selects RX6 yX6_add yX6_add, Cond.code yX6_add cX6_add 4 none, Cond.methodLink RL 18 yX5_told, Cond.instanceMethod yX5_told, Cond.selects RX5 yX5_told yX5_told, Cond.code yX5_told cX5_told 3 (some .int), Cond.constant RX5 74 (-100001), Cond.instanceMethod yX0_has]
def wsL_law_r7 : List Cond := [Cond.selects RX0 yX0_has yX0_has, Cond.code yX0_has cX0_has 2 (some .boolean), Cond.methodLink RL 22 yX6_told, Cond.instanceMethod yX6_told, Cond.selects RX6 yX6_told yX6_told, Cond.code yX6_told cX6_told 4 (some .int), Cond.constantLong RX6 95 (4), Cond.constant RX6 97 (-100001), Cond.fieldLink RX6 98 "WellMoodsModel" "hour" "I", Cond.methodLink RX6 91 yX6_isOne, Cond.instanceMethod yX6_isOne, Cond.selects RX6 yX6_isOne yX6_isOne, Cond.code yX6_isOne cX6_isOne 2 (some .boolean), Cond.methodLink RL 23 yX5_quarrel, Cond.instanceMethod yX5_quarrel, Cond.selects RX5 yX5_quarrel yX5_quarrel, Cond.code yX5_quarrel cX5_quarrel 5 (some .int), Cond.instanceMethod yX0_areFoes, Cond.selects RX0 yX0_areFoes yX0_areFoes, Cond.code yX0_areFoes cX0_areFoes 3 (some .boolean), Cond.methodLink RX0 28 yX0_has, Cond.instanceMethod yX0_makeFoes, Cond.selects RX0 yX0_makeFoes yX0_makeFoes, Cond.code yX0_makeFoes cX0_makeFoes 4 none]
def wsL_law_r8 : List Cond := [Cond.methodLink RL 27 yX6_quarrel, Cond.instanceMethod yX6_quarrel, Cond.selects RX6 yX6_quarrel yX6_quarrel, Cond.code yX6_quarrel cX6_quarrel 5 (some .int), Cond.methodLink RX6 101 yX6_setQuarrel, Cond.instanceMethod yX6_setQuarrel, Cond.selects RX6 yX6_setQuarrel yX6_setQuarrel, Cond.code yX6_setQuarrel cX6_setQuarrel 4 none, Cond.methodLink RL 28 yX5_set, Cond.instanceMethod yX5_set, Cond.selects RX5 yX5_set yX5_set, Cond.code yX5_set cX5_set 4 (some .int), Cond.methodLink RX5 98 yX5_isMood, Cond.static yX5_isMood, Cond.code yX5_isMood cX5_isMood 1 (some .boolean), Cond.methodLink RL 31 yX6_set, Cond.instanceMethod yX6_set, Cond.selects RX6 yX6_set yX6_set, Cond.code yX6_set cX6_set 4 (some .int), Cond.constantLong RX6 105 (2), Cond.constantLong RX6 110 (999), Cond.fieldLink RX6 112 "WellMoodsModel" "mood" "I", Cond.methodLink RX6 107 yX6_isMood, Cond.static yX6_isMood]
def wsL_law_r9 : List Cond := [Cond.code yX6_isMood cX6_isMood 1 (some .boolean), Cond.constantLong RX6 79 (-9), Cond.methodLink RL 32 yX5_is, Cond.instanceMethod yX5_is, Cond.selects RX5 yX5_is yX5_is, Cond.code yX5_is cX5_is 2 (some .int), Cond.methodLink RL 36 yX6_is, Cond.instanceMethod yX6_is, Cond.selects RX6 yX6_is yX6_is, Cond.code yX6_is cX6_is 2 (some .int), Cond.fieldLink RX6 115 "WellMoodsModel" "sweet" "I", Cond.fieldLink RX6 118 "WellMoodsModel" "salt" "I", Cond.fieldLink RX6 121 "WellMoodsModel" "planMany" "I", Cond.methodLink RL 39 yX5_type, Cond.instanceMethod yX5_type, Cond.selects RX5 yX5_type yX5_type, Cond.code yX5_type cX5_type 5 (some .int), Cond.methodLink RX5 125 yX5_areSigns, Cond.static yX5_areSigns, Cond.code yX5_areSigns cX5_areSigns 4 (some .boolean), Cond.methodLink RX5 132 yX5_byteOf, Cond.static yX5_byteOf, Cond.code yX5_byteOf cX5_byteOf 3 (some .int), Cond.instanceMethod yX3_append]
def wsL_law_r10 : List Cond := [Cond.selects RX3 yX3_append yX3_append, Cond.code yX3_append cX3_append 2 none, Cond.methodLink RL 43 yX6_type, Cond.instanceMethod yX6_type, Cond.selects RX6 yX6_type yX6_type, Cond.code yX6_type cX6_type 5 (some .int), Cond.constantLong RX6 124 (8), Cond.constantLong RX6 126 (255), Cond.constantLong RX6 128 (32), Cond.constantLong RX6 130 (126), Cond.fieldLink RX6 132 "WellMoodsModel" "taped" "I", Cond.methodLink RL 44 yX5_village, Cond.instanceMethod yX5_village, Cond.selects RX5 yX5_village yX5_village, Cond.code yX5_village cX5_village 2 (some .int), Cond.instanceMethod yX3_readFolk, Cond.selects RX3 yX3_readFolk yX3_readFolk, Cond.code yX3_readFolk cX3_readFolk 4 (some .int), Cond.methodLink RX3 27 yX3_readOne, Cond.instanceMethod yX3_readOne, Cond.selects RX3 yX3_readOne yX3_readOne, Cond.code yX3_readOne cX3_readOne 6 (some .boolean), Cond.methodLink RX3 35 yX3_next, Cond.instanceMethod yX3_next]
def wsL_law_r11 : List Cond := [Cond.selects RX3 yX3_next yX3_next, Cond.code yX3_next cX3_next 1 (some .int), Cond.methodLink RX3 38 yX3_kindBy, Cond.static yX3_kindBy, Cond.code yX3_kindBy cX3_kindBy 1 (some .int), Cond.methodLink RX3 42 yX3_readDigit, Cond.instanceMethod yX3_readDigit, Cond.selects RX3 yX3_readDigit yX3_readDigit, Cond.code yX3_readDigit cX3_readDigit 4 (some .int), Cond.methodLink RX3 31 yX3_fault, Cond.instanceMethod yX3_fault, Cond.selects RX3 yX3_fault yX3_fault, Cond.code yX3_fault cX3_fault 1 (some .int), Cond.instanceMethod yX4_settle, Cond.selects RX4 yX4_settle yX4_settle, Cond.code yX4_settle cX4_settle 3 none, Cond.instanceMethod yX0_become, Cond.selects RX0 yX0_become yX0_become, Cond.code yX0_become cX0_become 3 none, Cond.methodLink RL 48 yX6_village, Cond.instanceMethod yX6_village, Cond.selects RX6 yX6_village yX6_village, Cond.code yX6_village cX6_village 3 (some .int), Cond.fieldLink RX6 135 "WellMoodsModel" "place" "I"]
def wsL_law_r12 : List Cond := [Cond.fieldLink RX6 149 "WellMoodsModel" "reads" "I", Cond.methodLink RX6 152 yX6_readVillage, Cond.instanceMethod yX6_readVillage, Cond.selects RX6 yX6_readVillage yX6_readVillage, Cond.code yX6_readVillage cX6_readVillage 3 (some .boolean), Cond.methodLink RX6 146 yX6_readOne, Cond.instanceMethod yX6_readOne, Cond.selects RX6 yX6_readOne yX6_readOne, Cond.code yX6_readOne cX6_readOne 5 (some .boolean), Cond.methodLink RX6 138 yX6_nextByte, Cond.instanceMethod yX6_nextByte, Cond.selects RX6 yX6_nextByte yX6_nextByte, Cond.code yX6_nextByte cX6_nextByte 1 (some .int), Cond.methodLink RX6 142 yX6_readDigit, Cond.instanceMethod yX6_readDigit, Cond.selects RX6 yX6_readDigit yX6_readDigit, Cond.code yX6_readDigit cX6_readDigit 4 (some .int), Cond.methodLink RL 49 yX5_plan, Cond.instanceMethod yX5_plan, Cond.selects RX5 yX5_plan yX5_plan, Cond.code yX5_plan cX5_plan 2 (some .int), Cond.instanceMethod yX3_readPlan, Cond.selects RX3 yX3_readPlan yX3_readPlan, Cond.code yX3_readPlan cX3_readPlan 6 (some .int)]
def wsL_law_r13 : List Cond := [Cond.instanceMethod yX4_adopt, Cond.selects RX4 yX4_adopt yX4_adopt, Cond.code yX4_adopt cX4_adopt 3 none, Cond.methodLink RX4 63 Lib.Math.min.name, Cond.static Lib.Math.min.name, Cond.initialized "java/lang/Math", Cond.code Lib.Math.min.name Lib.Math.min.code 2 (some .int), Cond.methodLink RX4 57 arraycopyName, Cond.native arraycopyName, Cond.static arraycopyName, Cond.initialized "java/lang/System", Cond.methodLink RL 52 yX6_plan, Cond.instanceMethod yX6_plan, Cond.selects RX6 yX6_plan yX6_plan, Cond.code yX6_plan cX6_plan 3 (some .int), Cond.methodLink RX6 156 yX6_readPlan, Cond.instanceMethod yX6_readPlan, Cond.selects RX6 yX6_readPlan yX6_readPlan, Cond.code yX6_readPlan cX6_readPlan 2 (some .boolean), Cond.methodLink RL 53 yX5_may, Cond.instanceMethod yX5_may, Cond.selects RX5 yX5_may yX5_may, Cond.code yX5_may cX5_may 3 (some .int), Cond.instanceMethod yX4_mayDraw]
def wsL_law_r14 : List Cond := [Cond.selects RX4 yX4_mayDraw yX4_mayDraw, Cond.code yX4_mayDraw cX4_mayDraw 2 (some .boolean), Cond.methodLink RL 56 yX6_may, Cond.instanceMethod yX6_may, Cond.selects RX6 yX6_may yX6_may, Cond.code yX6_may cX6_may 3 (some .int), Cond.methodLink RL 57 yX5_draw, Cond.instanceMethod yX5_draw, Cond.selects RX5 yX5_draw yX5_draw, Cond.code yX5_draw cX5_draw 2 (some .int), Cond.instanceMethod yX4_hasHours, Cond.selects RX4 yX4_hasHours yX4_hasHours, Cond.code yX4_hasHours cX4_hasHours 2 (some .boolean), Cond.instanceMethod yX4_passHour, Cond.selects RX4 yX4_passHour yX4_passHour, Cond.code yX4_passHour cX4_passHour 3 (some .int), Cond.methodLink RX4 80 yX4_mayDraw, Cond.methodLink RX4 83 yX4_drawBy, Cond.instanceMethod yX4_drawBy, Cond.selects RX4 yX4_drawBy yX4_drawBy, Cond.code yX4_drawBy cX4_drawBy 3 (some .int), Cond.instanceMethod yX0_pailsBehind, Cond.selects RX0 yX0_pailsBehind yX0_pailsBehind, Cond.code yX0_pailsBehind cX0_pailsBehind 5 (some .int)]
def wsL_law_r15 : List Cond := [Cond.methodLink RX0 32 Lib.Math.min.name, Cond.methodLink RX0 41 yX0_areFoes, Cond.methodLink RX0 45 yX0_pailsAt, Cond.instanceMethod yX0_pailsAt, Cond.selects RX0 yX0_pailsAt yX0_pailsAt, Cond.code yX0_pailsAt cX0_pailsAt 4 (some .int), Cond.methodLink RX0 38 Lib.Math.max.name, Cond.static Lib.Math.max.name, Cond.code Lib.Math.max.name Lib.Math.max.code 2 (some .int), Cond.instanceMethod yX0_isSweet, Cond.selects RX0 yX0_isSweet yX0_isSweet, Cond.code yX0_isSweet cX0_isSweet 3 (some .boolean), Cond.instanceMethod yX0_moodBehind, Cond.selects RX0 yX0_moodBehind yX0_moodBehind, Cond.code yX0_moodBehind cX0_moodBehind 3 (some .int), Cond.static yX5_asMood, Cond.code yX5_asMood cX5_asMood 1 (some .int), Cond.methodLink RX5 263 Lib.Math.min.name, Cond.methodLink RX5 268 Lib.Math.max.name, Cond.methodLink RX4 87 yX4_endHour, Cond.instanceMethod yX4_endHour, Cond.selects RX4 yX4_endHour yX4_endHour, Cond.code yX4_endHour cX4_endHour 2 none, Cond.methodLink RX4 109 Lib.Math.max.name]
def wsL_law_r16 : List Cond := [Cond.static yX5_waned, Cond.code yX5_waned cX5_waned 1 (some .int), Cond.methodLink RX5 271 yJ6_compare_7cf53, Cond.static yJ6_compare_7cf53, Cond.initialized RJ6, Cond.code yJ6_compare_7cf53 cJ6_compare_7cf53 2 (some .int), Cond.static yX5_rained, Cond.code yX5_rained cX5_rained 2 (some .int), Cond.methodLink RL 60 yX6_draw, Cond.instanceMethod yX6_draw, Cond.selects RX6 yX6_draw yX6_draw, Cond.code yX6_draw cX6_draw 2 (some .int), Cond.methodLink RX6 207 yX6_goOn, Cond.instanceMethod yX6_goOn, Cond.selects RX6 yX6_goOn yX6_goOn, Cond.code yX6_goOn cX6_goOn 2 (some .int), Cond.fieldLink RX6 171 "WellMoodsModel" "tryPails" "I", Cond.methodLink RX6 198 yX6_begin, Cond.instanceMethod yX6_begin, Cond.selects RX6 yX6_begin yX6_begin, Cond.code yX6_begin cX6_begin 2 none, Cond.fieldLink RX6 159 "WellMoodsModel" "tryMood" "I", Cond.fieldLink RX6 162 "WellMoodsModel" "tryLevel" "I", Cond.fieldLink RX6 165 "WellMoodsModel" "tryHour" "I"]
def wsL_law_r17 : List Cond := [Cond.fieldLink RX6 168 "WellMoodsModel" "tryAhead" "I", Cond.methodLink RX6 201 yX6_tryOne, Cond.instanceMethod yX6_tryOne, Cond.selects RX6 yX6_tryOne yX6_tryOne, Cond.code yX6_tryOne cX6_tryOne 4 (some .boolean), Cond.fieldLink RX6 174 "WellMoodsModel" "trySweet" "Z", Cond.methodLink RX6 178 yX6_has, Cond.static yX6_has, Cond.code yX6_has cX6_has 2 (some .boolean), Cond.methodLink RX6 182 yX6_pailsOf, Cond.static yX6_pailsOf, Cond.code yX6_pailsOf cX6_pailsOf 3 (some .int), Cond.methodLink RX6 185 yX6_isSweet, Cond.static yX6_isSweet, Cond.code yX6_isSweet cX6_isSweet 2 (some .boolean), Cond.methodLink RX6 188 yX6_feltBy, Cond.instanceMethod yX6_feltBy, Cond.selects RX6 yX6_feltBy yX6_feltBy, Cond.code yX6_feltBy cX6_feltBy 2 (some .int), Cond.methodLink RX6 192 yX6_most9, Cond.static yX6_most9, Cond.code yX6_most9 cX6_most9 1 (some .int), Cond.methodLink RX6 195 yX6_wane, Cond.static yX6_wane]
def wsL_law_r18 : List Cond := [Cond.code yX6_wane cX6_wane 1 (some .int), Cond.methodLink RX6 204 yX6_keep, Cond.instanceMethod yX6_keep, Cond.selects RX6 yX6_keep yX6_keep, Cond.code yX6_keep cX6_keep 2 none, Cond.methodLink RL 61 yX5_pass, Cond.instanceMethod yX5_pass, Cond.selects RX5 yX5_pass yX5_pass, Cond.code yX5_pass cX5_pass 3 (some .int), Cond.methodLink RL 64 yX6_pass, Cond.instanceMethod yX6_pass, Cond.selects RX6 yX6_pass yX6_pass, Cond.code yX6_pass cX6_pass 3 (some .int), Cond.constantLong RX6 210 (60), Cond.methodLink RL 65 yX5_run, Cond.instanceMethod yX5_run, Cond.selects RX5 yX5_run yX5_run, Cond.code yX5_run cX5_run 1 (some .int), Cond.instanceMethod yX4_followPlan, Cond.selects RX4 yX4_followPlan yX4_followPlan, Cond.code yX4_followPlan cX4_followPlan 2 (some .int), Cond.methodLink RX4 112 yX4_passHour, Cond.methodLink RL 68 yX6_run, Cond.instanceMethod yX6_run]
def wsL_law_r19 : List Cond := [Cond.selects RX6 yX6_run yX6_run, Cond.code yX6_run cX6_run 2 (some .int), Cond.methodLink RL 69 yX5_most, Cond.instanceMethod yX5_most, Cond.selects RX5 yX5_most yX5_most, Cond.code yX5_most cX5_most 2 (some .int), Cond.methodLink RX5 170 yX5_mostFrom, Cond.instanceMethod yX5_mostFrom, Cond.selects RX5 yX5_mostFrom yX5_mostFrom, Cond.code yX5_mostFrom cX5_mostFrom 3 (some .int), Cond.instanceMethod yX1_observe, Cond.selects RX1 yX1_observe yX1_observe, Cond.code yX1_observe cX1_observe 2 none, Cond.methodLink RX1 54 arraycopyName, Cond.instanceMethod yX1_mostIn, Cond.selects RX1 yX1_mostIn yX1_mostIn, Cond.code yX1_mostIn cX1_mostIn 3 (some .int), Cond.methodLink RX1 63 Lib.Math.min.name, Cond.methodLink RX1 69 yX1_tryHour, Cond.instanceMethod yX1_tryHour, Cond.selects RX1 yX1_tryHour yX1_tryHour, Cond.code yX1_tryHour cX1_tryHour 7 none, Cond.methodLink RX1 73 yX1_keep, Cond.instanceMethod yX1_keep]
def wsL_law_r20 : List Cond := [Cond.selects RX1 yX1_keep yX1_keep, Cond.code yX1_keep cX1_keep 2 none, Cond.methodLink RX1 80 yX1_tryDrawing, Cond.instanceMethod yX1_tryDrawing, Cond.selects RX1 yX1_tryDrawing yX1_tryDrawing, Cond.code yX1_tryDrawing cX1_tryDrawing 10 none, Cond.methodLink RL 72 yX6_most, Cond.instanceMethod yX6_most, Cond.selects RX6 yX6_most yX6_most, Cond.code yX6_most cX6_most 2 (some .int), Cond.constantLong RX6 215 (5), Cond.methodLink RX6 217 yX6_findMost, Cond.instanceMethod yX6_findMost, Cond.selects RX6 yX6_findMost yX6_findMost, Cond.code yX6_findMost cX6_findMost 8 (some .int), Cond.methodLink RX6 212 yX6_nextRow, Cond.instanceMethod yX6_nextRow, Cond.selects RX6 yX6_nextRow yX6_nextRow, Cond.code yX6_nextRow cX6_nextRow 3 (some .boolean), Cond.methodLink RL 73 yX5_row, Cond.instanceMethod yX5_row, Cond.selects RX5 yX5_row yX5_row, Cond.code yX5_row cX5_row 3 (some .int), Cond.methodLink RL 76 yX6_row]
def wsL_law_r21 : List Cond := [Cond.instanceMethod yX6_row, Cond.selects RX6 yX6_row yX6_row, Cond.code yX6_row cX6_row 3 (some .int), Cond.methodLink RL 77 yX5_fewest, Cond.instanceMethod yX5_fewest, Cond.selects RX5 yX5_fewest yX5_fewest, Cond.code yX5_fewest cX5_fewest 3 (some .int), Cond.methodLink RL 80 yX6_fewest, Cond.instanceMethod yX6_fewest, Cond.selects RX6 yX6_fewest yX6_fewest, Cond.code yX6_fewest cX6_fewest 3 (some .int), Cond.constantLong RX6 220 (99), Cond.methodLink RL 81 yX5_peace, Cond.instanceMethod yX5_peace, Cond.selects RX5 yX5_peace yX5_peace, Cond.code yX5_peace cX5_peace 6 (some .int), Cond.methodLink RX5 184 yX5_mostInPeace, Cond.instanceMethod yX5_mostInPeace, Cond.selects RX5 yX5_mostInPeace yX5_mostInPeace, Cond.code yX5_mostInPeace cX5_mostInPeace 4 (some .int), Cond.methodLink RL 84 yX6_peace, Cond.instanceMethod yX6_peace, Cond.selects RX6 yX6_peace yX6_peace, Cond.code yX6_peace cX6_peace 7 (some .int)]
def wsL_law_r22 : List Cond := [Cond.methodLink RL 85 yX5_gives, Cond.instanceMethod yX5_gives, Cond.selects RX5 yX5_gives yX5_gives, Cond.code yX5_gives cX5_gives 3 (some .int), Cond.instanceMethod yX4_givesAt, Cond.selects RX4 yX4_givesAt yX4_givesAt, Cond.code yX4_givesAt cX4_givesAt 4 (some .int), Cond.methodLink RL 88 yX6_gives, Cond.instanceMethod yX6_gives, Cond.selects RX6 yX6_gives yX6_gives, Cond.code yX6_gives cX6_gives 3 (some .int), Cond.methodLink RX6 222 yX6_givesOf, Cond.instanceMethod yX6_givesOf, Cond.selects RX6 yX6_givesOf yX6_givesOf, Cond.code yX6_givesOf cX6_givesOf 4 (some .int), Cond.methodLink RL 89 yX5_stranger, Cond.instanceMethod yX5_stranger, Cond.selects RX5 yX5_stranger yX5_stranger, Cond.code yX5_stranger cX5_stranger 7 (some .int), Cond.methodLink RX5 190 yX5_isPails, Cond.static yX5_isPails, Cond.code yX5_isPails cX5_isPails 2 (some .boolean), Cond.constantLong RX5 261 (9), Cond.methodLink RX5 194 yX5_asMood]
def wsL_law_r23 : List Cond := [Cond.methodLink RX5 197 yX5_waned, Cond.methodLink RL 92 yX6_stranger, Cond.instanceMethod yX6_stranger, Cond.selects RX6 yX6_stranger yX6_stranger, Cond.code yX6_stranger cX6_stranger 6 (some .int), Cond.methodLink RL 93 yX5_liar, Cond.instanceMethod yX5_liar, Cond.selects RX5 yX5_liar yX5_liar, Cond.code yX5_liar cX5_liar 9 (some .int), Cond.methodLink RX5 203 yX5_isTale, Cond.instanceMethod yX5_isTale, Cond.selects RX5 yX5_isTale yX5_isTale, Cond.code yX5_isTale cX5_isTale 4 (some .boolean), Cond.methodLink RL 97 yX6_liar, Cond.instanceMethod yX6_liar, Cond.selects RX6 yX6_liar yX6_liar, Cond.code yX6_liar cX6_liar 7 (some .int), Cond.methodLink RL 98 yX5_other, Cond.instanceMethod yX5_other, Cond.selects RX5 yX5_other yX5_other, Cond.code yX5_other cX5_other 2 (some .int), Cond.methodLink RL 101 yX6_other, Cond.instanceMethod yX6_other, Cond.selects RX6 yX6_other yX6_other]
def wsL_law_r24 : List Cond := [Cond.code yX6_other cX6_other 2 (some .int), Cond.methodLink RL 102 yX5_drawn, Cond.instanceMethod yX5_drawn, Cond.selects RX5 yX5_drawn yX5_drawn, Cond.code yX5_drawn cX5_drawn 4 (some .int), Cond.instanceMethod yX4_lot, Cond.selects RX4 yX4_lot yX4_lot, Cond.code yX4_lot cX4_lot 2 (some .int), Cond.constantLong RX4 115 (1103515245), Cond.constantLong RX4 117 (12345), Cond.constantLong RX4 119 (2147483647), Cond.constant RX4 121 (65536), Cond.methodLink RL 105 yX6_drawn, Cond.instanceMethod yX6_drawn, Cond.selects RX6 yX6_drawn yX6_drawn, Cond.code yX6_drawn cX6_drawn 5 (some .int), Cond.constantLong RX6 225 (1103515245), Cond.constantLong RX6 227 (12345), Cond.constantLong RX6 229 (2147483647), Cond.constant RX6 231 (65536), Cond.methodLink RL 106 yX5_seed, Cond.instanceMethod yX5_seed, Cond.selects RX5 yX5_seed yX5_seed, Cond.code yX5_seed cX5_seed 3 (some .int)]
def wsL_law_r25 : List Cond := [Cond.methodLink RL 109 yX6_seed, Cond.instanceMethod yX6_seed, Cond.selects RX6 yX6_seed yX6_seed, Cond.code yX6_seed cX6_seed 3 (some .int), Cond.methodLink RL 110 yX5_image, Cond.instanceMethod yX5_image, Cond.selects RX5 yX5_image yX5_image, Cond.code yX5_image cX5_image 1 (some .int), Cond.instanceMethod yX4_become, Cond.selects RX4 yX4_become yX4_become, Cond.code yX4_become cX4_become 2 none, Cond.methodLink RL 113 yX6_image, Cond.instanceMethod yX6_image, Cond.selects RX6 yX6_image yX6_image, Cond.code yX6_image cX6_image 2 (some .int), Cond.fieldLink RX6 236 "WellMoodsModel" "isKept" "Z", Cond.methodLink RX6 232 yX6_carried, Cond.instanceMethod yX6_carried, Cond.selects RX6 yX6_carried yX6_carried, Cond.code yX6_carried cX6_carried 6 (some .int), Cond.methodLink RL 114 yX5_restore, Cond.instanceMethod yX5_restore, Cond.selects RX5 yX5_restore yX5_restore, Cond.code yX5_restore cX5_restore 1 (some .int)]
def wsL_law_r26 : List Cond := [Cond.methodLink RL 117 yX6_restore, Cond.instanceMethod yX6_restore, Cond.selects RX6 yX6_restore yX6_restore, Cond.code yX6_restore cX6_restore 2 (some .int), Cond.methodLink RL 118 yX5_fit, Cond.instanceMethod yX5_fit, Cond.selects RX5 yX5_fit yX5_fit, Cond.code yX5_fit cX5_fit 8 (some .int), Cond.methodLink RX5 215 yX5_refusal, Cond.instanceMethod yX5_refusal, Cond.selects RX5 yX5_refusal yX5_refusal, Cond.code yX5_refusal cX5_refusal 5 (some .int), Cond.methodLink RX5 231 yX5_isSheet, Cond.static yX5_isSheet, Cond.code yX5_isSheet cX5_isSheet 1 (some .boolean), Cond.methodLink RX5 234 yX5_isLane, Cond.static yX5_isLane, Cond.code yX5_isLane cX5_isLane 1 (some .boolean), Cond.instanceMethod yX2_hasSpan, Cond.selects RX2 yX2_hasSpan yX2_hasSpan, Cond.code yX2_hasSpan cX2_hasSpan 3 (some .boolean), Cond.methodLink RX5 219 yX5_areDrawings, Cond.instanceMethod yX5_areDrawings, Cond.selects RX5 yX5_areDrawings yX5_areDrawings]
def wsL_law_r27 : List Cond := [Cond.code yX5_areDrawings cX5_areDrawings 7 (some .boolean), Cond.methodLink RX5 223 yX5_fitsFrom, Cond.instanceMethod yX5_fitsFrom, Cond.selects RX5 yX5_fitsFrom yX5_fitsFrom, Cond.code yX5_fitsFrom cX5_fitsFrom 8 (some .boolean), Cond.methodLink RL 122 yX6_fit, Cond.instanceMethod yX6_fit, Cond.selects RX6 yX6_fit yX6_fit, Cond.code yX6_fit cX6_fit 9 (some .int), Cond.methodLink RX6 239 yX6_isSheet, Cond.static yX6_isSheet, Cond.code yX6_isSheet cX6_isSheet 2 (some .boolean), Cond.methodLink RX6 242 yX6_lacksRow, Cond.instanceMethod yX6_lacksRow, Cond.selects RX6 yX6_lacksRow yX6_lacksRow, Cond.code yX6_lacksRow cX6_lacksRow 5 (some .int), Cond.methodLink RX6 250 yX6_fits, Cond.instanceMethod yX6_fits, Cond.selects RX6 yX6_fits yX6_fits, Cond.code yX6_fits cX6_fits 8 (some .boolean), Cond.methodLink RL 123 yX5_film, Cond.instanceMethod yX5_film, Cond.selects RX5 yX5_film yX5_film, Cond.code yX5_film cX5_film 7 (some .int)]
def wsL_law_r28 : List Cond := [Cond.instanceMethod yX2_put, Cond.selects RX2 yX2_put yX2_put, Cond.code yX2_put cX2_put 4 none, Cond.methodLink RL 126 yX6_film, Cond.instanceMethod yX6_film, Cond.selects RX6 yX6_film yX6_film, Cond.code yX6_film cX6_film 7 (some .int), Cond.methodLink RL 127 yX5_sheet, Cond.instanceMethod yX5_sheet, Cond.selects RX5 yX5_sheet yX5_sheet, Cond.code yX5_sheet cX5_sheet 4 (some .int), Cond.instanceMethod yX2_begin, Cond.selects RX2 yX2_begin yX2_begin, Cond.code yX2_begin cX2_begin 4 none, Cond.methodLink RL 130 yX6_sheet, Cond.instanceMethod yX6_sheet, Cond.selects RX6 yX6_sheet yX6_sheet, Cond.code yX6_sheet cX6_sheet 5 (some .int), Cond.methodLink RL 131 yX5_drop, Cond.instanceMethod yX5_drop, Cond.selects RX5 yX5_drop yX5_drop, Cond.code yX5_drop cX5_drop 2 (some .int), Cond.methodLink RL 134 yX6_drop, Cond.instanceMethod yX6_drop]
def wsL_law_r29 : List Cond := [Cond.selects RX6 yX6_drop yX6_drop, Cond.code yX6_drop cX6_drop 2 (some .int), Cond.methodLink RL 135 yX5_item, Cond.instanceMethod yX5_item, Cond.selects RX5 yX5_item yX5_item, Cond.code yX5_item cX5_item 7 (some .int), Cond.methodLink RL 139 yX6_item, Cond.instanceMethod yX6_item, Cond.selects RX6 yX6_item yX6_item, Cond.code yX6_item cX6_item 7 (some .int), Cond.methodLink RX6 246 yX6_asLane, Cond.static yX6_asLane, Cond.code yX6_asLane cX6_asLane 3 (some .long), Cond.methodLink RL 140 yX5_copy, Cond.instanceMethod yX5_copy, Cond.selects RX5 yX5_copy yX5_copy, Cond.code yX5_copy cX5_copy 6 (some .int), Cond.methodLink RX5 255 arraycopyName, Cond.methodLink RL 144 yX6_copy, Cond.instanceMethod yX6_copy, Cond.selects RX6 yX6_copy yX6_copy, Cond.code yX6_copy cX6_copy 7 (some .int)]
def wsL_law : List Cond := (wsL_law_r1 ++ (wsL_law_r2 ++ (wsL_law_r3 ++ (wsL_law_r4 ++ (wsL_law_r5 ++ (wsL_law_r6 ++ (wsL_law_r7 ++ (wsL_law_r8 ++ (wsL_law_r9 ++ (wsL_law_r10 ++ (wsL_law_r11 ++ (wsL_law_r12 ++ (wsL_law_r13 ++ (wsL_law_r14 ++ (wsL_law_r15 ++ (wsL_law_r16 ++ (wsL_law_r17 ++ (wsL_law_r18 ++ (wsL_law_r19 ++ (wsL_law_r20 ++ (wsL_law_r21 ++ (wsL_law_r22 ++ (wsL_law_r23 ++ (wsL_law_r24 ++ (wsL_law_r25 ++ (wsL_law_r26 ++ (wsL_law_r27 ++ (wsL_law_r28 ++ wsL_law_r29)))))))))))))))))))))))))))) ++ wsX50 ++ wsX60 ++ wsX40 ++ wsX30 ++ wsX00 ++ wsX10 ++ wsX20 ++ ([] : List Cond)
set_option maxRecDepth 20000 in
theorem wsL_law_in : ∀ w ∈ wsL_law, w ∈ lw_tbl := fun w h => (goodIn_p wsL_law [75, 78, 83, 89, 175, 195, 234, 644, 282, 285, 289, 758, 762, 768, 293, 297, 772, 776, 302, 306, 311, 782, 786, 315, 318, 790, 794, 322, 800, 326, 329, 332, 336, 804, 340, 344, 348, 352, 355, 359, 365, 369, 373, 812, 816, 820, 824, 828, 377, 381, 386, 389, 832, 836, 396, 400, 840, 405, 409, 413, 418, 422, 427, 431, 435, 439, 442, 448, 451, 454, 457, 844, 848, 852, 856, 859, 862, 865, 869, 872, 875, 879, 462, 883, 466, 470, 888, 475, 479, 483, 489, 494, 498, 502, 892, 897, 901, 511, 905, 515, 909, 519, 523, 914, 527, 531, 922, 926, 536, 539, 930, 547, 551, 934, 555, 918, 559, 563, 938, 571, 946, 575, 579, 950, 954, 583, 958, 587, 591, 594, 597, 601, 605, 609, 984, 965, 977, 988, 614, 618, 992, 622, 626, 962, 630, 969, 634, 973, 980, 638, 996] (by decide +kernel) (by decide +kernel) w h).1
theorem inlX0 : ∀ w ∈ wsX00, w ∈ wsL_law := fun _ h => List.mem_append_left _ (List.mem_append_left _ (List.mem_append_left _ (List.mem_append_right _ h)))
theorem inX0 : ∀ w ∈ wsX00, w ∈ lw_tbl := fun w h => wsL_law_in w (inlX0 w h)
theorem inlX1 : ∀ w ∈ wsX10, w ∈ wsL_law := fun _ h => List.mem_append_left _ (List.mem_append_left _ (List.mem_append_right _ h))
theorem inX1 : ∀ w ∈ wsX10, w ∈ lw_tbl := fun w h => wsL_law_in w (inlX1 w h)
theorem inlX2 : ∀ w ∈ wsX20, w ∈ wsL_law := fun _ h => List.mem_append_left _ (List.mem_append_right _ h)
theorem inX2 : ∀ w ∈ wsX20, w ∈ lw_tbl := fun w h => wsL_law_in w (inlX2 w h)
theorem inlX3 : ∀ w ∈ wsX30, w ∈ wsL_law := fun _ h => List.mem_append_left _ (List.mem_append_left _ (List.mem_append_left _ (List.mem_append_left _ (List.mem_append_right _ h))))
theorem inX3 : ∀ w ∈ wsX30, w ∈ lw_tbl := fun w h => wsL_law_in w (inlX3 w h)
theorem inlX4 : ∀ w ∈ wsX40, w ∈ wsL_law := fun _ h => List.mem_append_left _ (List.mem_append_left _ (List.mem_append_left _ (List.mem_append_left _ (List.mem_append_left _ (List.mem_append_right _ h)))))
theorem inX4 : ∀ w ∈ wsX40, w ∈ lw_tbl := fun w h => wsL_law_in w (inlX4 w h)
theorem inlX5 : ∀ w ∈ wsX50, w ∈ wsL_law := fun _ h => List.mem_append_left _ (List.mem_append_left _ (List.mem_append_left _ (List.mem_append_left _ (List.mem_append_left _ (List.mem_append_left _ (List.mem_append_left _ (List.mem_append_right _ h)))))))
theorem inX5 : ∀ w ∈ wsX50, w ∈ lw_tbl := fun w h => wsL_law_in w (inlX5 w h)
theorem inlX6 : ∀ w ∈ wsX60, w ∈ wsL_law := fun _ h => List.mem_append_left _ (List.mem_append_left _ (List.mem_append_left _ (List.mem_append_left _ (List.mem_append_left _ (List.mem_append_left _ (List.mem_append_right _ h))))))
theorem inX6 : ∀ w ∈ wsX60, w ∈ lw_tbl := fun w h => wsL_law_in w (inlX6 w h)
theorem inJ6 : ∀ w ∈ wsJ60, w ∈ lw_tbl := by decide +kernel
theorem inJ9 : ∀ w ∈ wsJ90, w ∈ lw_tbl := by decide +kernel
theorem inJ10 : ∀ w ∈ wsJ100, w ∈ lw_tbl := by decide +kernel
abbrev vwCl : List vw_C := [(RX0, TX0, 5), (RX1, TX1, 9), (RX2, TX2, 4), (RX3, TX3, 3), (RX4, TX4, 12), (RX5, TX5, 8), (RX6, TX6, 36)]
end
section
theorem dX0_init_0 : decode cX0_init 0 = .ok (.aload_n 0, 1) := by decide +kernel
theorem dX0_init_1 : decode cX0_init 1 = .ok (.invokespecial 3, 3) := by decide +kernel
theorem dX0_init_4 : decode cX0_init 4 = .ok (.aload_n 0, 1) := by decide +kernel
theorem dX0_init_5 : decode cX0_init 5 = .ok (.bipush 6, 2) := by decide +kernel
theorem dX0_init_7 : decode cX0_init 7 = .ok (.newarray .int, 2) := by decide +kernel
theorem dX0_init_9 : decode cX0_init 9 = .ok (.putfield 9, 3) := by decide +kernel
theorem dX0_init_12 : decode cX0_init 12 = .ok (.aload_n 0, 1) := by decide +kernel
theorem dX0_init_13 : decode cX0_init 13 = .ok (.bipush 6, 2) := by decide +kernel
theorem dX0_init_15 : decode cX0_init 15 = .ok (.newarray .int, 2) := by decide +kernel
theorem dX0_init_17 : decode cX0_init 17 = .ok (.putfield 15, 3) := by decide +kernel
theorem dX0_init_20 : decode cX0_init 20 = .ok (.aload_n 0, 1) := by decide +kernel
theorem dX0_init_21 : decode cX0_init 21 = .ok (.bipush 6, 2) := by decide +kernel
theorem dX0_init_23 : decode cX0_init 23 = .ok (.newarray .int, 2) := by decide +kernel
theorem dX0_init_25 : decode cX0_init 25 = .ok (.putfield 18, 3) := by decide +kernel
theorem dX0_init_28 : decode cX0_init 28 = .ok (.aload_n 0, 1) := by decide +kernel
theorem dX0_init_29 : decode cX0_init 29 = .ok (.bipush 6, 2) := by decide +kernel
theorem dX0_init_31 : decode cX0_init 31 = .ok (.newarray .int, 2) := by decide +kernel
theorem dX0_init_33 : decode cX0_init 33 = .ok (.putfield 21, 3) := by decide +kernel
theorem dX0_init_36 : decode cX0_init 36 = .ok (.aload_n 0, 1) := by decide +kernel
theorem dX0_init_37 : decode cX0_init 37 = .ok (.iconst 0, 1) := by decide +kernel
theorem dX0_init_38 : decode cX0_init 38 = .ok (.putfield 24, 3) := by decide +kernel
theorem dX0_init_41 : decode cX0_init 41 = .ok (.return_, 1) := by decide +kernel
theorem dX0_has_0 : decode cX0_has 0 = .ok (.iload_n 1, 1) := by decide +kernel
theorem dX0_has_1 : decode cX0_has 1 = .ok (.ifCond .lt 15, 3) := by decide +kernel
theorem dX0_has_4 : decode cX0_has 4 = .ok (.iload_n 1, 1) := by decide +kernel
theorem dX0_has_5 : decode cX0_has 5 = .ok (.aload_n 0, 1) := by decide +kernel
theorem dX0_has_6 : decode cX0_has 6 = .ok (.getfield 24, 3) := by decide +kernel
theorem dX0_has_9 : decode cX0_has 9 = .ok (.if_icmp .ge 7, 3) := by decide +kernel
theorem dX0_has_12 : decode cX0_has 12 = .ok (.iconst 1, 1) := by decide +kernel
theorem dX0_has_13 : decode cX0_has 13 = .ok (.goto 4, 3) := by decide +kernel
theorem dX0_has_16 : decode cX0_has 16 = .ok (.iconst 0, 1) := by decide +kernel
theorem dX0_has_17 : decode cX0_has 17 = .ok (.ireturn, 1) := by decide +kernel
theorem dX0_add_0 : decode cX0_add 0 = .ok (.aload_n 0, 1) := by decide +kernel
theorem dX0_add_1 : decode cX0_add 1 = .ok (.getfield 24, 3) := by decide +kernel
theorem dX0_add_4 : decode cX0_add 4 = .ok (.istore 4, 2) := by decide +kernel
theorem dX0_add_6 : decode cX0_add 6 = .ok (.iload 4, 2) := by decide +kernel
theorem dX0_add_8 : decode cX0_add 8 = .ok (.bipush 6, 2) := by decide +kernel
theorem dX0_add_10 : decode cX0_add 10 = .ok (.if_icmp .lt 6, 3) := by decide +kernel
theorem dX0_add_13 : decode cX0_add 13 = .ok (.bipush (-3), 2) := by decide +kernel
theorem dX0_add_15 : decode cX0_add 15 = .ok (.ireturn, 1) := by decide +kernel
theorem dX0_add_16 : decode cX0_add 16 = .ok (.aload_n 0, 1) := by decide +kernel
theorem dX0_add_17 : decode cX0_add 17 = .ok (.getfield 9, 3) := by decide +kernel
theorem dX0_add_20 : decode cX0_add 20 = .ok (.iload 4, 2) := by decide +kernel
theorem dX0_add_22 : decode cX0_add 22 = .ok (.iload_n 1, 1) := by decide +kernel
theorem dX0_add_23 : decode cX0_add 23 = .ok (.iastore, 1) := by decide +kernel
theorem dX0_add_24 : decode cX0_add 24 = .ok (.aload_n 0, 1) := by decide +kernel
theorem dX0_add_25 : decode cX0_add 25 = .ok (.getfield 15, 3) := by decide +kernel
theorem dX0_add_28 : decode cX0_add 28 = .ok (.iload 4, 2) := by decide +kernel
theorem dX0_add_30 : decode cX0_add 30 = .ok (.iload_n 2, 1) := by decide +kernel
theorem dX0_add_31 : decode cX0_add 31 = .ok (.iastore, 1) := by decide +kernel
theorem dX0_add_32 : decode cX0_add 32 = .ok (.aload_n 0, 1) := by decide +kernel
theorem dX0_add_33 : decode cX0_add 33 = .ok (.getfield 18, 3) := by decide +kernel
theorem dX0_add_36 : decode cX0_add 36 = .ok (.iload 4, 2) := by decide +kernel
theorem dX0_add_38 : decode cX0_add 38 = .ok (.iload_n 3, 1) := by decide +kernel
theorem dX0_add_39 : decode cX0_add 39 = .ok (.iastore, 1) := by decide +kernel
theorem dX0_add_40 : decode cX0_add 40 = .ok (.aload_n 0, 1) := by decide +kernel
theorem dX0_add_41 : decode cX0_add 41 = .ok (.getfield 21, 3) := by decide +kernel
theorem dX0_add_44 : decode cX0_add 44 = .ok (.iload 4, 2) := by decide +kernel
theorem dX0_add_46 : decode cX0_add 46 = .ok (.iconst 0, 1) := by decide +kernel
theorem dX0_add_47 : decode cX0_add 47 = .ok (.iastore, 1) := by decide +kernel
theorem dX0_add_48 : decode cX0_add 48 = .ok (.aload_n 0, 1) := by decide +kernel
theorem dX0_add_49 : decode cX0_add 49 = .ok (.iload 4, 2) := by decide +kernel
theorem dX0_add_51 : decode cX0_add 51 = .ok (.iconst 1, 1) := by decide +kernel
theorem dX0_add_52 : decode cX0_add 52 = .ok (.iadd, 1) := by decide +kernel
theorem dX0_add_53 : decode cX0_add 53 = .ok (.putfield 24, 3) := by decide +kernel
theorem dX0_add_56 : decode cX0_add 56 = .ok (.iload 4, 2) := by decide +kernel
theorem dX0_add_58 : decode cX0_add 58 = .ok (.ireturn, 1) := by decide +kernel
theorem dX0_become_0 : decode cX0_become 0 = .ok (.iconst 0, 1) := by decide +kernel
theorem dX0_become_1 : decode cX0_become 1 = .ok (.istore_n 2, 1) := by decide +kernel
theorem dX0_become_2 : decode cX0_become 2 = .ok (.iload_n 2, 1) := by decide +kernel
theorem dX0_become_3 : decode cX0_become 3 = .ok (.bipush 6, 2) := by decide +kernel
theorem dX0_become_5 : decode cX0_become 5 = .ok (.if_icmp .ge 57, 3) := by decide +kernel
theorem dX0_become_8 : decode cX0_become 8 = .ok (.aload_n 0, 1) := by decide +kernel
theorem dX0_become_9 : decode cX0_become 9 = .ok (.getfield 9, 3) := by decide +kernel
theorem dX0_become_12 : decode cX0_become 12 = .ok (.iload_n 2, 1) := by decide +kernel
theorem dX0_become_13 : decode cX0_become 13 = .ok (.aload_n 1, 1) := by decide +kernel
theorem dX0_become_14 : decode cX0_become 14 = .ok (.getfield 9, 3) := by decide +kernel
theorem dX0_become_17 : decode cX0_become 17 = .ok (.iload_n 2, 1) := by decide +kernel
theorem dX0_become_18 : decode cX0_become 18 = .ok (.iaload, 1) := by decide +kernel
theorem dX0_become_19 : decode cX0_become 19 = .ok (.iastore, 1) := by decide +kernel
theorem dX0_become_20 : decode cX0_become 20 = .ok (.aload_n 0, 1) := by decide +kernel
theorem dX0_become_21 : decode cX0_become 21 = .ok (.getfield 15, 3) := by decide +kernel
theorem dX0_become_24 : decode cX0_become 24 = .ok (.iload_n 2, 1) := by decide +kernel
theorem dX0_become_25 : decode cX0_become 25 = .ok (.aload_n 1, 1) := by decide +kernel
theorem dX0_become_26 : decode cX0_become 26 = .ok (.getfield 15, 3) := by decide +kernel
theorem dX0_become_29 : decode cX0_become 29 = .ok (.iload_n 2, 1) := by decide +kernel
theorem dX0_become_30 : decode cX0_become 30 = .ok (.iaload, 1) := by decide +kernel
theorem dX0_become_31 : decode cX0_become 31 = .ok (.iastore, 1) := by decide +kernel
theorem dX0_become_32 : decode cX0_become 32 = .ok (.aload_n 0, 1) := by decide +kernel
theorem dX0_become_33 : decode cX0_become 33 = .ok (.getfield 18, 3) := by decide +kernel
theorem dX0_become_36 : decode cX0_become 36 = .ok (.iload_n 2, 1) := by decide +kernel
theorem dX0_become_37 : decode cX0_become 37 = .ok (.aload_n 1, 1) := by decide +kernel
theorem dX0_become_38 : decode cX0_become 38 = .ok (.getfield 18, 3) := by decide +kernel
theorem dX0_become_41 : decode cX0_become 41 = .ok (.iload_n 2, 1) := by decide +kernel
theorem dX0_become_42 : decode cX0_become 42 = .ok (.iaload, 1) := by decide +kernel
theorem dX0_become_43 : decode cX0_become 43 = .ok (.iastore, 1) := by decide +kernel
theorem dX0_become_44 : decode cX0_become 44 = .ok (.aload_n 0, 1) := by decide +kernel
theorem dX0_become_45 : decode cX0_become 45 = .ok (.getfield 21, 3) := by decide +kernel
theorem dX0_become_48 : decode cX0_become 48 = .ok (.iload_n 2, 1) := by decide +kernel
theorem dX0_become_49 : decode cX0_become 49 = .ok (.aload_n 1, 1) := by decide +kernel
theorem dX0_become_50 : decode cX0_become 50 = .ok (.getfield 21, 3) := by decide +kernel
theorem dX0_become_53 : decode cX0_become 53 = .ok (.iload_n 2, 1) := by decide +kernel
theorem dX0_become_54 : decode cX0_become 54 = .ok (.iaload, 1) := by decide +kernel
theorem dX0_become_55 : decode cX0_become 55 = .ok (.iastore, 1) := by decide +kernel
theorem dX0_become_56 : decode cX0_become 56 = .ok (.iinc 2 1, 3) := by decide +kernel
theorem dX0_become_59 : decode cX0_become 59 = .ok (.goto (-57), 3) := by decide +kernel
theorem dX0_become_62 : decode cX0_become 62 = .ok (.aload_n 0, 1) := by decide +kernel
theorem dX0_become_63 : decode cX0_become 63 = .ok (.aload_n 1, 1) := by decide +kernel
theorem dX0_become_64 : decode cX0_become 64 = .ok (.getfield 24, 3) := by decide +kernel
theorem dX0_become_67 : decode cX0_become 67 = .ok (.putfield 24, 3) := by decide +kernel
theorem dX0_become_70 : decode cX0_become 70 = .ok (.return_, 1) := by decide +kernel
set_option maxRecDepth 20000 in
theorem ggX0_areFoes_X0_has : GoodIn wsX0_areFoes wsX0_has := goodIn_r _ [6, 7, 8, 9, 10, 11, 12] (by decide +kernel) (by decide +kernel)
set_option maxRecDepth 20000 in
theorem gX0_areFoes_X0_has : GoodIn wsX0_areFoes (wsV RX0 28 RX0 yX0_has wsX0_has) := goodIn_app (goodIn_of _ (by decide +kernel)) ggX0_areFoes_X0_has
theorem dX0_areFoes_0 : decode cX0_areFoes 0 = .ok (.aload_n 0, 1) := by decide +kernel
theorem dX0_areFoes_1 : decode cX0_areFoes 1 = .ok (.iload_n 1, 1) := by decide +kernel
theorem dX0_areFoes_2 : decode cX0_areFoes 2 = .ok (.invokevirtual 28, 3) := by decide +kernel
theorem dX0_areFoes_5 : decode cX0_areFoes 5 = .ok (.ifCond .eq 29, 3) := by decide +kernel
theorem dX0_areFoes_8 : decode cX0_areFoes 8 = .ok (.aload_n 0, 1) := by decide +kernel
theorem dX0_areFoes_9 : decode cX0_areFoes 9 = .ok (.iload_n 2, 1) := by decide +kernel
theorem dX0_areFoes_10 : decode cX0_areFoes 10 = .ok (.invokevirtual 28, 3) := by decide +kernel
theorem dX0_areFoes_13 : decode cX0_areFoes 13 = .ok (.ifCond .eq 21, 3) := by decide +kernel
theorem dX0_areFoes_16 : decode cX0_areFoes 16 = .ok (.aload_n 0, 1) := by decide +kernel
theorem dX0_areFoes_17 : decode cX0_areFoes 17 = .ok (.getfield 21, 3) := by decide +kernel
theorem dX0_areFoes_20 : decode cX0_areFoes 20 = .ok (.iload_n 1, 1) := by decide +kernel
theorem dX0_areFoes_21 : decode cX0_areFoes 21 = .ok (.iaload, 1) := by decide +kernel
theorem dX0_areFoes_22 : decode cX0_areFoes 22 = .ok (.iload_n 2, 1) := by decide +kernel
theorem dX0_areFoes_23 : decode cX0_areFoes 23 = .ok (.ishr, 1) := by decide +kernel
theorem dX0_areFoes_24 : decode cX0_areFoes 24 = .ok (.iconst 1, 1) := by decide +kernel
theorem dX0_areFoes_25 : decode cX0_areFoes 25 = .ok (.iand, 1) := by decide +kernel
theorem dX0_areFoes_26 : decode cX0_areFoes 26 = .ok (.iconst 1, 1) := by decide +kernel
theorem dX0_areFoes_27 : decode cX0_areFoes 27 = .ok (.if_icmp .ne 7, 3) := by decide +kernel
theorem dX0_areFoes_30 : decode cX0_areFoes 30 = .ok (.iconst 1, 1) := by decide +kernel
theorem dX0_areFoes_31 : decode cX0_areFoes 31 = .ok (.goto 4, 3) := by decide +kernel
theorem dX0_areFoes_34 : decode cX0_areFoes 34 = .ok (.iconst 0, 1) := by decide +kernel
theorem dX0_areFoes_35 : decode cX0_areFoes 35 = .ok (.ireturn, 1) := by decide +kernel
set_option maxRecDepth 20000 in
theorem ggX0_makeFoes_X0_has : GoodIn wsX0_makeFoes wsX0_has := goodIn_r _ [6, 7, 8, 9, 10, 11, 12] (by decide +kernel) (by decide +kernel)
set_option maxRecDepth 20000 in
theorem gX0_makeFoes_X0_has : GoodIn wsX0_makeFoes (wsV RX0 28 RX0 yX0_has wsX0_has) := goodIn_app (goodIn_of _ (by decide +kernel)) ggX0_makeFoes_X0_has
theorem dX0_makeFoes_0 : decode cX0_makeFoes 0 = .ok (.aload_n 0, 1) := by decide +kernel
theorem dX0_makeFoes_1 : decode cX0_makeFoes 1 = .ok (.iload_n 1, 1) := by decide +kernel
theorem dX0_makeFoes_2 : decode cX0_makeFoes 2 = .ok (.invokevirtual 28, 3) := by decide +kernel
theorem dX0_makeFoes_5 : decode cX0_makeFoes 5 = .ok (.ifCond .eq 11, 3) := by decide +kernel
theorem dX0_makeFoes_8 : decode cX0_makeFoes 8 = .ok (.aload_n 0, 1) := by decide +kernel
theorem dX0_makeFoes_9 : decode cX0_makeFoes 9 = .ok (.iload_n 2, 1) := by decide +kernel
theorem dX0_makeFoes_10 : decode cX0_makeFoes 10 = .ok (.invokevirtual 28, 3) := by decide +kernel
theorem dX0_makeFoes_13 : decode cX0_makeFoes 13 = .ok (.ifCond .ne 4, 3) := by decide +kernel
theorem dX0_makeFoes_16 : decode cX0_makeFoes 16 = .ok (.return_, 1) := by decide +kernel
theorem dX0_makeFoes_17 : decode cX0_makeFoes 17 = .ok (.aload_n 0, 1) := by decide +kernel
theorem dX0_makeFoes_18 : decode cX0_makeFoes 18 = .ok (.getfield 21, 3) := by decide +kernel
theorem dX0_makeFoes_21 : decode cX0_makeFoes 21 = .ok (.iload_n 1, 1) := by decide +kernel
theorem dX0_makeFoes_22 : decode cX0_makeFoes 22 = .ok (.iload_n 3, 1) := by decide +kernel
theorem dX0_makeFoes_23 : decode cX0_makeFoes 23 = .ok (.ifCond .eq 16, 3) := by decide +kernel
theorem dX0_makeFoes_26 : decode cX0_makeFoes 26 = .ok (.aload_n 0, 1) := by decide +kernel
theorem dX0_makeFoes_27 : decode cX0_makeFoes 27 = .ok (.getfield 21, 3) := by decide +kernel
theorem dX0_makeFoes_30 : decode cX0_makeFoes 30 = .ok (.iload_n 1, 1) := by decide +kernel
theorem dX0_makeFoes_31 : decode cX0_makeFoes 31 = .ok (.iaload, 1) := by decide +kernel
theorem dX0_makeFoes_32 : decode cX0_makeFoes 32 = .ok (.iconst 1, 1) := by decide +kernel
theorem dX0_makeFoes_33 : decode cX0_makeFoes 33 = .ok (.iload_n 2, 1) := by decide +kernel
theorem dX0_makeFoes_34 : decode cX0_makeFoes 34 = .ok (.ishl, 1) := by decide +kernel
theorem dX0_makeFoes_35 : decode cX0_makeFoes 35 = .ok (.ior, 1) := by decide +kernel
theorem dX0_makeFoes_36 : decode cX0_makeFoes 36 = .ok (.goto 15, 3) := by decide +kernel
theorem dX0_makeFoes_39 : decode cX0_makeFoes 39 = .ok (.aload_n 0, 1) := by decide +kernel
theorem dX0_makeFoes_40 : decode cX0_makeFoes 40 = .ok (.getfield 21, 3) := by decide +kernel
theorem dX0_makeFoes_43 : decode cX0_makeFoes 43 = .ok (.iload_n 1, 1) := by decide +kernel
theorem dX0_makeFoes_44 : decode cX0_makeFoes 44 = .ok (.iaload, 1) := by decide +kernel
theorem dX0_makeFoes_45 : decode cX0_makeFoes 45 = .ok (.iconst 1, 1) := by decide +kernel
theorem dX0_makeFoes_46 : decode cX0_makeFoes 46 = .ok (.iload_n 2, 1) := by decide +kernel
theorem dX0_makeFoes_47 : decode cX0_makeFoes 47 = .ok (.ishl, 1) := by decide +kernel
theorem dX0_makeFoes_48 : decode cX0_makeFoes 48 = .ok (.iconst (-1), 1) := by decide +kernel
theorem dX0_makeFoes_49 : decode cX0_makeFoes 49 = .ok (.ixor, 1) := by decide +kernel
theorem dX0_makeFoes_50 : decode cX0_makeFoes 50 = .ok (.iand, 1) := by decide +kernel
theorem dX0_makeFoes_51 : decode cX0_makeFoes 51 = .ok (.iastore, 1) := by decide +kernel
theorem dX0_makeFoes_52 : decode cX0_makeFoes 52 = .ok (.aload_n 0, 1) := by decide +kernel
theorem dX0_makeFoes_53 : decode cX0_makeFoes 53 = .ok (.getfield 21, 3) := by decide +kernel
theorem dX0_makeFoes_56 : decode cX0_makeFoes 56 = .ok (.iload_n 2, 1) := by decide +kernel
theorem dX0_makeFoes_57 : decode cX0_makeFoes 57 = .ok (.iload_n 3, 1) := by decide +kernel
theorem dX0_makeFoes_58 : decode cX0_makeFoes 58 = .ok (.ifCond .eq 16, 3) := by decide +kernel
theorem dX0_makeFoes_61 : decode cX0_makeFoes 61 = .ok (.aload_n 0, 1) := by decide +kernel
theorem dX0_makeFoes_62 : decode cX0_makeFoes 62 = .ok (.getfield 21, 3) := by decide +kernel
theorem dX0_makeFoes_65 : decode cX0_makeFoes 65 = .ok (.iload_n 2, 1) := by decide +kernel
theorem dX0_makeFoes_66 : decode cX0_makeFoes 66 = .ok (.iaload, 1) := by decide +kernel
theorem dX0_makeFoes_67 : decode cX0_makeFoes 67 = .ok (.iconst 1, 1) := by decide +kernel
theorem dX0_makeFoes_68 : decode cX0_makeFoes 68 = .ok (.iload_n 1, 1) := by decide +kernel
theorem dX0_makeFoes_69 : decode cX0_makeFoes 69 = .ok (.ishl, 1) := by decide +kernel
theorem dX0_makeFoes_70 : decode cX0_makeFoes 70 = .ok (.ior, 1) := by decide +kernel
theorem dX0_makeFoes_71 : decode cX0_makeFoes 71 = .ok (.goto 15, 3) := by decide +kernel
theorem dX0_makeFoes_74 : decode cX0_makeFoes 74 = .ok (.aload_n 0, 1) := by decide +kernel
theorem dX0_makeFoes_75 : decode cX0_makeFoes 75 = .ok (.getfield 21, 3) := by decide +kernel
theorem dX0_makeFoes_78 : decode cX0_makeFoes 78 = .ok (.iload_n 2, 1) := by decide +kernel
theorem dX0_makeFoes_79 : decode cX0_makeFoes 79 = .ok (.iaload, 1) := by decide +kernel
theorem dX0_makeFoes_80 : decode cX0_makeFoes 80 = .ok (.iconst 1, 1) := by decide +kernel
theorem dX0_makeFoes_81 : decode cX0_makeFoes 81 = .ok (.iload_n 1, 1) := by decide +kernel
theorem dX0_makeFoes_82 : decode cX0_makeFoes 82 = .ok (.ishl, 1) := by decide +kernel
theorem dX0_makeFoes_83 : decode cX0_makeFoes 83 = .ok (.iconst (-1), 1) := by decide +kernel
theorem dX0_makeFoes_84 : decode cX0_makeFoes 84 = .ok (.ixor, 1) := by decide +kernel
theorem dX0_makeFoes_85 : decode cX0_makeFoes 85 = .ok (.iand, 1) := by decide +kernel
theorem dX0_makeFoes_86 : decode cX0_makeFoes 86 = .ok (.iastore, 1) := by decide +kernel
theorem dX0_makeFoes_87 : decode cX0_makeFoes 87 = .ok (.return_, 1) := by decide +kernel
theorem dX0_pailsAt_0 : decode cX0_pailsAt 0 = .ok (.iconst 4, 1) := by decide +kernel
theorem dX0_pailsAt_1 : decode cX0_pailsAt 1 = .ok (.istore_n 3, 1) := by decide +kernel
theorem dX0_pailsAt_2 : decode cX0_pailsAt 2 = .ok (.aload_n 0, 1) := by decide +kernel
theorem dX0_pailsAt_3 : decode cX0_pailsAt 3 = .ok (.getfield 9, 3) := by decide +kernel
theorem dX0_pailsAt_6 : decode cX0_pailsAt 6 = .ok (.iload_n 1, 1) := by decide +kernel
theorem dX0_pailsAt_7 : decode cX0_pailsAt 7 = .ok (.iaload, 1) := by decide +kernel
theorem dX0_pailsAt_8 : decode cX0_pailsAt 8 = .ok (.iconst 1, 1) := by decide +kernel
theorem dX0_pailsAt_9 : decode cX0_pailsAt 9 = .ok (.if_icmp .ne 8, 3) := by decide +kernel
theorem dX0_pailsAt_12 : decode cX0_pailsAt 12 = .ok (.iconst 5, 1) := by decide +kernel
theorem dX0_pailsAt_13 : decode cX0_pailsAt 13 = .ok (.istore_n 3, 1) := by decide +kernel
theorem dX0_pailsAt_14 : decode cX0_pailsAt 14 = .ok (.goto 15, 3) := by decide +kernel
theorem dX0_pailsAt_17 : decode cX0_pailsAt 17 = .ok (.aload_n 0, 1) := by decide +kernel
theorem dX0_pailsAt_18 : decode cX0_pailsAt 18 = .ok (.getfield 9, 3) := by decide +kernel
theorem dX0_pailsAt_21 : decode cX0_pailsAt 21 = .ok (.iload_n 1, 1) := by decide +kernel
theorem dX0_pailsAt_22 : decode cX0_pailsAt 22 = .ok (.iaload, 1) := by decide +kernel
theorem dX0_pailsAt_23 : decode cX0_pailsAt 23 = .ok (.iconst 3, 1) := by decide +kernel
theorem dX0_pailsAt_24 : decode cX0_pailsAt 24 = .ok (.if_icmp .ne 5, 3) := by decide +kernel
theorem dX0_pailsAt_27 : decode cX0_pailsAt 27 = .ok (.iconst 2, 1) := by decide +kernel
theorem dX0_pailsAt_28 : decode cX0_pailsAt 28 = .ok (.istore_n 3, 1) := by decide +kernel
theorem dX0_pailsAt_29 : decode cX0_pailsAt 29 = .ok (.iconst 0, 1) := by decide +kernel
theorem dX0_pailsAt_30 : decode cX0_pailsAt 30 = .ok (.bipush 9, 2) := by decide +kernel
theorem dX0_pailsAt_32 : decode cX0_pailsAt 32 = .ok (.iload_n 3, 1) := by decide +kernel
theorem dX0_pailsAt_33 : decode cX0_pailsAt 33 = .ok (.iload_n 2, 1) := by decide +kernel
theorem dX0_pailsAt_34 : decode cX0_pailsAt 34 = .ok (.iadd, 1) := by decide +kernel
theorem dX0_pailsAt_35 : decode cX0_pailsAt 35 = .ok (.invokestatic 32, 3) := by decide +kernel
theorem dX0_pailsAt_38 : decode cX0_pailsAt 38 = .ok (.invokestatic 38, 3) := by decide +kernel
theorem dX0_pailsAt_41 : decode cX0_pailsAt 41 = .ok (.ireturn, 1) := by decide +kernel
set_option maxRecDepth 20000 in
theorem ggX0_pailsBehind_X0_areFoes : GoodIn wsX0_pailsBehind wsX0_areFoes := goodIn_r _ [9, 10, 11, 12, 13, 8, 14, 15, 24, 25, 26, 27, 28] (by decide +kernel) (by decide +kernel)
set_option maxRecDepth 20000 in
theorem gX0_pailsBehind_X0_areFoes : GoodIn wsX0_pailsBehind (wsV RX0 41 RX0 yX0_areFoes wsX0_areFoes) := goodIn_app (goodIn_of _ (by decide +kernel)) ggX0_pailsBehind_X0_areFoes
set_option maxRecDepth 20000 in
theorem ggX0_pailsBehind_X0_pailsAt : GoodIn wsX0_pailsBehind wsX0_pailsAt := goodIn_r _ [19, 20, 1, 2, 3, 4, 21, 22, 23, 24, 25, 26, 27, 28] (by decide +kernel) (by decide +kernel)
set_option maxRecDepth 20000 in
theorem gX0_pailsBehind_X0_pailsAt : GoodIn wsX0_pailsBehind (wsV RX0 45 RX0 yX0_pailsAt wsX0_pailsAt) := goodIn_app (goodIn_of _ (by decide +kernel)) ggX0_pailsBehind_X0_pailsAt
theorem dX0_pailsBehind_0 : decode cX0_pailsBehind 0 = .ok (.aload_n 0, 1) := by decide +kernel
theorem dX0_pailsBehind_1 : decode cX0_pailsBehind 1 = .ok (.iload_n 1, 1) := by decide +kernel
theorem dX0_pailsBehind_2 : decode cX0_pailsBehind 2 = .ok (.iload_n 2, 1) := by decide +kernel
theorem dX0_pailsBehind_3 : decode cX0_pailsBehind 3 = .ok (.invokevirtual 41, 3) := by decide +kernel
theorem dX0_pailsBehind_6 : decode cX0_pailsBehind 6 = .ok (.ifCond .eq 7, 3) := by decide +kernel
theorem dX0_pailsBehind_9 : decode cX0_pailsBehind 9 = .ok (.iconst 0, 1) := by decide +kernel
theorem dX0_pailsBehind_10 : decode cX0_pailsBehind 10 = .ok (.goto 14, 3) := by decide +kernel
theorem dX0_pailsBehind_13 : decode cX0_pailsBehind 13 = .ok (.iload 4, 2) := by decide +kernel
theorem dX0_pailsBehind_15 : decode cX0_pailsBehind 15 = .ok (.aload_n 0, 1) := by decide +kernel
theorem dX0_pailsBehind_16 : decode cX0_pailsBehind 16 = .ok (.iload_n 2, 1) := by decide +kernel
theorem dX0_pailsBehind_17 : decode cX0_pailsBehind 17 = .ok (.iload_n 3, 1) := by decide +kernel
theorem dX0_pailsBehind_18 : decode cX0_pailsBehind 18 = .ok (.invokevirtual 45, 3) := by decide +kernel
theorem dX0_pailsBehind_21 : decode cX0_pailsBehind 21 = .ok (.invokestatic 32, 3) := by decide +kernel
theorem dX0_pailsBehind_24 : decode cX0_pailsBehind 24 = .ok (.ireturn, 1) := by decide +kernel
theorem dX0_isSweet_0 : decode cX0_isSweet 0 = .ok (.aload_n 0, 1) := by decide +kernel
theorem dX0_isSweet_1 : decode cX0_isSweet 1 = .ok (.getfield 9, 3) := by decide +kernel
theorem dX0_isSweet_4 : decode cX0_isSweet 4 = .ok (.iload_n 1, 1) := by decide +kernel
theorem dX0_isSweet_5 : decode cX0_isSweet 5 = .ok (.iaload, 1) := by decide +kernel
theorem dX0_isSweet_6 : decode cX0_isSweet 6 = .ok (.iconst 1, 1) := by decide +kernel
theorem dX0_isSweet_7 : decode cX0_isSweet 7 = .ok (.if_icmp .eq 16, 3) := by decide +kernel
theorem dX0_isSweet_10 : decode cX0_isSweet 10 = .ok (.aload_n 0, 1) := by decide +kernel
theorem dX0_isSweet_11 : decode cX0_isSweet 11 = .ok (.getfield 9, 3) := by decide +kernel
theorem dX0_isSweet_14 : decode cX0_isSweet 14 = .ok (.iload_n 1, 1) := by decide +kernel
theorem dX0_isSweet_15 : decode cX0_isSweet 15 = .ok (.iaload, 1) := by decide +kernel
theorem dX0_isSweet_16 : decode cX0_isSweet 16 = .ok (.ifCond .ne 11, 3) := by decide +kernel
theorem dX0_isSweet_19 : decode cX0_isSweet 19 = .ok (.iload_n 2, 1) := by decide +kernel
theorem dX0_isSweet_20 : decode cX0_isSweet 20 = .ok (.ifCond .lt 7, 3) := by decide +kernel
theorem dX0_isSweet_23 : decode cX0_isSweet 23 = .ok (.iconst 1, 1) := by decide +kernel
theorem dX0_isSweet_24 : decode cX0_isSweet 24 = .ok (.goto 4, 3) := by decide +kernel
theorem dX0_isSweet_27 : decode cX0_isSweet 27 = .ok (.iconst 0, 1) := by decide +kernel
theorem dX0_isSweet_28 : decode cX0_isSweet 28 = .ok (.ireturn, 1) := by decide +kernel
set_option maxRecDepth 20000 in
theorem ggX0_moodBehind_X5_asMood : GoodIn wsX0_moodBehind wsX5_asMood := goodIn_r _ [5, 6, 7, 8, 9, 10, 11, 12] (by decide +kernel) (by decide +kernel)
set_option maxRecDepth 20000 in
theorem gX0_moodBehind_X5_asMood_n48 : GoodIn wsX0_moodBehind (wsX5_asMood) := ggX0_moodBehind_X5_asMood
theorem dX0_moodBehind_0 : decode cX0_moodBehind 0 = .ok (.aload_n 0, 1) := by decide +kernel
theorem dX0_moodBehind_1 : decode cX0_moodBehind 1 = .ok (.getfield 9, 3) := by decide +kernel
theorem dX0_moodBehind_4 : decode cX0_moodBehind 4 = .ok (.iload_n 1, 1) := by decide +kernel
theorem dX0_moodBehind_5 : decode cX0_moodBehind 5 = .ok (.iaload, 1) := by decide +kernel
theorem dX0_moodBehind_6 : decode cX0_moodBehind 6 = .ok (.iconst 3, 1) := by decide +kernel
theorem dX0_moodBehind_7 : decode cX0_moodBehind 7 = .ok (.if_icmp .ne 14, 3) := by decide +kernel
theorem dX0_moodBehind_10 : decode cX0_moodBehind 10 = .ok (.iload_n 2, 1) := by decide +kernel
theorem dX0_moodBehind_11 : decode cX0_moodBehind 11 = .ok (.aload_n 0, 1) := by decide +kernel
theorem dX0_moodBehind_12 : decode cX0_moodBehind 12 = .ok (.getfield 15, 3) := by decide +kernel
theorem dX0_moodBehind_15 : decode cX0_moodBehind 15 = .ok (.iload_n 1, 1) := by decide +kernel
theorem dX0_moodBehind_16 : decode cX0_moodBehind 16 = .ok (.iaload, 1) := by decide +kernel
theorem dX0_moodBehind_17 : decode cX0_moodBehind 17 = .ok (.isub, 1) := by decide +kernel
theorem dX0_moodBehind_18 : decode cX0_moodBehind 18 = .ok (.goto 11, 3) := by decide +kernel
theorem dX0_moodBehind_21 : decode cX0_moodBehind 21 = .ok (.iload_n 2, 1) := by decide +kernel
theorem dX0_moodBehind_22 : decode cX0_moodBehind 22 = .ok (.aload_n 0, 1) := by decide +kernel
theorem dX0_moodBehind_23 : decode cX0_moodBehind 23 = .ok (.getfield 15, 3) := by decide +kernel
theorem dX0_moodBehind_26 : decode cX0_moodBehind 26 = .ok (.iload_n 1, 1) := by decide +kernel
theorem dX0_moodBehind_27 : decode cX0_moodBehind 27 = .ok (.iaload, 1) := by decide +kernel
theorem dX0_moodBehind_28 : decode cX0_moodBehind 28 = .ok (.iadd, 1) := by decide +kernel
theorem dX0_moodBehind_29 : decode cX0_moodBehind 29 = .ok (.invokestatic 48, 3) := by decide +kernel
theorem dX0_moodBehind_32 : decode cX0_moodBehind 32 = .ok (.ireturn, 1) := by decide +kernel
set_option maxRecDepth 20000 in
theorem ggX1_init_X0_init : GoodIn wsX1_init wsX0_init := goodIn_r _ [18, 19, 2, 3, 8, 20, 21, 22, 23, 24, 25, 26, 27, 28, 29] (by decide +kernel) (by decide +kernel)
set_option maxRecDepth 20000 in
theorem gX1_init_X0_init_n11 : GoodIn wsX1_init (wsX0_init) := ggX1_init_X0_init
theorem dX1_init_0 : decode cX1_init 0 = .ok (.aload_n 0, 1) := by decide +kernel
theorem dX1_init_1 : decode cX1_init 1 = .ok (.invokespecial 3, 3) := by decide +kernel
theorem dX1_init_4 : decode cX1_init 4 = .ok (.aload_n 0, 1) := by decide +kernel
theorem dX1_init_5 : decode cX1_init 5 = .ok (.new 9, 3) := by decide +kernel
theorem dX1_init_8 : decode cX1_init 8 = .ok (.dup, 1) := by decide +kernel
theorem dX1_init_9 : decode cX1_init 9 = .ok (.invokespecial 11, 3) := by decide +kernel
theorem dX1_init_12 : decode cX1_init 12 = .ok (.putfield 12, 3) := by decide +kernel
theorem dX1_init_15 : decode cX1_init 15 = .ok (.aload_n 0, 1) := by decide +kernel
theorem dX1_init_16 : decode cX1_init 16 = .ok (.bipush 6, 2) := by decide +kernel
theorem dX1_init_18 : decode cX1_init 18 = .ok (.newarray .int, 2) := by decide +kernel
theorem dX1_init_20 : decode cX1_init 20 = .ok (.putfield 18, 3) := by decide +kernel
theorem dX1_init_23 : decode cX1_init 23 = .ok (.aload_n 0, 1) := by decide +kernel
theorem dX1_init_24 : decode cX1_init 24 = .ok (.iconst 5, 1) := by decide +kernel
theorem dX1_init_25 : decode cX1_init 25 = .ok (.newarray .int, 2) := by decide +kernel
theorem dX1_init_27 : decode cX1_init 27 = .ok (.putfield 22, 3) := by decide +kernel
theorem dX1_init_30 : decode cX1_init 30 = .ok (.aload_n 0, 1) := by decide +kernel
theorem dX1_init_31 : decode cX1_init 31 = .ok (.iconst 5, 1) := by decide +kernel
theorem dX1_init_32 : decode cX1_init 32 = .ok (.newarray .int, 2) := by decide +kernel
theorem dX1_init_34 : decode cX1_init 34 = .ok (.putfield 25, 3) := by decide +kernel
theorem dX1_init_37 : decode cX1_init 37 = .ok (.aload_n 0, 1) := by decide +kernel
theorem dX1_init_38 : decode cX1_init 38 = .ok (.iconst 0, 1) := by decide +kernel
theorem dX1_init_39 : decode cX1_init 39 = .ok (.putfield 28, 3) := by decide +kernel
theorem dX1_init_42 : decode cX1_init 42 = .ok (.aload_n 0, 1) := by decide +kernel
theorem dX1_init_43 : decode cX1_init 43 = .ok (.iconst 0, 1) := by decide +kernel
theorem dX1_init_44 : decode cX1_init 44 = .ok (.putfield 32, 3) := by decide +kernel
theorem dX1_init_47 : decode cX1_init 47 = .ok (.aload_n 0, 1) := by decide +kernel
theorem dX1_init_48 : decode cX1_init 48 = .ok (.bipush 9, 2) := by decide +kernel
theorem dX1_init_50 : decode cX1_init 50 = .ok (.putfield 35, 3) := by decide +kernel
theorem dX1_init_53 : decode cX1_init 53 = .ok (.aload_n 0, 1) := by decide +kernel
theorem dX1_init_54 : decode cX1_init 54 = .ok (.iconst 0, 1) := by decide +kernel
theorem dX1_init_55 : decode cX1_init 55 = .ok (.putfield 38, 3) := by decide +kernel
theorem dX1_init_58 : decode cX1_init 58 = .ok (.aload_n 0, 1) := by decide +kernel
theorem dX1_init_59 : decode cX1_init 59 = .ok (.iconst 0, 1) := by decide +kernel
theorem dX1_init_60 : decode cX1_init 60 = .ok (.putfield 41, 3) := by decide +kernel
theorem dX1_init_63 : decode cX1_init 63 = .ok (.return_, 1) := by decide +kernel
set_option maxRecDepth 20000 in
theorem ggX1_observe_X0_become : GoodIn wsX1_observe wsX0_become := goodIn_r _ [13, 14, 15, 16, 17, 18, 40, 41, 42, 43, 44] (by decide +kernel) (by decide +kernel)
set_option maxRecDepth 20000 in
theorem gX1_observe_X0_become_n47 : GoodIn wsX1_observe (wsX0_become) := ggX1_observe_X0_become
theorem dX1_observe_0 : decode cX1_observe 0 = .ok (.aload_n 0, 1) := by decide +kernel
theorem dX1_observe_1 : decode cX1_observe 1 = .ok (.getfield 12, 3) := by decide +kernel
theorem dX1_observe_4 : decode cX1_observe 4 = .ok (.aload_n 1, 1) := by decide +kernel
theorem dX1_observe_5 : decode cX1_observe 5 = .ok (.getfield 44, 3) := by decide +kernel
theorem dX1_observe_8 : decode cX1_observe 8 = .ok (.invokevirtual 47, 3) := by decide +kernel
theorem dX1_observe_11 : decode cX1_observe 11 = .ok (.aload_n 1, 1) := by decide +kernel
theorem dX1_observe_12 : decode cX1_observe 12 = .ok (.getfield 51, 3) := by decide +kernel
theorem dX1_observe_15 : decode cX1_observe 15 = .ok (.iconst 0, 1) := by decide +kernel
theorem dX1_observe_16 : decode cX1_observe 16 = .ok (.aload_n 0, 1) := by decide +kernel
theorem dX1_observe_17 : decode cX1_observe 17 = .ok (.getfield 18, 3) := by decide +kernel
theorem dX1_observe_20 : decode cX1_observe 20 = .ok (.iconst 0, 1) := by decide +kernel
theorem dX1_observe_21 : decode cX1_observe 21 = .ok (.bipush 6, 2) := by decide +kernel
theorem dX1_observe_23 : decode cX1_observe 23 = .ok (.invokestatic 54, 3) := by decide +kernel
theorem dX1_observe_26 : decode cX1_observe 26 = .ok (.aload_n 0, 1) := by decide +kernel
theorem dX1_observe_27 : decode cX1_observe 27 = .ok (.aload_n 1, 1) := by decide +kernel
theorem dX1_observe_28 : decode cX1_observe 28 = .ok (.getfield 60, 3) := by decide +kernel
theorem dX1_observe_31 : decode cX1_observe 31 = .ok (.putfield 28, 3) := by decide +kernel
theorem dX1_observe_34 : decode cX1_observe 34 = .ok (.aload_n 0, 1) := by decide +kernel
theorem dX1_observe_35 : decode cX1_observe 35 = .ok (.aload_n 1, 1) := by decide +kernel
theorem dX1_observe_36 : decode cX1_observe 36 = .ok (.getfield 61, 3) := by decide +kernel
theorem dX1_observe_39 : decode cX1_observe 39 = .ok (.putfield 32, 3) := by decide +kernel
theorem dX1_observe_42 : decode cX1_observe 42 = .ok (.aload_n 0, 1) := by decide +kernel
theorem dX1_observe_43 : decode cX1_observe 43 = .ok (.aload_n 1, 1) := by decide +kernel
theorem dX1_observe_44 : decode cX1_observe 44 = .ok (.getfield 62, 3) := by decide +kernel
theorem dX1_observe_47 : decode cX1_observe 47 = .ok (.putfield 35, 3) := by decide +kernel
theorem dX1_observe_50 : decode cX1_observe 50 = .ok (.return_, 1) := by decide +kernel
set_option maxRecDepth 20000 in
theorem ggX1_mostIn_X1_tryHour : GoodIn wsX1_mostIn wsX1_tryHour := goodIn_r _ [13, 5, 6, 14, 15, 16, 17, 18, 19, 20, 12, 21, 22, 23, 24, 25, 26, 27, 28, 29, 30, 31, 32, 33, 34, 35, 36, 37, 38, 39, 2, 3, 4, 9, 10, 11, 40, 41, 42, 43, 44, 45, 46, 47, 48, 49, 50, 51, 52, 53, 54, 55, 56, 57, 58, 59, 60, 61, 62, 63, 64, 65, 66, 67, 68, 69, 70, 71, 72, 73, 74, 75, 76, 77, 78, 79, 80, 81, 82, 83, 84, 85, 86, 87] (by decide +kernel) (by decide +kernel)
set_option maxRecDepth 20000 in
theorem gX1_mostIn_X1_tryHour : GoodIn wsX1_mostIn (wsV RX1 69 RX1 yX1_tryHour wsX1_tryHour) := goodIn_app (goodIn_of _ (by decide +kernel)) ggX1_mostIn_X1_tryHour
theorem dX1_mostIn_0 : decode cX1_mostIn 0 = .ok (.aload_n 0, 1) := by decide +kernel
theorem dX1_mostIn_1 : decode cX1_mostIn 1 = .ok (.iload_n 1, 1) := by decide +kernel
theorem dX1_mostIn_2 : decode cX1_mostIn 2 = .ok (.iconst 5, 1) := by decide +kernel
theorem dX1_mostIn_3 : decode cX1_mostIn 3 = .ok (.invokestatic 63, 3) := by decide +kernel
theorem dX1_mostIn_6 : decode cX1_mostIn 6 = .ok (.putfield 38, 3) := by decide +kernel
theorem dX1_mostIn_9 : decode cX1_mostIn 9 = .ok (.aload_n 0, 1) := by decide +kernel
theorem dX1_mostIn_10 : decode cX1_mostIn 10 = .ok (.iconst (-1), 1) := by decide +kernel
theorem dX1_mostIn_11 : decode cX1_mostIn 11 = .ok (.putfield 41, 3) := by decide +kernel
theorem dX1_mostIn_14 : decode cX1_mostIn 14 = .ok (.aload_n 0, 1) := by decide +kernel
theorem dX1_mostIn_15 : decode cX1_mostIn 15 = .ok (.iconst 0, 1) := by decide +kernel
theorem dX1_mostIn_16 : decode cX1_mostIn 16 = .ok (.iload_n 2, 1) := by decide +kernel
theorem dX1_mostIn_17 : decode cX1_mostIn 17 = .ok (.aload_n 0, 1) := by decide +kernel
theorem dX1_mostIn_18 : decode cX1_mostIn 18 = .ok (.getfield 28, 3) := by decide +kernel
theorem dX1_mostIn_21 : decode cX1_mostIn 21 = .ok (.aload_n 0, 1) := by decide +kernel
theorem dX1_mostIn_22 : decode cX1_mostIn 22 = .ok (.getfield 35, 3) := by decide +kernel
theorem dX1_mostIn_25 : decode cX1_mostIn 25 = .ok (.iconst 0, 1) := by decide +kernel
theorem dX1_mostIn_26 : decode cX1_mostIn 26 = .ok (.invokevirtual 69, 3) := by decide +kernel
theorem dX1_mostIn_29 : decode cX1_mostIn 29 = .ok (.aload_n 0, 1) := by decide +kernel
theorem dX1_mostIn_30 : decode cX1_mostIn 30 = .ok (.getfield 41, 3) := by decide +kernel
theorem dX1_mostIn_33 : decode cX1_mostIn 33 = .ok (.ireturn, 1) := by decide +kernel
set_option maxRecDepth 20000 in
theorem ggX1_tryHour_X1_keep : GoodIn wsX1_tryHour wsX1_keep := goodIn_r _ [11, 2, 5, 12, 1, 13, 14, 15, 16, 70, 71, 72, 73, 74, 75, 76, 77, 78] (by decide +kernel) (by decide +kernel)
set_option maxRecDepth 20000 in
theorem gX1_tryHour_X1_keep : GoodIn wsX1_tryHour (wsV RX1 73 RX1 yX1_keep wsX1_keep) := goodIn_app (goodIn_of _ (by decide +kernel)) ggX1_tryHour_X1_keep
set_option maxRecDepth 20000 in
theorem ggX1_tryHour_X1_tryDrawing : GoodIn wsX1_tryHour wsX1_tryDrawing := goodIn_r _ [36, 3, 4, 5, 6, 37, 38, 39, 40, 41, 30, 31, 32, 42, 43, 44, 45, 46, 47, 48, 49, 50, 51, 52, 53, 54, 55, 56, 57, 58, 59, 60, 61, 62, 63, 64, 65, 66, 67, 21, 68, 29, 69, 20, 22, 23, 24, 25, 26, 27, 28, 33, 34, 35, 10, 0, 1, 2, 7, 8, 9, 11, 12, 13, 14, 15, 16, 17, 18, 19, 70, 71, 72, 73, 74, 75, 76, 77, 78, 79, 80, 81, 82, 83] (by decide +kernel) (by decide +kernel)
set_option maxRecDepth 20000 in
theorem gX1_tryHour_X1_tryDrawing : GoodIn wsX1_tryHour (wsV RX1 80 RX1 yX1_tryDrawing wsX1_tryDrawing) := goodIn_app (goodIn_of _ (by decide +kernel)) ggX1_tryHour_X1_tryDrawing
set_option maxRecDepth 20000 in
theorem ggX1_tryHour_X5_waned : GoodIn wsX1_tryHour wsX5_waned := goodIn_r _ [22, 23, 24, 25, 26] (by decide +kernel) (by decide +kernel)
set_option maxRecDepth 20000 in
theorem gX1_tryHour_X5_waned_n84 : GoodIn wsX1_tryHour (wsX5_waned) := ggX1_tryHour_X5_waned
set_option maxRecDepth 20000 in
theorem ggX1_tryHour_X5_rained : GoodIn wsX1_tryHour wsX5_rained := goodIn_r _ [28, 29, 30, 31, 32] (by decide +kernel) (by decide +kernel)
set_option maxRecDepth 20000 in
theorem gX1_tryHour_X5_rained_n88 : GoodIn wsX1_tryHour (wsX5_rained) := ggX1_tryHour_X5_rained
set_option maxRecDepth 20000 in
theorem ggX1_tryHour_X1_tryHour : GoodIn wsX1_tryHour wsX1_tryHour := goodIn_r _ [0, 1, 2, 3, 4, 5, 6, 7, 8, 9, 10, 11, 12, 13, 14, 15, 16, 17, 18, 19, 20, 21, 22, 23, 24, 25, 26, 27, 28, 29, 30, 31, 32, 33, 34, 35, 36, 37, 38, 39, 40, 41, 42, 43, 44, 45, 46, 47, 48, 49, 50, 51, 52, 53, 54, 55, 56, 57, 58, 59, 60, 61, 62, 63, 64, 65, 66, 67, 68, 69, 70, 71, 72, 73, 74, 75, 76, 77, 78, 79, 80, 81, 82, 83] (by decide +kernel) (by decide +kernel)
set_option maxRecDepth 20000 in
theorem gX1_tryHour_X1_tryHour : GoodIn wsX1_tryHour (wsV RX1 69 RX1 yX1_tryHour wsX1_tryHour) := goodIn_app (goodIn_of _ (by decide +kernel)) ggX1_tryHour_X1_tryHour
theorem dX1_tryHour_0 : decode cX1_tryHour 0 = .ok (.iload_n 1, 1) := by decide +kernel
theorem dX1_tryHour_1 : decode cX1_tryHour 1 = .ok (.aload_n 0, 1) := by decide +kernel
theorem dX1_tryHour_2 : decode cX1_tryHour 2 = .ok (.getfield 38, 3) := by decide +kernel
theorem dX1_tryHour_5 : decode cX1_tryHour 5 = .ok (.if_icmp .lt 10, 3) := by decide +kernel
theorem dX1_tryHour_8 : decode cX1_tryHour 8 = .ok (.aload_n 0, 1) := by decide +kernel
theorem dX1_tryHour_9 : decode cX1_tryHour 9 = .ok (.iload 5, 2) := by decide +kernel
theorem dX1_tryHour_11 : decode cX1_tryHour 11 = .ok (.invokevirtual 73, 3) := by decide +kernel
theorem dX1_tryHour_14 : decode cX1_tryHour 14 = .ok (.return_, 1) := by decide +kernel
theorem dX1_tryHour_15 : decode cX1_tryHour 15 = .ok (.iload 5, 2) := by decide +kernel
theorem dX1_tryHour_17 : decode cX1_tryHour 17 = .ok (.aload_n 0, 1) := by decide +kernel
theorem dX1_tryHour_18 : decode cX1_tryHour 18 = .ok (.getfield 38, 3) := by decide +kernel
theorem dX1_tryHour_21 : decode cX1_tryHour 21 = .ok (.iload_n 1, 1) := by decide +kernel
theorem dX1_tryHour_22 : decode cX1_tryHour 22 = .ok (.isub, 1) := by decide +kernel
theorem dX1_tryHour_23 : decode cX1_tryHour 23 = .ok (.bipush 9, 2) := by decide +kernel
theorem dX1_tryHour_25 : decode cX1_tryHour 25 = .ok (.imul, 1) := by decide +kernel
theorem dX1_tryHour_26 : decode cX1_tryHour 26 = .ok (.iadd, 1) := by decide +kernel
theorem dX1_tryHour_27 : decode cX1_tryHour 27 = .ok (.aload_n 0, 1) := by decide +kernel
theorem dX1_tryHour_28 : decode cX1_tryHour 28 = .ok (.getfield 41, 3) := by decide +kernel
theorem dX1_tryHour_31 : decode cX1_tryHour 31 = .ok (.if_icmp .gt 4, 3) := by decide +kernel
theorem dX1_tryHour_34 : decode cX1_tryHour 34 = .ok (.return_, 1) := by decide +kernel
theorem dX1_tryHour_35 : decode cX1_tryHour 35 = .ok (.iconst 0, 1) := by decide +kernel
theorem dX1_tryHour_36 : decode cX1_tryHour 36 = .ok (.istore 6, 2) := by decide +kernel
theorem dX1_tryHour_38 : decode cX1_tryHour 38 = .ok (.iload 6, 2) := by decide +kernel
theorem dX1_tryHour_40 : decode cX1_tryHour 40 = .ok (.aload_n 0, 1) := by decide +kernel
theorem dX1_tryHour_41 : decode cX1_tryHour 41 = .ok (.getfield 12, 3) := by decide +kernel
theorem dX1_tryHour_44 : decode cX1_tryHour 44 = .ok (.getfield 77, 3) := by decide +kernel
theorem dX1_tryHour_47 : decode cX1_tryHour 47 = .ok (.if_icmp .ge 33, 3) := by decide +kernel
theorem dX1_tryHour_50 : decode cX1_tryHour 50 = .ok (.aload_n 0, 1) := by decide +kernel
theorem dX1_tryHour_51 : decode cX1_tryHour 51 = .ok (.getfield 18, 3) := by decide +kernel
theorem dX1_tryHour_54 : decode cX1_tryHour 54 = .ok (.iload 6, 2) := by decide +kernel
theorem dX1_tryHour_56 : decode cX1_tryHour 56 = .ok (.iaload, 1) := by decide +kernel
theorem dX1_tryHour_57 : decode cX1_tryHour 57 = .ok (.iload_n 1, 1) := by decide +kernel
theorem dX1_tryHour_58 : decode cX1_tryHour 58 = .ok (.if_icmp .gt 16, 3) := by decide +kernel
theorem dX1_tryHour_61 : decode cX1_tryHour 61 = .ok (.aload_n 0, 1) := by decide +kernel
theorem dX1_tryHour_62 : decode cX1_tryHour 62 = .ok (.iload 6, 2) := by decide +kernel
theorem dX1_tryHour_64 : decode cX1_tryHour 64 = .ok (.iload_n 1, 1) := by decide +kernel
theorem dX1_tryHour_65 : decode cX1_tryHour 65 = .ok (.iload_n 2, 1) := by decide +kernel
theorem dX1_tryHour_66 : decode cX1_tryHour 66 = .ok (.iload_n 3, 1) := by decide +kernel
theorem dX1_tryHour_67 : decode cX1_tryHour 67 = .ok (.iload 4, 2) := by decide +kernel
theorem dX1_tryHour_69 : decode cX1_tryHour 69 = .ok (.iload 5, 2) := by decide +kernel
theorem dX1_tryHour_71 : decode cX1_tryHour 71 = .ok (.invokevirtual 80, 3) := by decide +kernel
theorem dX1_tryHour_74 : decode cX1_tryHour 74 = .ok (.iinc 6 1, 3) := by decide +kernel
theorem dX1_tryHour_77 : decode cX1_tryHour 77 = .ok (.goto (-39), 3) := by decide +kernel
theorem dX1_tryHour_80 : decode cX1_tryHour 80 = .ok (.aload_n 0, 1) := by decide +kernel
theorem dX1_tryHour_81 : decode cX1_tryHour 81 = .ok (.getfield 22, 3) := by decide +kernel
theorem dX1_tryHour_84 : decode cX1_tryHour 84 = .ok (.iload_n 1, 1) := by decide +kernel
theorem dX1_tryHour_85 : decode cX1_tryHour 85 = .ok (.bipush 9, 2) := by decide +kernel
theorem dX1_tryHour_87 : decode cX1_tryHour 87 = .ok (.iastore, 1) := by decide +kernel
theorem dX1_tryHour_88 : decode cX1_tryHour 88 = .ok (.aload_n 0, 1) := by decide +kernel
theorem dX1_tryHour_89 : decode cX1_tryHour 89 = .ok (.iload_n 1, 1) := by decide +kernel
theorem dX1_tryHour_90 : decode cX1_tryHour 90 = .ok (.iconst 1, 1) := by decide +kernel
theorem dX1_tryHour_91 : decode cX1_tryHour 91 = .ok (.iadd, 1) := by decide +kernel
theorem dX1_tryHour_92 : decode cX1_tryHour 92 = .ok (.iload_n 2, 1) := by decide +kernel
theorem dX1_tryHour_93 : decode cX1_tryHour 93 = .ok (.invokestatic 84, 3) := by decide +kernel
theorem dX1_tryHour_96 : decode cX1_tryHour 96 = .ok (.iload_n 3, 1) := by decide +kernel
theorem dX1_tryHour_97 : decode cX1_tryHour 97 = .ok (.aload_n 0, 1) := by decide +kernel
theorem dX1_tryHour_98 : decode cX1_tryHour 98 = .ok (.getfield 32, 3) := by decide +kernel
theorem dX1_tryHour_101 : decode cX1_tryHour 101 = .ok (.invokestatic 88, 3) := by decide +kernel
theorem dX1_tryHour_104 : decode cX1_tryHour 104 = .ok (.bipush 9, 2) := by decide +kernel
theorem dX1_tryHour_106 : decode cX1_tryHour 106 = .ok (.iload 5, 2) := by decide +kernel
theorem dX1_tryHour_108 : decode cX1_tryHour 108 = .ok (.invokevirtual 69, 3) := by decide +kernel
theorem dX1_tryHour_111 : decode cX1_tryHour 111 = .ok (.return_, 1) := by decide +kernel
set_option maxRecDepth 20000 in
theorem ggX1_tryDrawing_X0_pailsBehind : GoodIn wsX1_tryDrawing wsX0_pailsBehind := goodIn_r _ [8, 9, 10, 11, 12, 13, 14, 15, 6, 16, 17, 18, 19, 20, 21, 22, 23, 24, 25, 26, 27, 28, 29, 30, 79, 80, 81, 82, 83] (by decide +kernel) (by decide +kernel)
set_option maxRecDepth 20000 in
theorem gX1_tryDrawing_X0_pailsBehind_n91 : GoodIn wsX1_tryDrawing (wsX0_pailsBehind) := ggX1_tryDrawing_X0_pailsBehind
set_option maxRecDepth 20000 in
theorem ggX1_tryDrawing_X0_isSweet : GoodIn wsX1_tryDrawing wsX0_isSweet := goodIn_r _ [33, 27, 79, 80, 81, 82, 83] (by decide +kernel) (by decide +kernel)
set_option maxRecDepth 20000 in
theorem gX1_tryDrawing_X0_isSweet_n95 : GoodIn wsX1_tryDrawing (wsX0_isSweet) := ggX1_tryDrawing_X0_isSweet
set_option maxRecDepth 20000 in
theorem ggX1_tryDrawing_X0_moodBehind : GoodIn wsX1_tryDrawing wsX0_moodBehind := goodIn_r _ [36, 27, 37, 38, 39, 40, 41, 10, 11, 12, 42, 29, 30, 79, 80, 81, 82, 83] (by decide +kernel) (by decide +kernel)
set_option maxRecDepth 20000 in
theorem gX1_tryDrawing_X0_moodBehind_n102 : GoodIn wsX1_tryDrawing (wsX0_moodBehind) := ggX1_tryDrawing_X0_moodBehind
set_option maxRecDepth 20000 in
theorem ggX1_tryDrawing_X5_waned : GoodIn wsX1_tryDrawing wsX5_waned := goodIn_r _ [44, 45, 46, 47, 48] (by decide +kernel) (by decide +kernel)
set_option maxRecDepth 20000 in
theorem gX1_tryDrawing_X5_waned_n84 : GoodIn wsX1_tryDrawing (wsX5_waned) := ggX1_tryDrawing_X5_waned
set_option maxRecDepth 20000 in
theorem ggX1_tryDrawing_X5_rained : GoodIn wsX1_tryDrawing wsX5_rained := goodIn_r _ [50, 41, 10, 11, 12] (by decide +kernel) (by decide +kernel)
set_option maxRecDepth 20000 in
theorem gX1_tryDrawing_X5_rained_n88 : GoodIn wsX1_tryDrawing (wsX5_rained) := ggX1_tryDrawing_X5_rained
set_option maxRecDepth 20000 in
theorem ggX1_tryDrawing_X1_tryHour : GoodIn wsX1_tryDrawing wsX1_tryHour := goodIn_r _ [55, 56, 57, 1, 2, 3, 4, 58, 59, 60, 54, 61, 62, 63, 64, 65, 66, 67, 68, 69, 43, 39, 44, 45, 46, 47, 48, 49, 50, 41, 10, 11, 12, 51, 52, 53, 0, 5, 6, 7, 8, 9, 13, 14, 15, 16, 17, 18, 19, 20, 21, 22, 23, 24, 25, 26, 27, 28, 29, 30, 31, 32, 33, 34, 35, 36, 37, 38, 40, 42, 70, 71, 72, 73, 74, 75, 76, 77, 78, 79, 80, 81, 82, 83] (by decide +kernel) (by decide +kernel)
set_option maxRecDepth 20000 in
theorem gX1_tryDrawing_X1_tryHour : GoodIn wsX1_tryDrawing (wsV RX1 69 RX1 yX1_tryHour wsX1_tryHour) := goodIn_app (goodIn_of _ (by decide +kernel)) ggX1_tryDrawing_X1_tryHour
theorem dX1_tryDrawing_0 : decode cX1_tryDrawing 0 = .ok (.aload_n 0, 1) := by decide +kernel
theorem dX1_tryDrawing_1 : decode cX1_tryDrawing 1 = .ok (.getfield 12, 3) := by decide +kernel
theorem dX1_tryDrawing_4 : decode cX1_tryDrawing 4 = .ok (.iload 5, 2) := by decide +kernel
theorem dX1_tryDrawing_6 : decode cX1_tryDrawing 6 = .ok (.iload_n 1, 1) := by decide +kernel
theorem dX1_tryDrawing_7 : decode cX1_tryDrawing 7 = .ok (.iload_n 3, 1) := by decide +kernel
theorem dX1_tryDrawing_8 : decode cX1_tryDrawing 8 = .ok (.iload 4, 2) := by decide +kernel
theorem dX1_tryDrawing_10 : decode cX1_tryDrawing 10 = .ok (.invokevirtual 91, 3) := by decide +kernel
theorem dX1_tryDrawing_13 : decode cX1_tryDrawing 13 = .ok (.istore 7, 2) := by decide +kernel
theorem dX1_tryDrawing_15 : decode cX1_tryDrawing 15 = .ok (.aload_n 0, 1) := by decide +kernel
theorem dX1_tryDrawing_16 : decode cX1_tryDrawing 16 = .ok (.getfield 12, 3) := by decide +kernel
theorem dX1_tryDrawing_19 : decode cX1_tryDrawing 19 = .ok (.iload_n 1, 1) := by decide +kernel
theorem dX1_tryDrawing_20 : decode cX1_tryDrawing 20 = .ok (.iload_n 3, 1) := by decide +kernel
theorem dX1_tryDrawing_21 : decode cX1_tryDrawing 21 = .ok (.invokevirtual 95, 3) := by decide +kernel
theorem dX1_tryDrawing_24 : decode cX1_tryDrawing 24 = .ok (.ifCond .eq 8, 3) := by decide +kernel
theorem dX1_tryDrawing_27 : decode cX1_tryDrawing 27 = .ok (.iload 7, 2) := by decide +kernel
theorem dX1_tryDrawing_29 : decode cX1_tryDrawing 29 = .ok (.goto 4, 3) := by decide +kernel
theorem dX1_tryDrawing_32 : decode cX1_tryDrawing 32 = .ok (.iconst 0, 1) := by decide +kernel
theorem dX1_tryDrawing_33 : decode cX1_tryDrawing 33 = .ok (.istore 8, 2) := by decide +kernel
theorem dX1_tryDrawing_35 : decode cX1_tryDrawing 35 = .ok (.aload_n 0, 1) := by decide +kernel
theorem dX1_tryDrawing_36 : decode cX1_tryDrawing 36 = .ok (.getfield 18, 3) := by decide +kernel
theorem dX1_tryDrawing_39 : decode cX1_tryDrawing 39 = .ok (.iload_n 1, 1) := by decide +kernel
theorem dX1_tryDrawing_40 : decode cX1_tryDrawing 40 = .ok (.iaload, 1) := by decide +kernel
theorem dX1_tryDrawing_41 : decode cX1_tryDrawing 41 = .ok (.istore 9, 2) := by decide +kernel
theorem dX1_tryDrawing_43 : decode cX1_tryDrawing 43 = .ok (.aload_n 0, 1) := by decide +kernel
theorem dX1_tryDrawing_44 : decode cX1_tryDrawing 44 = .ok (.getfield 22, 3) := by decide +kernel
theorem dX1_tryDrawing_47 : decode cX1_tryDrawing 47 = .ok (.iload_n 2, 1) := by decide +kernel
theorem dX1_tryDrawing_48 : decode cX1_tryDrawing 48 = .ok (.iload_n 1, 1) := by decide +kernel
theorem dX1_tryDrawing_49 : decode cX1_tryDrawing 49 = .ok (.iastore, 1) := by decide +kernel
theorem dX1_tryDrawing_50 : decode cX1_tryDrawing 50 = .ok (.aload_n 0, 1) := by decide +kernel
theorem dX1_tryDrawing_51 : decode cX1_tryDrawing 51 = .ok (.getfield 18, 3) := by decide +kernel
theorem dX1_tryDrawing_54 : decode cX1_tryDrawing 54 = .ok (.iload_n 1, 1) := by decide +kernel
theorem dX1_tryDrawing_55 : decode cX1_tryDrawing 55 = .ok (.iload_n 2, 1) := by decide +kernel
theorem dX1_tryDrawing_56 : decode cX1_tryDrawing 56 = .ok (.aload_n 0, 1) := by decide +kernel
theorem dX1_tryDrawing_57 : decode cX1_tryDrawing 57 = .ok (.getfield 12, 3) := by decide +kernel
theorem dX1_tryDrawing_60 : decode cX1_tryDrawing 60 = .ok (.getfield 99, 3) := by decide +kernel
theorem dX1_tryDrawing_63 : decode cX1_tryDrawing 63 = .ok (.iload_n 1, 1) := by decide +kernel
theorem dX1_tryDrawing_64 : decode cX1_tryDrawing 64 = .ok (.iaload, 1) := by decide +kernel
theorem dX1_tryDrawing_65 : decode cX1_tryDrawing 65 = .ok (.iadd, 1) := by decide +kernel
theorem dX1_tryDrawing_66 : decode cX1_tryDrawing 66 = .ok (.iastore, 1) := by decide +kernel
theorem dX1_tryDrawing_67 : decode cX1_tryDrawing 67 = .ok (.aload_n 0, 1) := by decide +kernel
theorem dX1_tryDrawing_68 : decode cX1_tryDrawing 68 = .ok (.iload_n 2, 1) := by decide +kernel
theorem dX1_tryDrawing_69 : decode cX1_tryDrawing 69 = .ok (.iconst 1, 1) := by decide +kernel
theorem dX1_tryDrawing_70 : decode cX1_tryDrawing 70 = .ok (.iadd, 1) := by decide +kernel
theorem dX1_tryDrawing_71 : decode cX1_tryDrawing 71 = .ok (.aload_n 0, 1) := by decide +kernel
theorem dX1_tryDrawing_72 : decode cX1_tryDrawing 72 = .ok (.getfield 12, 3) := by decide +kernel
theorem dX1_tryDrawing_75 : decode cX1_tryDrawing 75 = .ok (.iload_n 1, 1) := by decide +kernel
theorem dX1_tryDrawing_76 : decode cX1_tryDrawing 76 = .ok (.iload_n 3, 1) := by decide +kernel
theorem dX1_tryDrawing_77 : decode cX1_tryDrawing 77 = .ok (.invokevirtual 102, 3) := by decide +kernel
theorem dX1_tryDrawing_80 : decode cX1_tryDrawing 80 = .ok (.invokestatic 84, 3) := by decide +kernel
theorem dX1_tryDrawing_83 : decode cX1_tryDrawing 83 = .ok (.iload 4, 2) := by decide +kernel
theorem dX1_tryDrawing_85 : decode cX1_tryDrawing 85 = .ok (.iload 7, 2) := by decide +kernel
theorem dX1_tryDrawing_87 : decode cX1_tryDrawing 87 = .ok (.isub, 1) := by decide +kernel
theorem dX1_tryDrawing_88 : decode cX1_tryDrawing 88 = .ok (.aload_n 0, 1) := by decide +kernel
theorem dX1_tryDrawing_89 : decode cX1_tryDrawing 89 = .ok (.getfield 32, 3) := by decide +kernel
theorem dX1_tryDrawing_92 : decode cX1_tryDrawing 92 = .ok (.invokestatic 88, 3) := by decide +kernel
theorem dX1_tryDrawing_95 : decode cX1_tryDrawing 95 = .ok (.iload_n 1, 1) := by decide +kernel
theorem dX1_tryDrawing_96 : decode cX1_tryDrawing 96 = .ok (.iload 6, 2) := by decide +kernel
theorem dX1_tryDrawing_98 : decode cX1_tryDrawing 98 = .ok (.iload 8, 2) := by decide +kernel
theorem dX1_tryDrawing_100 : decode cX1_tryDrawing 100 = .ok (.iadd, 1) := by decide +kernel
theorem dX1_tryDrawing_101 : decode cX1_tryDrawing 101 = .ok (.invokevirtual 69, 3) := by decide +kernel
theorem dX1_tryDrawing_104 : decode cX1_tryDrawing 104 = .ok (.aload_n 0, 1) := by decide +kernel
theorem dX1_tryDrawing_105 : decode cX1_tryDrawing 105 = .ok (.getfield 18, 3) := by decide +kernel
theorem dX1_tryDrawing_108 : decode cX1_tryDrawing 108 = .ok (.iload_n 1, 1) := by decide +kernel
theorem dX1_tryDrawing_109 : decode cX1_tryDrawing 109 = .ok (.iload 9, 2) := by decide +kernel
theorem dX1_tryDrawing_111 : decode cX1_tryDrawing 111 = .ok (.iastore, 1) := by decide +kernel
theorem dX1_tryDrawing_112 : decode cX1_tryDrawing 112 = .ok (.return_, 1) := by decide +kernel
theorem dX1_keep_0 : decode cX1_keep 0 = .ok (.iload_n 1, 1) := by decide +kernel
theorem dX1_keep_1 : decode cX1_keep 1 = .ok (.aload_n 0, 1) := by decide +kernel
theorem dX1_keep_2 : decode cX1_keep 2 = .ok (.getfield 41, 3) := by decide +kernel
theorem dX1_keep_5 : decode cX1_keep 5 = .ok (.if_icmp .le 25, 3) := by decide +kernel
theorem dX1_keep_8 : decode cX1_keep 8 = .ok (.aload_n 0, 1) := by decide +kernel
theorem dX1_keep_9 : decode cX1_keep 9 = .ok (.iload_n 1, 1) := by decide +kernel
theorem dX1_keep_10 : decode cX1_keep 10 = .ok (.putfield 41, 3) := by decide +kernel
theorem dX1_keep_13 : decode cX1_keep 13 = .ok (.aload_n 0, 1) := by decide +kernel
theorem dX1_keep_14 : decode cX1_keep 14 = .ok (.getfield 22, 3) := by decide +kernel
theorem dX1_keep_17 : decode cX1_keep 17 = .ok (.iconst 0, 1) := by decide +kernel
theorem dX1_keep_18 : decode cX1_keep 18 = .ok (.aload_n 0, 1) := by decide +kernel
theorem dX1_keep_19 : decode cX1_keep 19 = .ok (.getfield 25, 3) := by decide +kernel
theorem dX1_keep_22 : decode cX1_keep 22 = .ok (.iconst 0, 1) := by decide +kernel
theorem dX1_keep_23 : decode cX1_keep 23 = .ok (.aload_n 0, 1) := by decide +kernel
theorem dX1_keep_24 : decode cX1_keep 24 = .ok (.getfield 38, 3) := by decide +kernel
theorem dX1_keep_27 : decode cX1_keep 27 = .ok (.invokestatic 54, 3) := by decide +kernel
theorem dX1_keep_30 : decode cX1_keep 30 = .ok (.return_, 1) := by decide +kernel
theorem dX2_init_0 : decode cX2_init 0 = .ok (.aload_n 0, 1) := by decide +kernel
theorem dX2_init_1 : decode cX2_init 1 = .ok (.invokespecial 3, 3) := by decide +kernel
theorem dX2_init_4 : decode cX2_init 4 = .ok (.aload_n 0, 1) := by decide +kernel
theorem dX2_init_5 : decode cX2_init 5 = .ok (.bipush 24, 2) := by decide +kernel
theorem dX2_init_7 : decode cX2_init 7 = .ok (.newarray .long, 2) := by decide +kernel
theorem dX2_init_9 : decode cX2_init 9 = .ok (.putfield 9, 3) := by decide +kernel
theorem dX2_init_12 : decode cX2_init 12 = .ok (.aload_n 0, 1) := by decide +kernel
theorem dX2_init_13 : decode cX2_init 13 = .ok (.iconst 0, 1) := by decide +kernel
theorem dX2_init_14 : decode cX2_init 14 = .ok (.putfield 15, 3) := by decide +kernel
theorem dX2_init_17 : decode cX2_init 17 = .ok (.aload_n 0, 1) := by decide +kernel
theorem dX2_init_18 : decode cX2_init 18 = .ok (.iconst 0, 1) := by decide +kernel
theorem dX2_init_19 : decode cX2_init 19 = .ok (.putfield 19, 3) := by decide +kernel
theorem dX2_init_22 : decode cX2_init 22 = .ok (.aload_n 0, 1) := by decide +kernel
theorem dX2_init_23 : decode cX2_init 23 = .ok (.iconst 0, 1) := by decide +kernel
theorem dX2_init_24 : decode cX2_init 24 = .ok (.putfield 23, 3) := by decide +kernel
theorem dX2_init_27 : decode cX2_init 27 = .ok (.return_, 1) := by decide +kernel
theorem dX2_begin_0 : decode cX2_begin 0 = .ok (.aload_n 0, 1) := by decide +kernel
theorem dX2_begin_1 : decode cX2_begin 1 = .ok (.iconst 1, 1) := by decide +kernel
theorem dX2_begin_2 : decode cX2_begin 2 = .ok (.putfield 15, 3) := by decide +kernel
theorem dX2_begin_5 : decode cX2_begin 5 = .ok (.aload_n 0, 1) := by decide +kernel
theorem dX2_begin_6 : decode cX2_begin 6 = .ok (.iload_n 1, 1) := by decide +kernel
theorem dX2_begin_7 : decode cX2_begin 7 = .ok (.putfield 19, 3) := by decide +kernel
theorem dX2_begin_10 : decode cX2_begin 10 = .ok (.aload_n 0, 1) := by decide +kernel
theorem dX2_begin_11 : decode cX2_begin 11 = .ok (.iload_n 2, 1) := by decide +kernel
theorem dX2_begin_12 : decode cX2_begin 12 = .ok (.putfield 23, 3) := by decide +kernel
theorem dX2_begin_15 : decode cX2_begin 15 = .ok (.iconst 0, 1) := by decide +kernel
theorem dX2_begin_16 : decode cX2_begin 16 = .ok (.istore_n 3, 1) := by decide +kernel
theorem dX2_begin_17 : decode cX2_begin 17 = .ok (.iload_n 3, 1) := by decide +kernel
theorem dX2_begin_18 : decode cX2_begin 18 = .ok (.bipush 24, 2) := by decide +kernel
theorem dX2_begin_20 : decode cX2_begin 20 = .ok (.if_icmp .ge 16, 3) := by decide +kernel
theorem dX2_begin_23 : decode cX2_begin 23 = .ok (.aload_n 0, 1) := by decide +kernel
theorem dX2_begin_24 : decode cX2_begin 24 = .ok (.getfield 9, 3) := by decide +kernel
theorem dX2_begin_27 : decode cX2_begin 27 = .ok (.iload_n 3, 1) := by decide +kernel
theorem dX2_begin_28 : decode cX2_begin 28 = .ok (.lconst 0, 1) := by decide +kernel
theorem dX2_begin_29 : decode cX2_begin 29 = .ok (.lastore, 1) := by decide +kernel
theorem dX2_begin_30 : decode cX2_begin 30 = .ok (.iinc 3 1, 3) := by decide +kernel
theorem dX2_begin_33 : decode cX2_begin 33 = .ok (.goto (-16), 3) := by decide +kernel
theorem dX2_begin_36 : decode cX2_begin 36 = .ok (.return_, 1) := by decide +kernel
theorem dX2_hasSpan_0 : decode cX2_hasSpan 0 = .ok (.iload_n 2, 1) := by decide +kernel
theorem dX2_hasSpan_1 : decode cX2_hasSpan 1 = .ok (.ifCond .lt 21, 3) := by decide +kernel
theorem dX2_hasSpan_4 : decode cX2_hasSpan 4 = .ok (.iload_n 1, 1) := by decide +kernel
theorem dX2_hasSpan_5 : decode cX2_hasSpan 5 = .ok (.ifCond .lt 17, 3) := by decide +kernel
theorem dX2_hasSpan_8 : decode cX2_hasSpan 8 = .ok (.iload_n 1, 1) := by decide +kernel
theorem dX2_hasSpan_9 : decode cX2_hasSpan 9 = .ok (.aload_n 0, 1) := by decide +kernel
theorem dX2_hasSpan_10 : decode cX2_hasSpan 10 = .ok (.getfield 23, 3) := by decide +kernel
theorem dX2_hasSpan_13 : decode cX2_hasSpan 13 = .ok (.iload_n 2, 1) := by decide +kernel
theorem dX2_hasSpan_14 : decode cX2_hasSpan 14 = .ok (.isub, 1) := by decide +kernel
theorem dX2_hasSpan_15 : decode cX2_hasSpan 15 = .ok (.if_icmp .gt 7, 3) := by decide +kernel
theorem dX2_hasSpan_18 : decode cX2_hasSpan 18 = .ok (.iconst 1, 1) := by decide +kernel
theorem dX2_hasSpan_19 : decode cX2_hasSpan 19 = .ok (.goto 4, 3) := by decide +kernel
theorem dX2_hasSpan_22 : decode cX2_hasSpan 22 = .ok (.iconst 0, 1) := by decide +kernel
theorem dX2_hasSpan_23 : decode cX2_hasSpan 23 = .ok (.ireturn, 1) := by decide +kernel
theorem dX2_put_0 : decode cX2_put 0 = .ok (.aload_n 0, 1) := by decide +kernel
theorem dX2_put_1 : decode cX2_put 1 = .ok (.getfield 19, 3) := by decide +kernel
theorem dX2_put_4 : decode cX2_put 4 = .ok (.ifCond .ne 16, 3) := by decide +kernel
theorem dX2_put_7 : decode cX2_put 7 = .ok (.aload_n 0, 1) := by decide +kernel
theorem dX2_put_8 : decode cX2_put 8 = .ok (.getfield 9, 3) := by decide +kernel
theorem dX2_put_11 : decode cX2_put 11 = .ok (.iload_n 1, 1) := by decide +kernel
theorem dX2_put_12 : decode cX2_put 12 = .ok (.lload_n 2, 1) := by decide +kernel
theorem dX2_put_13 : decode cX2_put 13 = .ok (.l2i, 1) := by decide +kernel
theorem dX2_put_14 : decode cX2_put 14 = .ok (.i2b, 1) := by decide +kernel
theorem dX2_put_15 : decode cX2_put 15 = .ok (.i2l, 1) := by decide +kernel
theorem dX2_put_16 : decode cX2_put 16 = .ok (.lastore, 1) := by decide +kernel
theorem dX2_put_17 : decode cX2_put 17 = .ok (.goto 31, 3) := by decide +kernel
theorem dX2_put_20 : decode cX2_put 20 = .ok (.aload_n 0, 1) := by decide +kernel
theorem dX2_put_21 : decode cX2_put 21 = .ok (.getfield 19, 3) := by decide +kernel
theorem dX2_put_24 : decode cX2_put 24 = .ok (.iconst 1, 1) := by decide +kernel
theorem dX2_put_25 : decode cX2_put 25 = .ok (.if_icmp .ne 16, 3) := by decide +kernel
theorem dX2_put_28 : decode cX2_put 28 = .ok (.aload_n 0, 1) := by decide +kernel
theorem dX2_put_29 : decode cX2_put 29 = .ok (.getfield 9, 3) := by decide +kernel
theorem dX2_put_32 : decode cX2_put 32 = .ok (.iload_n 1, 1) := by decide +kernel
theorem dX2_put_33 : decode cX2_put 33 = .ok (.lload_n 2, 1) := by decide +kernel
theorem dX2_put_34 : decode cX2_put 34 = .ok (.l2i, 1) := by decide +kernel
theorem dX2_put_35 : decode cX2_put 35 = .ok (.i2s, 1) := by decide +kernel
theorem dX2_put_36 : decode cX2_put 36 = .ok (.i2l, 1) := by decide +kernel
theorem dX2_put_37 : decode cX2_put 37 = .ok (.lastore, 1) := by decide +kernel
theorem dX2_put_38 : decode cX2_put 38 = .ok (.goto 10, 3) := by decide +kernel
theorem dX2_put_41 : decode cX2_put 41 = .ok (.aload_n 0, 1) := by decide +kernel
theorem dX2_put_42 : decode cX2_put 42 = .ok (.getfield 9, 3) := by decide +kernel
theorem dX2_put_45 : decode cX2_put 45 = .ok (.iload_n 1, 1) := by decide +kernel
theorem dX2_put_46 : decode cX2_put 46 = .ok (.lload_n 2, 1) := by decide +kernel
theorem dX2_put_47 : decode cX2_put 47 = .ok (.lastore, 1) := by decide +kernel
theorem dX2_put_48 : decode cX2_put 48 = .ok (.return_, 1) := by decide +kernel
theorem dX3_init_0 : decode cX3_init 0 = .ok (.aload_n 0, 1) := by decide +kernel
theorem dX3_init_1 : decode cX3_init 1 = .ok (.invokespecial 3, 3) := by decide +kernel
theorem dX3_init_4 : decode cX3_init 4 = .ok (.aload_n 0, 1) := by decide +kernel
theorem dX3_init_5 : decode cX3_init 5 = .ok (.bipush 60, 2) := by decide +kernel
theorem dX3_init_7 : decode cX3_init 7 = .ok (.newarray .byte, 2) := by decide +kernel
theorem dX3_init_9 : decode cX3_init 9 = .ok (.putfield 9, 3) := by decide +kernel
theorem dX3_init_12 : decode cX3_init 12 = .ok (.aload_n 0, 1) := by decide +kernel
theorem dX3_init_13 : decode cX3_init 13 = .ok (.iconst 0, 1) := by decide +kernel
theorem dX3_init_14 : decode cX3_init 14 = .ok (.putfield 15, 3) := by decide +kernel
theorem dX3_init_17 : decode cX3_init 17 = .ok (.aload_n 0, 1) := by decide +kernel
theorem dX3_init_18 : decode cX3_init 18 = .ok (.iconst 0, 1) := by decide +kernel
theorem dX3_init_19 : decode cX3_init 19 = .ok (.putfield 19, 3) := by decide +kernel
theorem dX3_init_22 : decode cX3_init 22 = .ok (.return_, 1) := by decide +kernel
theorem dX3_append_0 : decode cX3_append 0 = .ok (.aload_n 0, 1) := by decide +kernel
theorem dX3_append_1 : decode cX3_append 1 = .ok (.getfield 15, 3) := by decide +kernel
theorem dX3_append_4 : decode cX3_append 4 = .ok (.bipush 60, 2) := by decide +kernel
theorem dX3_append_6 : decode cX3_append 6 = .ok (.if_icmp .ge 24, 3) := by decide +kernel
theorem dX3_append_9 : decode cX3_append 9 = .ok (.aload_n 0, 1) := by decide +kernel
theorem dX3_append_10 : decode cX3_append 10 = .ok (.getfield 9, 3) := by decide +kernel
theorem dX3_append_13 : decode cX3_append 13 = .ok (.aload_n 0, 1) := by decide +kernel
theorem dX3_append_14 : decode cX3_append 14 = .ok (.getfield 15, 3) := by decide +kernel
theorem dX3_append_17 : decode cX3_append 17 = .ok (.iload_n 1, 1) := by decide +kernel
theorem dX3_append_18 : decode cX3_append 18 = .ok (.i2b, 1) := by decide +kernel
theorem dX3_append_19 : decode cX3_append 19 = .ok (.bastore, 1) := by decide +kernel
theorem dX3_append_20 : decode cX3_append 20 = .ok (.aload_n 0, 1) := by decide +kernel
theorem dX3_append_21 : decode cX3_append 21 = .ok (.dup, 1) := by decide +kernel
theorem dX3_append_22 : decode cX3_append 22 = .ok (.getfield 15, 3) := by decide +kernel
theorem dX3_append_25 : decode cX3_append 25 = .ok (.iconst 1, 1) := by decide +kernel
theorem dX3_append_26 : decode cX3_append 26 = .ok (.iadd, 1) := by decide +kernel
theorem dX3_append_27 : decode cX3_append 27 = .ok (.putfield 15, 3) := by decide +kernel
theorem dX3_append_30 : decode cX3_append 30 = .ok (.return_, 1) := by decide +kernel
theorem dX3_fault_0 : decode cX3_fault 0 = .ok (.bipush (-20), 2) := by decide +kernel
theorem dX3_fault_2 : decode cX3_fault 2 = .ok (.aload_n 0, 1) := by decide +kernel
theorem dX3_fault_3 : decode cX3_fault 3 = .ok (.getfield 19, 3) := by decide +kernel
theorem dX3_fault_6 : decode cX3_fault 6 = .ok (.isub, 1) := by decide +kernel
theorem dX3_fault_7 : decode cX3_fault 7 = .ok (.ireturn, 1) := by decide +kernel
theorem dX3_next_0 : decode cX3_next 0 = .ok (.aload_n 0, 1) := by decide +kernel
theorem dX3_next_1 : decode cX3_next 1 = .ok (.getfield 19, 3) := by decide +kernel
theorem dX3_next_4 : decode cX3_next 4 = .ok (.aload_n 0, 1) := by decide +kernel
theorem dX3_next_5 : decode cX3_next 5 = .ok (.getfield 15, 3) := by decide +kernel
theorem dX3_next_8 : decode cX3_next 8 = .ok (.if_icmp .ge 30, 3) := by decide +kernel
theorem dX3_next_11 : decode cX3_next 11 = .ok (.aload_n 0, 1) := by decide +kernel
theorem dX3_next_12 : decode cX3_next 12 = .ok (.getfield 9, 3) := by decide +kernel
theorem dX3_next_15 : decode cX3_next 15 = .ok (.aload_n 0, 1) := by decide +kernel
theorem dX3_next_16 : decode cX3_next 16 = .ok (.getfield 19, 3) := by decide +kernel
theorem dX3_next_19 : decode cX3_next 19 = .ok (.baload, 1) := by decide +kernel
theorem dX3_next_20 : decode cX3_next 20 = .ok (.bipush 32, 2) := by decide +kernel
theorem dX3_next_22 : decode cX3_next 22 = .ok (.if_icmp .ne 16, 3) := by decide +kernel
theorem dX3_next_25 : decode cX3_next 25 = .ok (.aload_n 0, 1) := by decide +kernel
theorem dX3_next_26 : decode cX3_next 26 = .ok (.dup, 1) := by decide +kernel
theorem dX3_next_27 : decode cX3_next 27 = .ok (.getfield 19, 3) := by decide +kernel
theorem dX3_next_30 : decode cX3_next 30 = .ok (.iconst 1, 1) := by decide +kernel
theorem dX3_next_31 : decode cX3_next 31 = .ok (.iadd, 1) := by decide +kernel
theorem dX3_next_32 : decode cX3_next 32 = .ok (.putfield 19, 3) := by decide +kernel
theorem dX3_next_35 : decode cX3_next 35 = .ok (.goto (-35), 3) := by decide +kernel
theorem dX3_next_38 : decode cX3_next 38 = .ok (.aload_n 0, 1) := by decide +kernel
theorem dX3_next_39 : decode cX3_next 39 = .ok (.getfield 19, 3) := by decide +kernel
theorem dX3_next_42 : decode cX3_next 42 = .ok (.aload_n 0, 1) := by decide +kernel
theorem dX3_next_43 : decode cX3_next 43 = .ok (.getfield 15, 3) := by decide +kernel
theorem dX3_next_46 : decode cX3_next 46 = .ok (.if_icmp .ge 15, 3) := by decide +kernel
theorem dX3_next_49 : decode cX3_next 49 = .ok (.aload_n 0, 1) := by decide +kernel
theorem dX3_next_50 : decode cX3_next 50 = .ok (.getfield 9, 3) := by decide +kernel
theorem dX3_next_53 : decode cX3_next 53 = .ok (.aload_n 0, 1) := by decide +kernel
theorem dX3_next_54 : decode cX3_next 54 = .ok (.getfield 19, 3) := by decide +kernel
theorem dX3_next_57 : decode cX3_next 57 = .ok (.baload, 1) := by decide +kernel
theorem dX3_next_58 : decode cX3_next 58 = .ok (.goto 4, 3) := by decide +kernel
theorem dX3_next_61 : decode cX3_next 61 = .ok (.iconst 0, 1) := by decide +kernel
theorem dX3_next_62 : decode cX3_next 62 = .ok (.ireturn, 1) := by decide +kernel
set_option maxRecDepth 20000 in
theorem ggX3_readFolk_X3_readOne : GoodIn wsX3_readFolk wsX3_readOne := goodIn_r _ [6, 1, 7, 8, 9, 5, 10, 11, 12, 13, 14, 15, 16, 17, 18, 19, 20, 21, 22, 23, 24, 25, 26, 27, 28, 29, 30, 31, 36, 37, 38, 39, 40, 41, 42, 43] (by decide +kernel) (by decide +kernel)
set_option maxRecDepth 20000 in
theorem gX3_readFolk_X3_readOne : GoodIn wsX3_readFolk (wsV RX3 27 RX3 yX3_readOne wsX3_readOne) := goodIn_app (goodIn_of _ (by decide +kernel)) ggX3_readFolk_X3_readOne
set_option maxRecDepth 20000 in
theorem ggX3_readFolk_X3_fault : GoodIn wsX3_readFolk wsX3_fault := goodIn_r _ [35, 1, 36, 37, 38] (by decide +kernel) (by decide +kernel)
set_option maxRecDepth 20000 in
theorem gX3_readFolk_X3_fault : GoodIn wsX3_readFolk (wsV RX3 31 RX3 yX3_fault wsX3_fault) := goodIn_app (goodIn_of _ (by decide +kernel)) ggX3_readFolk_X3_fault
set_option maxRecDepth 20000 in
theorem ggX3_readFolk_X3_next : GoodIn wsX3_readFolk wsX3_next := goodIn_r _ [10, 1, 11, 12, 36, 37, 38] (by decide +kernel) (by decide +kernel)
set_option maxRecDepth 20000 in
theorem gX3_readFolk_X3_next : GoodIn wsX3_readFolk (wsV RX3 35 RX3 yX3_next wsX3_next) := goodIn_app (goodIn_of _ (by decide +kernel)) ggX3_readFolk_X3_next
theorem dX3_readFolk_0 : decode cX3_readFolk 0 = .ok (.aload_n 0, 1) := by decide +kernel
theorem dX3_readFolk_1 : decode cX3_readFolk 1 = .ok (.iconst 0, 1) := by decide +kernel
theorem dX3_readFolk_2 : decode cX3_readFolk 2 = .ok (.putfield 19, 3) := by decide +kernel
theorem dX3_readFolk_5 : decode cX3_readFolk 5 = .ok (.aload_n 1, 1) := by decide +kernel
theorem dX3_readFolk_6 : decode cX3_readFolk 6 = .ok (.iconst 0, 1) := by decide +kernel
theorem dX3_readFolk_7 : decode cX3_readFolk 7 = .ok (.putfield 22, 3) := by decide +kernel
theorem dX3_readFolk_10 : decode cX3_readFolk 10 = .ok (.iconst 1, 1) := by decide +kernel
theorem dX3_readFolk_11 : decode cX3_readFolk 11 = .ok (.istore_n 2, 1) := by decide +kernel
theorem dX3_readFolk_12 : decode cX3_readFolk 12 = .ok (.iload_n 2, 1) := by decide +kernel
theorem dX3_readFolk_13 : decode cX3_readFolk 13 = .ok (.bipush 6, 2) := by decide +kernel
theorem dX3_readFolk_15 : decode cX3_readFolk 15 = .ok (.if_icmp .gt 60, 3) := by decide +kernel
theorem dX3_readFolk_18 : decode cX3_readFolk 18 = .ok (.aload_n 0, 1) := by decide +kernel
theorem dX3_readFolk_19 : decode cX3_readFolk 19 = .ok (.aload_n 1, 1) := by decide +kernel
theorem dX3_readFolk_20 : decode cX3_readFolk 20 = .ok (.invokevirtual 27, 3) := by decide +kernel
theorem dX3_readFolk_23 : decode cX3_readFolk 23 = .ok (.ifCond .ne 8, 3) := by decide +kernel
theorem dX3_readFolk_26 : decode cX3_readFolk 26 = .ok (.aload_n 0, 1) := by decide +kernel
theorem dX3_readFolk_27 : decode cX3_readFolk 27 = .ok (.invokevirtual 31, 3) := by decide +kernel
theorem dX3_readFolk_30 : decode cX3_readFolk 30 = .ok (.ireturn, 1) := by decide +kernel
theorem dX3_readFolk_31 : decode cX3_readFolk 31 = .ok (.aload_n 0, 1) := by decide +kernel
theorem dX3_readFolk_32 : decode cX3_readFolk 32 = .ok (.invokevirtual 35, 3) := by decide +kernel
theorem dX3_readFolk_35 : decode cX3_readFolk 35 = .ok (.istore_n 3, 1) := by decide +kernel
theorem dX3_readFolk_36 : decode cX3_readFolk 36 = .ok (.iload_n 3, 1) := by decide +kernel
theorem dX3_readFolk_37 : decode cX3_readFolk 37 = .ok (.ifCond .ne 5, 3) := by decide +kernel
theorem dX3_readFolk_40 : decode cX3_readFolk 40 = .ok (.iload_n 2, 1) := by decide +kernel
theorem dX3_readFolk_41 : decode cX3_readFolk 41 = .ok (.ireturn, 1) := by decide +kernel
theorem dX3_readFolk_42 : decode cX3_readFolk 42 = .ok (.iload_n 3, 1) := by decide +kernel
theorem dX3_readFolk_43 : decode cX3_readFolk 43 = .ok (.bipush 44, 2) := by decide +kernel
theorem dX3_readFolk_45 : decode cX3_readFolk 45 = .ok (.if_icmp .ne 9, 3) := by decide +kernel
theorem dX3_readFolk_48 : decode cX3_readFolk 48 = .ok (.iload_n 2, 1) := by decide +kernel
theorem dX3_readFolk_49 : decode cX3_readFolk 49 = .ok (.bipush 6, 2) := by decide +kernel
theorem dX3_readFolk_51 : decode cX3_readFolk 51 = .ok (.if_icmp .ne 8, 3) := by decide +kernel
theorem dX3_readFolk_54 : decode cX3_readFolk 54 = .ok (.aload_n 0, 1) := by decide +kernel
theorem dX3_readFolk_55 : decode cX3_readFolk 55 = .ok (.invokevirtual 31, 3) := by decide +kernel
theorem dX3_readFolk_58 : decode cX3_readFolk 58 = .ok (.ireturn, 1) := by decide +kernel
theorem dX3_readFolk_59 : decode cX3_readFolk 59 = .ok (.aload_n 0, 1) := by decide +kernel
theorem dX3_readFolk_60 : decode cX3_readFolk 60 = .ok (.dup, 1) := by decide +kernel
theorem dX3_readFolk_61 : decode cX3_readFolk 61 = .ok (.getfield 19, 3) := by decide +kernel
theorem dX3_readFolk_64 : decode cX3_readFolk 64 = .ok (.iconst 1, 1) := by decide +kernel
theorem dX3_readFolk_65 : decode cX3_readFolk 65 = .ok (.iadd, 1) := by decide +kernel
theorem dX3_readFolk_66 : decode cX3_readFolk 66 = .ok (.putfield 19, 3) := by decide +kernel
theorem dX3_readFolk_69 : decode cX3_readFolk 69 = .ok (.iinc 2 1, 3) := by decide +kernel
theorem dX3_readFolk_72 : decode cX3_readFolk 72 = .ok (.goto (-60), 3) := by decide +kernel
theorem dX3_readFolk_75 : decode cX3_readFolk 75 = .ok (.aload_n 0, 1) := by decide +kernel
theorem dX3_readFolk_76 : decode cX3_readFolk 76 = .ok (.invokevirtual 31, 3) := by decide +kernel
theorem dX3_readFolk_79 : decode cX3_readFolk 79 = .ok (.ireturn, 1) := by decide +kernel
set_option maxRecDepth 20000 in
theorem ggX3_readOne_X3_next : GoodIn wsX3_readOne wsX3_next := goodIn_r _ [6, 1, 7, 8, 28, 29, 30] (by decide +kernel) (by decide +kernel)
set_option maxRecDepth 20000 in
theorem gX3_readOne_X3_next : GoodIn wsX3_readOne (wsV RX3 35 RX3 yX3_next wsX3_next) := goodIn_app (goodIn_of _ (by decide +kernel)) ggX3_readOne_X3_next
set_option maxRecDepth 20000 in
theorem ggX3_readOne_X3_kindBy : GoodIn wsX3_readOne wsX3_kindBy := goodIn_r _ [11] (by decide +kernel) (by decide +kernel)
set_option maxRecDepth 20000 in
theorem gX3_readOne_X3_kindBy : GoodIn wsX3_readOne (va_wsS RX3 38 yX3_kindBy wsX3_kindBy) := goodIn_app (goodIn_of _ (by decide +kernel)) ggX3_readOne_X3_kindBy
set_option maxRecDepth 20000 in
theorem ggX3_readOne_X3_readDigit : GoodIn wsX3_readOne wsX3_readDigit := goodIn_r _ [15, 1, 2, 3, 4, 5, 6, 7, 8, 16, 17, 18, 28, 29, 30] (by decide +kernel) (by decide +kernel)
set_option maxRecDepth 20000 in
theorem gX3_readOne_X3_readDigit : GoodIn wsX3_readOne (wsV RX3 42 RX3 yX3_readDigit wsX3_readDigit) := goodIn_app (goodIn_of _ (by decide +kernel)) ggX3_readOne_X3_readDigit
set_option maxRecDepth 20000 in
theorem ggX3_readOne_X0_add : GoodIn wsX3_readOne wsX0_add := goodIn_r _ [22, 23, 24, 25, 26, 27, 31, 32, 33, 34, 35] (by decide +kernel) (by decide +kernel)
set_option maxRecDepth 20000 in
theorem gX3_readOne_X0_add_n46 : GoodIn wsX3_readOne (wsX0_add) := ggX3_readOne_X0_add
theorem dX3_readOne_0 : decode cX3_readOne 0 = .ok (.aload_n 0, 1) := by decide +kernel
theorem dX3_readOne_1 : decode cX3_readOne 1 = .ok (.invokevirtual 35, 3) := by decide +kernel
theorem dX3_readOne_4 : decode cX3_readOne 4 = .ok (.invokestatic 38, 3) := by decide +kernel
theorem dX3_readOne_7 : decode cX3_readOne 7 = .ok (.istore_n 2, 1) := by decide +kernel
theorem dX3_readOne_8 : decode cX3_readOne 8 = .ok (.iload_n 2, 1) := by decide +kernel
theorem dX3_readOne_9 : decode cX3_readOne 9 = .ok (.ifCond .ge 5, 3) := by decide +kernel
theorem dX3_readOne_12 : decode cX3_readOne 12 = .ok (.iconst 0, 1) := by decide +kernel
theorem dX3_readOne_13 : decode cX3_readOne 13 = .ok (.ireturn, 1) := by decide +kernel
theorem dX3_readOne_14 : decode cX3_readOne 14 = .ok (.aload_n 0, 1) := by decide +kernel
theorem dX3_readOne_15 : decode cX3_readOne 15 = .ok (.dup, 1) := by decide +kernel
theorem dX3_readOne_16 : decode cX3_readOne 16 = .ok (.getfield 19, 3) := by decide +kernel
theorem dX3_readOne_19 : decode cX3_readOne 19 = .ok (.iconst 1, 1) := by decide +kernel
theorem dX3_readOne_20 : decode cX3_readOne 20 = .ok (.iadd, 1) := by decide +kernel
theorem dX3_readOne_21 : decode cX3_readOne 21 = .ok (.putfield 19, 3) := by decide +kernel
theorem dX3_readOne_24 : decode cX3_readOne 24 = .ok (.iconst 0, 1) := by decide +kernel
theorem dX3_readOne_25 : decode cX3_readOne 25 = .ok (.istore_n 3, 1) := by decide +kernel
theorem dX3_readOne_26 : decode cX3_readOne 26 = .ok (.aload_n 0, 1) := by decide +kernel
theorem dX3_readOne_27 : decode cX3_readOne 27 = .ok (.invokevirtual 35, 3) := by decide +kernel
theorem dX3_readOne_30 : decode cX3_readOne 30 = .ok (.istore 4, 2) := by decide +kernel
theorem dX3_readOne_32 : decode cX3_readOne 32 = .ok (.iload 4, 2) := by decide +kernel
theorem dX3_readOne_34 : decode cX3_readOne 34 = .ok (.bipush 43, 2) := by decide +kernel
theorem dX3_readOne_36 : decode cX3_readOne 36 = .ok (.if_icmp .eq 10, 3) := by decide +kernel
theorem dX3_readOne_39 : decode cX3_readOne 39 = .ok (.iload 4, 2) := by decide +kernel
theorem dX3_readOne_41 : decode cX3_readOne 41 = .ok (.bipush 45, 2) := by decide +kernel
theorem dX3_readOne_43 : decode cX3_readOne 43 = .ok (.if_icmp .ne 44, 3) := by decide +kernel
theorem dX3_readOne_46 : decode cX3_readOne 46 = .ok (.aload_n 0, 1) := by decide +kernel
theorem dX3_readOne_47 : decode cX3_readOne 47 = .ok (.dup, 1) := by decide +kernel
theorem dX3_readOne_48 : decode cX3_readOne 48 = .ok (.getfield 19, 3) := by decide +kernel
theorem dX3_readOne_51 : decode cX3_readOne 51 = .ok (.iconst 1, 1) := by decide +kernel
theorem dX3_readOne_52 : decode cX3_readOne 52 = .ok (.iadd, 1) := by decide +kernel
theorem dX3_readOne_53 : decode cX3_readOne 53 = .ok (.putfield 19, 3) := by decide +kernel
theorem dX3_readOne_56 : decode cX3_readOne 56 = .ok (.aload_n 0, 1) := by decide +kernel
theorem dX3_readOne_57 : decode cX3_readOne 57 = .ok (.iconst 0, 1) := by decide +kernel
theorem dX3_readOne_58 : decode cX3_readOne 58 = .ok (.iconst 3, 1) := by decide +kernel
theorem dX3_readOne_59 : decode cX3_readOne 59 = .ok (.invokevirtual 42, 3) := by decide +kernel
theorem dX3_readOne_62 : decode cX3_readOne 62 = .ok (.istore 5, 2) := by decide +kernel
theorem dX3_readOne_64 : decode cX3_readOne 64 = .ok (.iload 5, 2) := by decide +kernel
theorem dX3_readOne_66 : decode cX3_readOne 66 = .ok (.ifCond .ge 5, 3) := by decide +kernel
theorem dX3_readOne_69 : decode cX3_readOne 69 = .ok (.iconst 0, 1) := by decide +kernel
theorem dX3_readOne_70 : decode cX3_readOne 70 = .ok (.ireturn, 1) := by decide +kernel
theorem dX3_readOne_71 : decode cX3_readOne 71 = .ok (.iload 4, 2) := by decide +kernel
theorem dX3_readOne_73 : decode cX3_readOne 73 = .ok (.bipush 45, 2) := by decide +kernel
theorem dX3_readOne_75 : decode cX3_readOne 75 = .ok (.if_icmp .ne 9, 3) := by decide +kernel
theorem dX3_readOne_78 : decode cX3_readOne 78 = .ok (.iload 5, 2) := by decide +kernel
theorem dX3_readOne_80 : decode cX3_readOne 80 = .ok (.ineg, 1) := by decide +kernel
theorem dX3_readOne_81 : decode cX3_readOne 81 = .ok (.goto 5, 3) := by decide +kernel
theorem dX3_readOne_84 : decode cX3_readOne 84 = .ok (.iload 5, 2) := by decide +kernel
theorem dX3_readOne_86 : decode cX3_readOne 86 = .ok (.istore_n 3, 1) := by decide +kernel
theorem dX3_readOne_87 : decode cX3_readOne 87 = .ok (.iconst 1, 1) := by decide +kernel
theorem dX3_readOne_88 : decode cX3_readOne 88 = .ok (.istore 5, 2) := by decide +kernel
theorem dX3_readOne_90 : decode cX3_readOne 90 = .ok (.aload_n 0, 1) := by decide +kernel
theorem dX3_readOne_91 : decode cX3_readOne 91 = .ok (.invokevirtual 35, 3) := by decide +kernel
theorem dX3_readOne_94 : decode cX3_readOne 94 = .ok (.bipush 114, 2) := by decide +kernel
theorem dX3_readOne_96 : decode cX3_readOne 96 = .ok (.if_icmp .ne 29, 3) := by decide +kernel
theorem dX3_readOne_99 : decode cX3_readOne 99 = .ok (.aload_n 0, 1) := by decide +kernel
theorem dX3_readOne_100 : decode cX3_readOne 100 = .ok (.dup, 1) := by decide +kernel
theorem dX3_readOne_101 : decode cX3_readOne 101 = .ok (.getfield 19, 3) := by decide +kernel
theorem dX3_readOne_104 : decode cX3_readOne 104 = .ok (.iconst 1, 1) := by decide +kernel
theorem dX3_readOne_105 : decode cX3_readOne 105 = .ok (.iadd, 1) := by decide +kernel
theorem dX3_readOne_106 : decode cX3_readOne 106 = .ok (.putfield 19, 3) := by decide +kernel
theorem dX3_readOne_109 : decode cX3_readOne 109 = .ok (.aload_n 0, 1) := by decide +kernel
theorem dX3_readOne_110 : decode cX3_readOne 110 = .ok (.iconst 1, 1) := by decide +kernel
theorem dX3_readOne_111 : decode cX3_readOne 111 = .ok (.bipush 9, 2) := by decide +kernel
theorem dX3_readOne_113 : decode cX3_readOne 113 = .ok (.invokevirtual 42, 3) := by decide +kernel
theorem dX3_readOne_116 : decode cX3_readOne 116 = .ok (.istore 5, 2) := by decide +kernel
theorem dX3_readOne_118 : decode cX3_readOne 118 = .ok (.iload 5, 2) := by decide +kernel
theorem dX3_readOne_120 : decode cX3_readOne 120 = .ok (.ifCond .ge 5, 3) := by decide +kernel
theorem dX3_readOne_123 : decode cX3_readOne 123 = .ok (.iconst 0, 1) := by decide +kernel
theorem dX3_readOne_124 : decode cX3_readOne 124 = .ok (.ireturn, 1) := by decide +kernel
theorem dX3_readOne_125 : decode cX3_readOne 125 = .ok (.aload_n 1, 1) := by decide +kernel
theorem dX3_readOne_126 : decode cX3_readOne 126 = .ok (.iload_n 2, 1) := by decide +kernel
theorem dX3_readOne_127 : decode cX3_readOne 127 = .ok (.iload_n 3, 1) := by decide +kernel
theorem dX3_readOne_128 : decode cX3_readOne 128 = .ok (.iload 5, 2) := by decide +kernel
theorem dX3_readOne_130 : decode cX3_readOne 130 = .ok (.invokevirtual 46, 3) := by decide +kernel
theorem dX3_readOne_133 : decode cX3_readOne 133 = .ok (.ifCond .lt 7, 3) := by decide +kernel
theorem dX3_readOne_136 : decode cX3_readOne 136 = .ok (.iconst 1, 1) := by decide +kernel
theorem dX3_readOne_137 : decode cX3_readOne 137 = .ok (.goto 4, 3) := by decide +kernel
theorem dX3_readOne_140 : decode cX3_readOne 140 = .ok (.iconst 0, 1) := by decide +kernel
theorem dX3_readOne_141 : decode cX3_readOne 141 = .ok (.ireturn, 1) := by decide +kernel
theorem dX3_kindBy_0 : decode cX3_kindBy 0 = .ok (.iload_n 0, 1) := by decide +kernel
theorem dX3_kindBy_1 : decode cX3_kindBy 1 = .ok (.tableswitch 63 109 118 #[61, 63, 63, 55, 63, 63, 57, 63, 63, 59], 55) := by decide +kernel
theorem dX3_kindBy_56 : decode cX3_kindBy 56 = .ok (.iconst 0, 1) := by decide +kernel
theorem dX3_kindBy_57 : decode cX3_kindBy 57 = .ok (.ireturn, 1) := by decide +kernel
theorem dX3_kindBy_58 : decode cX3_kindBy 58 = .ok (.iconst 1, 1) := by decide +kernel
theorem dX3_kindBy_59 : decode cX3_kindBy 59 = .ok (.ireturn, 1) := by decide +kernel
theorem dX3_kindBy_60 : decode cX3_kindBy 60 = .ok (.iconst 2, 1) := by decide +kernel
theorem dX3_kindBy_61 : decode cX3_kindBy 61 = .ok (.ireturn, 1) := by decide +kernel
theorem dX3_kindBy_62 : decode cX3_kindBy 62 = .ok (.iconst 3, 1) := by decide +kernel
theorem dX3_kindBy_63 : decode cX3_kindBy 63 = .ok (.ireturn, 1) := by decide +kernel
theorem dX3_kindBy_64 : decode cX3_kindBy 64 = .ok (.iconst (-1), 1) := by decide +kernel
theorem dX3_kindBy_65 : decode cX3_kindBy 65 = .ok (.ireturn, 1) := by decide +kernel
set_option maxRecDepth 20000 in
theorem ggX3_readDigit_X3_next : GoodIn wsX3_readDigit wsX3_next := goodIn_r _ [6, 1, 7, 8, 12, 13, 14] (by decide +kernel) (by decide +kernel)
set_option maxRecDepth 20000 in
theorem gX3_readDigit_X3_next : GoodIn wsX3_readDigit (wsV RX3 35 RX3 yX3_next wsX3_next) := goodIn_app (goodIn_of _ (by decide +kernel)) ggX3_readDigit_X3_next
set_option maxRecDepth 20000 in
theorem ggX3_readDigit_X5_within : GoodIn wsX3_readDigit wsX5_within := goodIn_r _ [11] (by decide +kernel) (by decide +kernel)
set_option maxRecDepth 20000 in
theorem gX3_readDigit_X5_within_n50 : GoodIn wsX3_readDigit (wsX5_within) := ggX3_readDigit_X5_within
theorem dX3_readDigit_0 : decode cX3_readDigit 0 = .ok (.aload_n 0, 1) := by decide +kernel
theorem dX3_readDigit_1 : decode cX3_readDigit 1 = .ok (.invokevirtual 35, 3) := by decide +kernel
theorem dX3_readDigit_4 : decode cX3_readDigit 4 = .ok (.bipush 48, 2) := by decide +kernel
theorem dX3_readDigit_6 : decode cX3_readDigit 6 = .ok (.isub, 1) := by decide +kernel
theorem dX3_readDigit_7 : decode cX3_readDigit 7 = .ok (.istore_n 3, 1) := by decide +kernel
theorem dX3_readDigit_8 : decode cX3_readDigit 8 = .ok (.iload_n 3, 1) := by decide +kernel
theorem dX3_readDigit_9 : decode cX3_readDigit 9 = .ok (.iload_n 1, 1) := by decide +kernel
theorem dX3_readDigit_10 : decode cX3_readDigit 10 = .ok (.iload_n 2, 1) := by decide +kernel
theorem dX3_readDigit_11 : decode cX3_readDigit 11 = .ok (.invokestatic 50, 3) := by decide +kernel
theorem dX3_readDigit_14 : decode cX3_readDigit 14 = .ok (.ifCond .ne 5, 3) := by decide +kernel
theorem dX3_readDigit_17 : decode cX3_readDigit 17 = .ok (.iconst (-1), 1) := by decide +kernel
theorem dX3_readDigit_18 : decode cX3_readDigit 18 = .ok (.ireturn, 1) := by decide +kernel
theorem dX3_readDigit_19 : decode cX3_readDigit 19 = .ok (.aload_n 0, 1) := by decide +kernel
theorem dX3_readDigit_20 : decode cX3_readDigit 20 = .ok (.dup, 1) := by decide +kernel
theorem dX3_readDigit_21 : decode cX3_readDigit 21 = .ok (.getfield 19, 3) := by decide +kernel
theorem dX3_readDigit_24 : decode cX3_readDigit 24 = .ok (.iconst 1, 1) := by decide +kernel
theorem dX3_readDigit_25 : decode cX3_readDigit 25 = .ok (.iadd, 1) := by decide +kernel
theorem dX3_readDigit_26 : decode cX3_readDigit 26 = .ok (.putfield 19, 3) := by decide +kernel
theorem dX3_readDigit_29 : decode cX3_readDigit 29 = .ok (.iload_n 3, 1) := by decide +kernel
theorem dX3_readDigit_30 : decode cX3_readDigit 30 = .ok (.ireturn, 1) := by decide +kernel
set_option maxRecDepth 20000 in
theorem ggX3_readPlan_X3_next : GoodIn wsX3_readPlan wsX3_next := goodIn_r _ [6, 1, 7, 8, 18, 19, 20] (by decide +kernel) (by decide +kernel)
set_option maxRecDepth 20000 in
theorem gX3_readPlan_X3_next : GoodIn wsX3_readPlan (wsV RX3 35 RX3 yX3_next wsX3_next) := goodIn_app (goodIn_of _ (by decide +kernel)) ggX3_readPlan_X3_next
set_option maxRecDepth 20000 in
theorem ggX3_readPlan_X0_has : GoodIn wsX3_readPlan wsX0_has := goodIn_r _ [12, 13, 21, 22, 23, 24, 25] (by decide +kernel) (by decide +kernel)
set_option maxRecDepth 20000 in
theorem gX3_readPlan_X0_has_n54 : GoodIn wsX3_readPlan (wsX0_has) := ggX3_readPlan_X0_has
set_option maxRecDepth 20000 in
theorem ggX3_readPlan_X3_fault : GoodIn wsX3_readPlan wsX3_fault := goodIn_r _ [17, 1, 18, 19, 20] (by decide +kernel) (by decide +kernel)
set_option maxRecDepth 20000 in
theorem gX3_readPlan_X3_fault : GoodIn wsX3_readPlan (wsV RX3 31 RX3 yX3_fault wsX3_fault) := goodIn_app (goodIn_of _ (by decide +kernel)) ggX3_readPlan_X3_fault
theorem dX3_readPlan_0 : decode cX3_readPlan 0 = .ok (.aload_n 0, 1) := by decide +kernel
theorem dX3_readPlan_1 : decode cX3_readPlan 1 = .ok (.iconst 0, 1) := by decide +kernel
theorem dX3_readPlan_2 : decode cX3_readPlan 2 = .ok (.putfield 19, 3) := by decide +kernel
theorem dX3_readPlan_5 : decode cX3_readPlan 5 = .ok (.iconst 0, 1) := by decide +kernel
theorem dX3_readPlan_6 : decode cX3_readPlan 6 = .ok (.istore_n 3, 1) := by decide +kernel
theorem dX3_readPlan_7 : decode cX3_readPlan 7 = .ok (.iload_n 3, 1) := by decide +kernel
theorem dX3_readPlan_8 : decode cX3_readPlan 8 = .ok (.bipush 24, 2) := by decide +kernel
theorem dX3_readPlan_10 : decode cX3_readPlan 10 = .ok (.if_icmp .ge 81, 3) := by decide +kernel
theorem dX3_readPlan_13 : decode cX3_readPlan 13 = .ok (.aload_n 0, 1) := by decide +kernel
theorem dX3_readPlan_14 : decode cX3_readPlan 14 = .ok (.invokevirtual 35, 3) := by decide +kernel
theorem dX3_readPlan_17 : decode cX3_readPlan 17 = .ok (.istore 4, 2) := by decide +kernel
theorem dX3_readPlan_19 : decode cX3_readPlan 19 = .ok (.iload 4, 2) := by decide +kernel
theorem dX3_readPlan_21 : decode cX3_readPlan 21 = .ok (.ifCond .ne 9, 3) := by decide +kernel
theorem dX3_readPlan_24 : decode cX3_readPlan 24 = .ok (.iload_n 3, 1) := by decide +kernel
theorem dX3_readPlan_25 : decode cX3_readPlan 25 = .ok (.ifCond .le 5, 3) := by decide +kernel
theorem dX3_readPlan_28 : decode cX3_readPlan 28 = .ok (.iload_n 3, 1) := by decide +kernel
theorem dX3_readPlan_29 : decode cX3_readPlan 29 = .ok (.ireturn, 1) := by decide +kernel
theorem dX3_readPlan_30 : decode cX3_readPlan 30 = .ok (.iload 4, 2) := by decide +kernel
theorem dX3_readPlan_32 : decode cX3_readPlan 32 = .ok (.bipush 46, 2) := by decide +kernel
theorem dX3_readPlan_34 : decode cX3_readPlan 34 = .ok (.if_icmp .ne 8, 3) := by decide +kernel
theorem dX3_readPlan_37 : decode cX3_readPlan 37 = .ok (.bipush 9, 2) := by decide +kernel
theorem dX3_readPlan_39 : decode cX3_readPlan 39 = .ok (.goto 8, 3) := by decide +kernel
theorem dX3_readPlan_42 : decode cX3_readPlan 42 = .ok (.iload 4, 2) := by decide +kernel
theorem dX3_readPlan_44 : decode cX3_readPlan 44 = .ok (.bipush 48, 2) := by decide +kernel
theorem dX3_readPlan_46 : decode cX3_readPlan 46 = .ok (.isub, 1) := by decide +kernel
theorem dX3_readPlan_47 : decode cX3_readPlan 47 = .ok (.istore 5, 2) := by decide +kernel
theorem dX3_readPlan_49 : decode cX3_readPlan 49 = .ok (.iload 4, 2) := by decide +kernel
theorem dX3_readPlan_51 : decode cX3_readPlan 51 = .ok (.bipush 46, 2) := by decide +kernel
theorem dX3_readPlan_53 : decode cX3_readPlan 53 = .ok (.if_icmp .eq 17, 3) := by decide +kernel
theorem dX3_readPlan_56 : decode cX3_readPlan 56 = .ok (.aload_n 2, 1) := by decide +kernel
theorem dX3_readPlan_57 : decode cX3_readPlan 57 = .ok (.iload 5, 2) := by decide +kernel
theorem dX3_readPlan_59 : decode cX3_readPlan 59 = .ok (.invokevirtual 54, 3) := by decide +kernel
theorem dX3_readPlan_62 : decode cX3_readPlan 62 = .ok (.ifCond .ne 8, 3) := by decide +kernel
theorem dX3_readPlan_65 : decode cX3_readPlan 65 = .ok (.aload_n 0, 1) := by decide +kernel
theorem dX3_readPlan_66 : decode cX3_readPlan 66 = .ok (.invokevirtual 31, 3) := by decide +kernel
theorem dX3_readPlan_69 : decode cX3_readPlan 69 = .ok (.ireturn, 1) := by decide +kernel
theorem dX3_readPlan_70 : decode cX3_readPlan 70 = .ok (.aload_n 1, 1) := by decide +kernel
theorem dX3_readPlan_71 : decode cX3_readPlan 71 = .ok (.iload_n 3, 1) := by decide +kernel
theorem dX3_readPlan_72 : decode cX3_readPlan 72 = .ok (.iload 5, 2) := by decide +kernel
theorem dX3_readPlan_74 : decode cX3_readPlan 74 = .ok (.iastore, 1) := by decide +kernel
theorem dX3_readPlan_75 : decode cX3_readPlan 75 = .ok (.aload_n 0, 1) := by decide +kernel
theorem dX3_readPlan_76 : decode cX3_readPlan 76 = .ok (.dup, 1) := by decide +kernel
theorem dX3_readPlan_77 : decode cX3_readPlan 77 = .ok (.getfield 19, 3) := by decide +kernel
theorem dX3_readPlan_80 : decode cX3_readPlan 80 = .ok (.iconst 1, 1) := by decide +kernel
theorem dX3_readPlan_81 : decode cX3_readPlan 81 = .ok (.iadd, 1) := by decide +kernel
theorem dX3_readPlan_82 : decode cX3_readPlan 82 = .ok (.putfield 19, 3) := by decide +kernel
theorem dX3_readPlan_85 : decode cX3_readPlan 85 = .ok (.iinc 3 1, 3) := by decide +kernel
theorem dX3_readPlan_88 : decode cX3_readPlan 88 = .ok (.goto (-81), 3) := by decide +kernel
theorem dX3_readPlan_91 : decode cX3_readPlan 91 = .ok (.aload_n 0, 1) := by decide +kernel
theorem dX3_readPlan_92 : decode cX3_readPlan 92 = .ok (.invokevirtual 35, 3) := by decide +kernel
theorem dX3_readPlan_95 : decode cX3_readPlan 95 = .ok (.ifCond .ne 8, 3) := by decide +kernel
theorem dX3_readPlan_98 : decode cX3_readPlan 98 = .ok (.bipush 24, 2) := by decide +kernel
theorem dX3_readPlan_100 : decode cX3_readPlan 100 = .ok (.goto 7, 3) := by decide +kernel
theorem dX3_readPlan_103 : decode cX3_readPlan 103 = .ok (.aload_n 0, 1) := by decide +kernel
theorem dX3_readPlan_104 : decode cX3_readPlan 104 = .ok (.invokevirtual 31, 3) := by decide +kernel
theorem dX3_readPlan_107 : decode cX3_readPlan 107 = .ok (.ireturn, 1) := by decide +kernel
set_option maxRecDepth 20000 in
theorem ggX4_init_X0_init : GoodIn wsX4_init wsX0_init := goodIn_r _ [21, 22, 2, 3, 8, 23, 24, 25, 26, 27, 28, 29, 30, 31, 32] (by decide +kernel) (by decide +kernel)
set_option maxRecDepth 20000 in
theorem gX4_init_X0_init_n11 : GoodIn wsX4_init (wsX0_init) := ggX4_init_X0_init
theorem dX4_init_0 : decode cX4_init 0 = .ok (.aload_n 0, 1) := by decide +kernel
theorem dX4_init_1 : decode cX4_init 1 = .ok (.invokespecial 3, 3) := by decide +kernel
theorem dX4_init_4 : decode cX4_init 4 = .ok (.aload_n 0, 1) := by decide +kernel
theorem dX4_init_5 : decode cX4_init 5 = .ok (.new 9, 3) := by decide +kernel
theorem dX4_init_8 : decode cX4_init 8 = .ok (.dup, 1) := by decide +kernel
theorem dX4_init_9 : decode cX4_init 9 = .ok (.invokespecial 11, 3) := by decide +kernel
theorem dX4_init_12 : decode cX4_init 12 = .ok (.putfield 12, 3) := by decide +kernel
theorem dX4_init_15 : decode cX4_init 15 = .ok (.aload_n 0, 1) := by decide +kernel
theorem dX4_init_16 : decode cX4_init 16 = .ok (.bipush 6, 2) := by decide +kernel
theorem dX4_init_18 : decode cX4_init 18 = .ok (.newarray .int, 2) := by decide +kernel
theorem dX4_init_20 : decode cX4_init 20 = .ok (.putfield 18, 3) := by decide +kernel
theorem dX4_init_23 : decode cX4_init 23 = .ok (.aload_n 0, 1) := by decide +kernel
theorem dX4_init_24 : decode cX4_init 24 = .ok (.bipush 24, 2) := by decide +kernel
theorem dX4_init_26 : decode cX4_init 26 = .ok (.newarray .int, 2) := by decide +kernel
theorem dX4_init_28 : decode cX4_init 28 = .ok (.putfield 22, 3) := by decide +kernel
theorem dX4_init_31 : decode cX4_init 31 = .ok (.aload_n 0, 1) := by decide +kernel
theorem dX4_init_32 : decode cX4_init 32 = .ok (.iconst 0, 1) := by decide +kernel
theorem dX4_init_33 : decode cX4_init 33 = .ok (.putfield 25, 3) := by decide +kernel
theorem dX4_init_36 : decode cX4_init 36 = .ok (.aload_n 0, 1) := by decide +kernel
theorem dX4_init_37 : decode cX4_init 37 = .ok (.iconst 0, 1) := by decide +kernel
theorem dX4_init_38 : decode cX4_init 38 = .ok (.putfield 29, 3) := by decide +kernel
theorem dX4_init_41 : decode cX4_init 41 = .ok (.aload_n 0, 1) := by decide +kernel
theorem dX4_init_42 : decode cX4_init 42 = .ok (.sipush 200, 3) := by decide +kernel
theorem dX4_init_45 : decode cX4_init 45 = .ok (.putfield 32, 3) := by decide +kernel
theorem dX4_init_48 : decode cX4_init 48 = .ok (.aload_n 0, 1) := by decide +kernel
theorem dX4_init_49 : decode cX4_init 49 = .ok (.iconst 1, 1) := by decide +kernel
theorem dX4_init_50 : decode cX4_init 50 = .ok (.putfield 35, 3) := by decide +kernel
theorem dX4_init_53 : decode cX4_init 53 = .ok (.aload_n 0, 1) := by decide +kernel
theorem dX4_init_54 : decode cX4_init 54 = .ok (.iconst 0, 1) := by decide +kernel
theorem dX4_init_55 : decode cX4_init 55 = .ok (.putfield 38, 3) := by decide +kernel
theorem dX4_init_58 : decode cX4_init 58 = .ok (.aload_n 0, 1) := by decide +kernel
theorem dX4_init_59 : decode cX4_init 59 = .ok (.iconst 0, 1) := by decide +kernel
theorem dX4_init_60 : decode cX4_init 60 = .ok (.putfield 41, 3) := by decide +kernel
theorem dX4_init_63 : decode cX4_init 63 = .ok (.aload_n 0, 1) := by decide +kernel
theorem dX4_init_64 : decode cX4_init 64 = .ok (.iconst 0, 1) := by decide +kernel
theorem dX4_init_65 : decode cX4_init 65 = .ok (.putfield 44, 3) := by decide +kernel
theorem dX4_init_68 : decode cX4_init 68 = .ok (.aload_n 0, 1) := by decide +kernel
theorem dX4_init_69 : decode cX4_init 69 = .ok (.bipush 9, 2) := by decide +kernel
theorem dX4_init_71 : decode cX4_init 71 = .ok (.putfield 47, 3) := by decide +kernel
theorem dX4_init_74 : decode cX4_init 74 = .ok (.aload_n 0, 1) := by decide +kernel
theorem dX4_init_75 : decode cX4_init 75 = .ok (.iconst 1, 1) := by decide +kernel
theorem dX4_init_76 : decode cX4_init 76 = .ok (.putfield 50, 3) := by decide +kernel
theorem dX4_init_79 : decode cX4_init 79 = .ok (.return_, 1) := by decide +kernel
set_option maxRecDepth 20000 in
theorem ggX4_become_X0_become : GoodIn wsX4_become wsX0_become := goodIn_r _ [20, 21, 22, 23, 24, 25, 38, 39, 40, 41, 42] (by decide +kernel) (by decide +kernel)
set_option maxRecDepth 20000 in
theorem gX4_become_X0_become_n53 : GoodIn wsX4_become (wsX0_become) := ggX4_become_X0_become
theorem dX4_become_0 : decode cX4_become 0 = .ok (.aload_n 0, 1) := by decide +kernel
theorem dX4_become_1 : decode cX4_become 1 = .ok (.getfield 12, 3) := by decide +kernel
theorem dX4_become_4 : decode cX4_become 4 = .ok (.aload_n 1, 1) := by decide +kernel
theorem dX4_become_5 : decode cX4_become 5 = .ok (.getfield 12, 3) := by decide +kernel
theorem dX4_become_8 : decode cX4_become 8 = .ok (.invokevirtual 53, 3) := by decide +kernel
theorem dX4_become_11 : decode cX4_become 11 = .ok (.aload_n 1, 1) := by decide +kernel
theorem dX4_become_12 : decode cX4_become 12 = .ok (.getfield 18, 3) := by decide +kernel
theorem dX4_become_15 : decode cX4_become 15 = .ok (.iconst 0, 1) := by decide +kernel
theorem dX4_become_16 : decode cX4_become 16 = .ok (.aload_n 0, 1) := by decide +kernel
theorem dX4_become_17 : decode cX4_become 17 = .ok (.getfield 18, 3) := by decide +kernel
theorem dX4_become_20 : decode cX4_become 20 = .ok (.iconst 0, 1) := by decide +kernel
theorem dX4_become_21 : decode cX4_become 21 = .ok (.bipush 6, 2) := by decide +kernel
theorem dX4_become_23 : decode cX4_become 23 = .ok (.invokestatic 57, 3) := by decide +kernel
theorem dX4_become_26 : decode cX4_become 26 = .ok (.aload_n 1, 1) := by decide +kernel
theorem dX4_become_27 : decode cX4_become 27 = .ok (.getfield 22, 3) := by decide +kernel
theorem dX4_become_30 : decode cX4_become 30 = .ok (.iconst 0, 1) := by decide +kernel
theorem dX4_become_31 : decode cX4_become 31 = .ok (.aload_n 0, 1) := by decide +kernel
theorem dX4_become_32 : decode cX4_become 32 = .ok (.getfield 22, 3) := by decide +kernel
theorem dX4_become_35 : decode cX4_become 35 = .ok (.iconst 0, 1) := by decide +kernel
theorem dX4_become_36 : decode cX4_become 36 = .ok (.bipush 24, 2) := by decide +kernel
theorem dX4_become_38 : decode cX4_become 38 = .ok (.invokestatic 57, 3) := by decide +kernel
theorem dX4_become_41 : decode cX4_become 41 = .ok (.aload_n 0, 1) := by decide +kernel
theorem dX4_become_42 : decode cX4_become 42 = .ok (.aload_n 1, 1) := by decide +kernel
theorem dX4_become_43 : decode cX4_become 43 = .ok (.getfield 25, 3) := by decide +kernel
theorem dX4_become_46 : decode cX4_become 46 = .ok (.putfield 25, 3) := by decide +kernel
theorem dX4_become_49 : decode cX4_become 49 = .ok (.aload_n 0, 1) := by decide +kernel
theorem dX4_become_50 : decode cX4_become 50 = .ok (.aload_n 1, 1) := by decide +kernel
theorem dX4_become_51 : decode cX4_become 51 = .ok (.getfield 29, 3) := by decide +kernel
theorem dX4_become_54 : decode cX4_become 54 = .ok (.putfield 29, 3) := by decide +kernel
theorem dX4_become_57 : decode cX4_become 57 = .ok (.aload_n 0, 1) := by decide +kernel
theorem dX4_become_58 : decode cX4_become 58 = .ok (.aload_n 1, 1) := by decide +kernel
theorem dX4_become_59 : decode cX4_become 59 = .ok (.getfield 32, 3) := by decide +kernel
theorem dX4_become_62 : decode cX4_become 62 = .ok (.putfield 32, 3) := by decide +kernel
theorem dX4_become_65 : decode cX4_become 65 = .ok (.aload_n 0, 1) := by decide +kernel
theorem dX4_become_66 : decode cX4_become 66 = .ok (.aload_n 1, 1) := by decide +kernel
theorem dX4_become_67 : decode cX4_become 67 = .ok (.getfield 35, 3) := by decide +kernel
theorem dX4_become_70 : decode cX4_become 70 = .ok (.putfield 35, 3) := by decide +kernel
theorem dX4_become_73 : decode cX4_become 73 = .ok (.aload_n 0, 1) := by decide +kernel
theorem dX4_become_74 : decode cX4_become 74 = .ok (.aload_n 1, 1) := by decide +kernel
theorem dX4_become_75 : decode cX4_become 75 = .ok (.getfield 38, 3) := by decide +kernel
theorem dX4_become_78 : decode cX4_become 78 = .ok (.putfield 38, 3) := by decide +kernel
theorem dX4_become_81 : decode cX4_become 81 = .ok (.aload_n 0, 1) := by decide +kernel
theorem dX4_become_82 : decode cX4_become 82 = .ok (.aload_n 1, 1) := by decide +kernel
theorem dX4_become_83 : decode cX4_become 83 = .ok (.getfield 41, 3) := by decide +kernel
theorem dX4_become_86 : decode cX4_become 86 = .ok (.putfield 41, 3) := by decide +kernel
theorem dX4_become_89 : decode cX4_become 89 = .ok (.aload_n 0, 1) := by decide +kernel
theorem dX4_become_90 : decode cX4_become 90 = .ok (.aload_n 1, 1) := by decide +kernel
theorem dX4_become_91 : decode cX4_become 91 = .ok (.getfield 44, 3) := by decide +kernel
theorem dX4_become_94 : decode cX4_become 94 = .ok (.putfield 44, 3) := by decide +kernel
theorem dX4_become_97 : decode cX4_become 97 = .ok (.aload_n 0, 1) := by decide +kernel
theorem dX4_become_98 : decode cX4_become 98 = .ok (.aload_n 1, 1) := by decide +kernel
theorem dX4_become_99 : decode cX4_become 99 = .ok (.getfield 47, 3) := by decide +kernel
theorem dX4_become_102 : decode cX4_become 102 = .ok (.putfield 47, 3) := by decide +kernel
theorem dX4_become_105 : decode cX4_become 105 = .ok (.aload_n 0, 1) := by decide +kernel
theorem dX4_become_106 : decode cX4_become 106 = .ok (.aload_n 1, 1) := by decide +kernel
theorem dX4_become_107 : decode cX4_become 107 = .ok (.getfield 50, 3) := by decide +kernel
theorem dX4_become_110 : decode cX4_become 110 = .ok (.putfield 50, 3) := by decide +kernel
theorem dX4_become_113 : decode cX4_become 113 = .ok (.return_, 1) := by decide +kernel
set_option maxRecDepth 20000 in
theorem ggX4_settle_X0_become : GoodIn wsX4_settle wsX0_become := goodIn_r _ [8, 9, 10, 11, 12, 13, 26, 27, 28, 29, 30] (by decide +kernel) (by decide +kernel)
set_option maxRecDepth 20000 in
theorem gX4_settle_X0_become_n53 : GoodIn wsX4_settle (wsX0_become) := ggX4_settle_X0_become
theorem dX4_settle_0 : decode cX4_settle 0 = .ok (.aload_n 0, 1) := by decide +kernel
theorem dX4_settle_1 : decode cX4_settle 1 = .ok (.getfield 12, 3) := by decide +kernel
theorem dX4_settle_4 : decode cX4_settle 4 = .ok (.aload_n 1, 1) := by decide +kernel
theorem dX4_settle_5 : decode cX4_settle 5 = .ok (.invokevirtual 53, 3) := by decide +kernel
theorem dX4_settle_8 : decode cX4_settle 8 = .ok (.iconst 0, 1) := by decide +kernel
theorem dX4_settle_9 : decode cX4_settle 9 = .ok (.istore_n 2, 1) := by decide +kernel
theorem dX4_settle_10 : decode cX4_settle 10 = .ok (.iload_n 2, 1) := by decide +kernel
theorem dX4_settle_11 : decode cX4_settle 11 = .ok (.bipush 6, 2) := by decide +kernel
theorem dX4_settle_13 : decode cX4_settle 13 = .ok (.if_icmp .ge 16, 3) := by decide +kernel
theorem dX4_settle_16 : decode cX4_settle 16 = .ok (.aload_n 0, 1) := by decide +kernel
theorem dX4_settle_17 : decode cX4_settle 17 = .ok (.getfield 18, 3) := by decide +kernel
theorem dX4_settle_20 : decode cX4_settle 20 = .ok (.iload_n 2, 1) := by decide +kernel
theorem dX4_settle_21 : decode cX4_settle 21 = .ok (.iconst 0, 1) := by decide +kernel
theorem dX4_settle_22 : decode cX4_settle 22 = .ok (.iastore, 1) := by decide +kernel
theorem dX4_settle_23 : decode cX4_settle 23 = .ok (.iinc 2 1, 3) := by decide +kernel
theorem dX4_settle_26 : decode cX4_settle 26 = .ok (.goto (-16), 3) := by decide +kernel
theorem dX4_settle_29 : decode cX4_settle 29 = .ok (.aload_n 0, 1) := by decide +kernel
theorem dX4_settle_30 : decode cX4_settle 30 = .ok (.bipush 9, 2) := by decide +kernel
theorem dX4_settle_32 : decode cX4_settle 32 = .ok (.putfield 47, 3) := by decide +kernel
theorem dX4_settle_35 : decode cX4_settle 35 = .ok (.aload_n 0, 1) := by decide +kernel
theorem dX4_settle_36 : decode cX4_settle 36 = .ok (.iconst 0, 1) := by decide +kernel
theorem dX4_settle_37 : decode cX4_settle 37 = .ok (.putfield 25, 3) := by decide +kernel
theorem dX4_settle_40 : decode cX4_settle 40 = .ok (.return_, 1) := by decide +kernel
theorem dX4_adopt_0 : decode cX4_adopt 0 = .ok (.aload_n 0, 1) := by decide +kernel
theorem dX4_adopt_1 : decode cX4_adopt 1 = .ok (.iload_n 2, 1) := by decide +kernel
theorem dX4_adopt_2 : decode cX4_adopt 2 = .ok (.bipush 24, 2) := by decide +kernel
theorem dX4_adopt_4 : decode cX4_adopt 4 = .ok (.invokestatic 63, 3) := by decide +kernel
theorem dX4_adopt_7 : decode cX4_adopt 7 = .ok (.putfield 25, 3) := by decide +kernel
theorem dX4_adopt_10 : decode cX4_adopt 10 = .ok (.aload_n 1, 1) := by decide +kernel
theorem dX4_adopt_11 : decode cX4_adopt 11 = .ok (.iconst 0, 1) := by decide +kernel
theorem dX4_adopt_12 : decode cX4_adopt 12 = .ok (.aload_n 0, 1) := by decide +kernel
theorem dX4_adopt_13 : decode cX4_adopt 13 = .ok (.getfield 22, 3) := by decide +kernel
theorem dX4_adopt_16 : decode cX4_adopt 16 = .ok (.iconst 0, 1) := by decide +kernel
theorem dX4_adopt_17 : decode cX4_adopt 17 = .ok (.aload_n 0, 1) := by decide +kernel
theorem dX4_adopt_18 : decode cX4_adopt 18 = .ok (.getfield 25, 3) := by decide +kernel
theorem dX4_adopt_21 : decode cX4_adopt 21 = .ok (.invokestatic 57, 3) := by decide +kernel
theorem dX4_adopt_24 : decode cX4_adopt 24 = .ok (.return_, 1) := by decide +kernel
set_option maxRecDepth 20000 in
theorem ggX4_mayDraw_X0_has : GoodIn wsX4_mayDraw wsX0_has := goodIn_r _ [6, 7, 20, 21, 22, 23, 24] (by decide +kernel) (by decide +kernel)
set_option maxRecDepth 20000 in
theorem gX4_mayDraw_X0_has_n69 : GoodIn wsX4_mayDraw (wsX0_has) := ggX4_mayDraw_X0_has
theorem dX4_mayDraw_0 : decode cX4_mayDraw 0 = .ok (.aload_n 0, 1) := by decide +kernel
theorem dX4_mayDraw_1 : decode cX4_mayDraw 1 = .ok (.getfield 12, 3) := by decide +kernel
theorem dX4_mayDraw_4 : decode cX4_mayDraw 4 = .ok (.iload_n 1, 1) := by decide +kernel
theorem dX4_mayDraw_5 : decode cX4_mayDraw 5 = .ok (.invokevirtual 69, 3) := by decide +kernel
theorem dX4_mayDraw_8 : decode cX4_mayDraw 8 = .ok (.ifCond .eq 16, 3) := by decide +kernel
theorem dX4_mayDraw_11 : decode cX4_mayDraw 11 = .ok (.aload_n 0, 1) := by decide +kernel
theorem dX4_mayDraw_12 : decode cX4_mayDraw 12 = .ok (.getfield 18, 3) := by decide +kernel
theorem dX4_mayDraw_15 : decode cX4_mayDraw 15 = .ok (.iload_n 1, 1) := by decide +kernel
theorem dX4_mayDraw_16 : decode cX4_mayDraw 16 = .ok (.iaload, 1) := by decide +kernel
theorem dX4_mayDraw_17 : decode cX4_mayDraw 17 = .ok (.ifCond .ne 7, 3) := by decide +kernel
theorem dX4_mayDraw_20 : decode cX4_mayDraw 20 = .ok (.iconst 1, 1) := by decide +kernel
theorem dX4_mayDraw_21 : decode cX4_mayDraw 21 = .ok (.goto 4, 3) := by decide +kernel
theorem dX4_mayDraw_24 : decode cX4_mayDraw 24 = .ok (.iconst 0, 1) := by decide +kernel
theorem dX4_mayDraw_25 : decode cX4_mayDraw 25 = .ok (.ireturn, 1) := by decide +kernel
theorem dX4_hasHours_0 : decode cX4_hasHours 0 = .ok (.aload_n 0, 1) := by decide +kernel
theorem dX4_hasHours_1 : decode cX4_hasHours 1 = .ok (.getfield 44, 3) := by decide +kernel
theorem dX4_hasHours_4 : decode cX4_hasHours 4 = .ok (.iload_n 1, 1) := by decide +kernel
theorem dX4_hasHours_5 : decode cX4_hasHours 5 = .ok (.iadd, 1) := by decide +kernel
theorem dX4_hasHours_6 : decode cX4_hasHours 6 = .ok (.sipush 9999, 3) := by decide +kernel
theorem dX4_hasHours_9 : decode cX4_hasHours 9 = .ok (.if_icmp .gt 7, 3) := by decide +kernel
theorem dX4_hasHours_12 : decode cX4_hasHours 12 = .ok (.iconst 1, 1) := by decide +kernel
theorem dX4_hasHours_13 : decode cX4_hasHours 13 = .ok (.goto 4, 3) := by decide +kernel
theorem dX4_hasHours_16 : decode cX4_hasHours 16 = .ok (.iconst 0, 1) := by decide +kernel
theorem dX4_hasHours_17 : decode cX4_hasHours 17 = .ok (.ireturn, 1) := by decide +kernel
set_option maxRecDepth 20000 in
theorem ggX4_givesAt_X0_pailsAt : GoodIn wsX4_givesAt wsX0_pailsAt := goodIn_r _ [10, 11, 12, 4, 5, 6, 13, 14, 15, 31, 32, 33, 34, 35] (by decide +kernel) (by decide +kernel)
set_option maxRecDepth 20000 in
theorem gX4_givesAt_X0_pailsAt_n73 : GoodIn wsX4_givesAt (wsX0_pailsAt) := ggX4_givesAt_X0_pailsAt
set_option maxRecDepth 20000 in
theorem ggX4_givesAt_X0_isSweet : GoodIn wsX4_givesAt wsX0_isSweet := goodIn_r _ [18, 11, 31, 32, 33, 34, 35] (by decide +kernel) (by decide +kernel)
set_option maxRecDepth 20000 in
theorem gX4_givesAt_X0_isSweet_n76 : GoodIn wsX4_givesAt (wsX0_isSweet) := ggX4_givesAt_X0_isSweet
theorem dX4_givesAt_0 : decode cX4_givesAt 0 = .ok (.aload_n 0, 1) := by decide +kernel
theorem dX4_givesAt_1 : decode cX4_givesAt 1 = .ok (.getfield 32, 3) := by decide +kernel
theorem dX4_givesAt_4 : decode cX4_givesAt 4 = .ok (.aload_n 0, 1) := by decide +kernel
theorem dX4_givesAt_5 : decode cX4_givesAt 5 = .ok (.getfield 12, 3) := by decide +kernel
theorem dX4_givesAt_8 : decode cX4_givesAt 8 = .ok (.iload_n 1, 1) := by decide +kernel
theorem dX4_givesAt_9 : decode cX4_givesAt 9 = .ok (.iload_n 2, 1) := by decide +kernel
theorem dX4_givesAt_10 : decode cX4_givesAt 10 = .ok (.invokevirtual 73, 3) := by decide +kernel
theorem dX4_givesAt_13 : decode cX4_givesAt 13 = .ok (.invokestatic 63, 3) := by decide +kernel
theorem dX4_givesAt_16 : decode cX4_givesAt 16 = .ok (.istore_n 3, 1) := by decide +kernel
theorem dX4_givesAt_17 : decode cX4_givesAt 17 = .ok (.aload_n 0, 1) := by decide +kernel
theorem dX4_givesAt_18 : decode cX4_givesAt 18 = .ok (.getfield 12, 3) := by decide +kernel
theorem dX4_givesAt_21 : decode cX4_givesAt 21 = .ok (.iload_n 1, 1) := by decide +kernel
theorem dX4_givesAt_22 : decode cX4_givesAt 22 = .ok (.iload_n 2, 1) := by decide +kernel
theorem dX4_givesAt_23 : decode cX4_givesAt 23 = .ok (.invokevirtual 76, 3) := by decide +kernel
theorem dX4_givesAt_26 : decode cX4_givesAt 26 = .ok (.ifCond .eq 7, 3) := by decide +kernel
theorem dX4_givesAt_29 : decode cX4_givesAt 29 = .ok (.iload_n 3, 1) := by decide +kernel
theorem dX4_givesAt_30 : decode cX4_givesAt 30 = .ok (.goto 7, 3) := by decide +kernel
theorem dX4_givesAt_33 : decode cX4_givesAt 33 = .ok (.iload_n 3, 1) := by decide +kernel
theorem dX4_givesAt_34 : decode cX4_givesAt 34 = .ok (.bipush 10, 2) := by decide +kernel
theorem dX4_givesAt_36 : decode cX4_givesAt 36 = .ok (.iadd, 1) := by decide +kernel
theorem dX4_givesAt_37 : decode cX4_givesAt 37 = .ok (.ireturn, 1) := by decide +kernel
set_option maxRecDepth 20000 in
theorem ggX4_passHour_X4_mayDraw : GoodIn wsX4_passHour wsX4_mayDraw := goodIn_r _ [6, 7, 8, 9, 10, 11, 12, 13, 70, 71, 72, 73, 74, 75, 76, 77, 78, 79, 80, 81, 82, 83, 84, 85, 86] (by decide +kernel) (by decide +kernel)
set_option maxRecDepth 20000 in
theorem gX4_passHour_X4_mayDraw : GoodIn wsX4_passHour (wsV RX4 80 RX4 yX4_mayDraw wsX4_mayDraw) := goodIn_app (goodIn_of _ (by decide +kernel)) ggX4_passHour_X4_mayDraw
set_option maxRecDepth 20000 in
theorem ggX4_passHour_X4_drawBy : GoodIn wsX4_passHour wsX4_drawBy := goodIn_r _ [17, 7, 1, 18, 19, 20, 21, 8, 22, 10, 23, 24, 25, 26, 27, 28, 29, 30, 31, 32, 33, 34, 9, 11, 12, 13, 35, 36, 37, 38, 39, 40, 41, 42, 43, 44, 45, 46, 47, 48, 49, 50, 51, 52, 53, 54, 70, 71, 72, 73, 74, 75, 76, 77, 78, 79, 80, 81, 82, 83, 84, 85, 86] (by decide +kernel) (by decide +kernel)
set_option maxRecDepth 20000 in
theorem gX4_passHour_X4_drawBy : GoodIn wsX4_passHour (wsV RX4 83 RX4 yX4_drawBy wsX4_drawBy) := goodIn_app (goodIn_of _ (by decide +kernel)) ggX4_passHour_X4_drawBy
set_option maxRecDepth 20000 in
theorem ggX4_passHour_X4_endHour : GoodIn wsX4_passHour wsX4_endHour := goodIn_r _ [58, 18, 19, 59, 60, 7, 8, 61, 41, 27, 42, 62, 51, 63, 64, 65, 66, 67, 68, 69, 53, 26, 28, 70, 71, 72, 73, 74, 75, 76, 77, 78, 79, 80, 81, 82, 83, 84, 85, 86] (by decide +kernel) (by decide +kernel)
set_option maxRecDepth 20000 in
theorem gX4_passHour_X4_endHour : GoodIn wsX4_passHour (wsV RX4 87 RX4 yX4_endHour wsX4_endHour) := goodIn_app (goodIn_of _ (by decide +kernel)) ggX4_passHour_X4_endHour
theorem dX4_passHour_0 : decode cX4_passHour 0 = .ok (.iconst 0, 1) := by decide +kernel
theorem dX4_passHour_1 : decode cX4_passHour 1 = .ok (.istore_n 2, 1) := by decide +kernel
theorem dX4_passHour_2 : decode cX4_passHour 2 = .ok (.aload_n 0, 1) := by decide +kernel
theorem dX4_passHour_3 : decode cX4_passHour 3 = .ok (.iload_n 1, 1) := by decide +kernel
theorem dX4_passHour_4 : decode cX4_passHour 4 = .ok (.invokevirtual 80, 3) := by decide +kernel
theorem dX4_passHour_7 : decode cX4_passHour 7 = .ok (.ifCond .eq 17, 3) := by decide +kernel
theorem dX4_passHour_10 : decode cX4_passHour 10 = .ok (.aload_n 0, 1) := by decide +kernel
theorem dX4_passHour_11 : decode cX4_passHour 11 = .ok (.iload_n 1, 1) := by decide +kernel
theorem dX4_passHour_12 : decode cX4_passHour 12 = .ok (.invokevirtual 83, 3) := by decide +kernel
theorem dX4_passHour_15 : decode cX4_passHour 15 = .ok (.istore_n 2, 1) := by decide +kernel
theorem dX4_passHour_16 : decode cX4_passHour 16 = .ok (.aload_n 0, 1) := by decide +kernel
theorem dX4_passHour_17 : decode cX4_passHour 17 = .ok (.iload_n 1, 1) := by decide +kernel
theorem dX4_passHour_18 : decode cX4_passHour 18 = .ok (.putfield 47, 3) := by decide +kernel
theorem dX4_passHour_21 : decode cX4_passHour 21 = .ok (.goto 9, 3) := by decide +kernel
theorem dX4_passHour_24 : decode cX4_passHour 24 = .ok (.aload_n 0, 1) := by decide +kernel
theorem dX4_passHour_25 : decode cX4_passHour 25 = .ok (.bipush 9, 2) := by decide +kernel
theorem dX4_passHour_27 : decode cX4_passHour 27 = .ok (.putfield 47, 3) := by decide +kernel
theorem dX4_passHour_30 : decode cX4_passHour 30 = .ok (.aload_n 0, 1) := by decide +kernel
theorem dX4_passHour_31 : decode cX4_passHour 31 = .ok (.invokevirtual 87, 3) := by decide +kernel
theorem dX4_passHour_34 : decode cX4_passHour 34 = .ok (.iload_n 2, 1) := by decide +kernel
theorem dX4_passHour_35 : decode cX4_passHour 35 = .ok (.ireturn, 1) := by decide +kernel
set_option maxRecDepth 20000 in
theorem ggX4_drawBy_X0_pailsBehind : GoodIn wsX4_drawBy wsX0_pailsBehind := goodIn_r _ [11, 12, 13, 14, 15, 16, 17, 18, 9, 19, 20, 21, 22, 23, 24, 25, 26, 27, 28, 29, 30, 31, 32, 33, 58, 59, 60, 61, 62] (by decide +kernel) (by decide +kernel)
set_option maxRecDepth 20000 in
theorem gX4_drawBy_X0_pailsBehind_n90 : GoodIn wsX4_drawBy (wsX0_pailsBehind) := ggX4_drawBy_X0_pailsBehind
set_option maxRecDepth 20000 in
theorem ggX4_drawBy_X0_isSweet : GoodIn wsX4_drawBy wsX0_isSweet := goodIn_r _ [36, 30, 58, 59, 60, 61, 62] (by decide +kernel) (by decide +kernel)
set_option maxRecDepth 20000 in
theorem gX4_drawBy_X0_isSweet_n76 : GoodIn wsX4_drawBy (wsX0_isSweet) := ggX4_drawBy_X0_isSweet
set_option maxRecDepth 20000 in
theorem ggX4_drawBy_X0_moodBehind : GoodIn wsX4_drawBy wsX0_moodBehind := goodIn_r _ [39, 30, 40, 41, 42, 43, 44, 13, 14, 15, 45, 32, 33, 58, 59, 60, 61, 62] (by decide +kernel) (by decide +kernel)
set_option maxRecDepth 20000 in
theorem gX4_drawBy_X0_moodBehind_n94 : GoodIn wsX4_drawBy (wsX0_moodBehind) := ggX4_drawBy_X0_moodBehind
theorem dX4_drawBy_0 : decode cX4_drawBy 0 = .ok (.aload_n 0, 1) := by decide +kernel
theorem dX4_drawBy_1 : decode cX4_drawBy 1 = .ok (.getfield 12, 3) := by decide +kernel
theorem dX4_drawBy_4 : decode cX4_drawBy 4 = .ok (.aload_n 0, 1) := by decide +kernel
theorem dX4_drawBy_5 : decode cX4_drawBy 5 = .ok (.getfield 47, 3) := by decide +kernel
theorem dX4_drawBy_8 : decode cX4_drawBy 8 = .ok (.iload_n 1, 1) := by decide +kernel
theorem dX4_drawBy_9 : decode cX4_drawBy 9 = .ok (.aload_n 0, 1) := by decide +kernel
theorem dX4_drawBy_10 : decode cX4_drawBy 10 = .ok (.getfield 29, 3) := by decide +kernel
theorem dX4_drawBy_13 : decode cX4_drawBy 13 = .ok (.aload_n 0, 1) := by decide +kernel
theorem dX4_drawBy_14 : decode cX4_drawBy 14 = .ok (.getfield 32, 3) := by decide +kernel
theorem dX4_drawBy_17 : decode cX4_drawBy 17 = .ok (.invokevirtual 90, 3) := by decide +kernel
theorem dX4_drawBy_20 : decode cX4_drawBy 20 = .ok (.istore_n 2, 1) := by decide +kernel
theorem dX4_drawBy_21 : decode cX4_drawBy 21 = .ok (.aload_n 0, 1) := by decide +kernel
theorem dX4_drawBy_22 : decode cX4_drawBy 22 = .ok (.getfield 12, 3) := by decide +kernel
theorem dX4_drawBy_25 : decode cX4_drawBy 25 = .ok (.iload_n 1, 1) := by decide +kernel
theorem dX4_drawBy_26 : decode cX4_drawBy 26 = .ok (.aload_n 0, 1) := by decide +kernel
theorem dX4_drawBy_27 : decode cX4_drawBy 27 = .ok (.getfield 29, 3) := by decide +kernel
theorem dX4_drawBy_30 : decode cX4_drawBy 30 = .ok (.invokevirtual 76, 3) := by decide +kernel
theorem dX4_drawBy_33 : decode cX4_drawBy 33 = .ok (.ifCond .eq 16, 3) := by decide +kernel
theorem dX4_drawBy_36 : decode cX4_drawBy 36 = .ok (.aload_n 0, 1) := by decide +kernel
theorem dX4_drawBy_37 : decode cX4_drawBy 37 = .ok (.dup, 1) := by decide +kernel
theorem dX4_drawBy_38 : decode cX4_drawBy 38 = .ok (.getfield 38, 3) := by decide +kernel
theorem dX4_drawBy_41 : decode cX4_drawBy 41 = .ok (.iload_n 2, 1) := by decide +kernel
theorem dX4_drawBy_42 : decode cX4_drawBy 42 = .ok (.iadd, 1) := by decide +kernel
theorem dX4_drawBy_43 : decode cX4_drawBy 43 = .ok (.putfield 38, 3) := by decide +kernel
theorem dX4_drawBy_46 : decode cX4_drawBy 46 = .ok (.goto 13, 3) := by decide +kernel
theorem dX4_drawBy_49 : decode cX4_drawBy 49 = .ok (.aload_n 0, 1) := by decide +kernel
theorem dX4_drawBy_50 : decode cX4_drawBy 50 = .ok (.dup, 1) := by decide +kernel
theorem dX4_drawBy_51 : decode cX4_drawBy 51 = .ok (.getfield 41, 3) := by decide +kernel
theorem dX4_drawBy_54 : decode cX4_drawBy 54 = .ok (.iload_n 2, 1) := by decide +kernel
theorem dX4_drawBy_55 : decode cX4_drawBy 55 = .ok (.iadd, 1) := by decide +kernel
theorem dX4_drawBy_56 : decode cX4_drawBy 56 = .ok (.putfield 41, 3) := by decide +kernel
theorem dX4_drawBy_59 : decode cX4_drawBy 59 = .ok (.aload_n 0, 1) := by decide +kernel
theorem dX4_drawBy_60 : decode cX4_drawBy 60 = .ok (.dup, 1) := by decide +kernel
theorem dX4_drawBy_61 : decode cX4_drawBy 61 = .ok (.getfield 32, 3) := by decide +kernel
theorem dX4_drawBy_64 : decode cX4_drawBy 64 = .ok (.iload_n 2, 1) := by decide +kernel
theorem dX4_drawBy_65 : decode cX4_drawBy 65 = .ok (.isub, 1) := by decide +kernel
theorem dX4_drawBy_66 : decode cX4_drawBy 66 = .ok (.putfield 32, 3) := by decide +kernel
theorem dX4_drawBy_69 : decode cX4_drawBy 69 = .ok (.aload_n 0, 1) := by decide +kernel
theorem dX4_drawBy_70 : decode cX4_drawBy 70 = .ok (.aload_n 0, 1) := by decide +kernel
theorem dX4_drawBy_71 : decode cX4_drawBy 71 = .ok (.getfield 12, 3) := by decide +kernel
theorem dX4_drawBy_74 : decode cX4_drawBy 74 = .ok (.iload_n 1, 1) := by decide +kernel
theorem dX4_drawBy_75 : decode cX4_drawBy 75 = .ok (.aload_n 0, 1) := by decide +kernel
theorem dX4_drawBy_76 : decode cX4_drawBy 76 = .ok (.getfield 29, 3) := by decide +kernel
theorem dX4_drawBy_79 : decode cX4_drawBy 79 = .ok (.invokevirtual 94, 3) := by decide +kernel
theorem dX4_drawBy_82 : decode cX4_drawBy 82 = .ok (.putfield 29, 3) := by decide +kernel
theorem dX4_drawBy_85 : decode cX4_drawBy 85 = .ok (.aload_n 0, 1) := by decide +kernel
theorem dX4_drawBy_86 : decode cX4_drawBy 86 = .ok (.getfield 18, 3) := by decide +kernel
theorem dX4_drawBy_89 : decode cX4_drawBy 89 = .ok (.iload_n 1, 1) := by decide +kernel
theorem dX4_drawBy_90 : decode cX4_drawBy 90 = .ok (.aload_n 0, 1) := by decide +kernel
theorem dX4_drawBy_91 : decode cX4_drawBy 91 = .ok (.getfield 12, 3) := by decide +kernel
theorem dX4_drawBy_94 : decode cX4_drawBy 94 = .ok (.getfield 97, 3) := by decide +kernel
theorem dX4_drawBy_97 : decode cX4_drawBy 97 = .ok (.iload_n 1, 1) := by decide +kernel
theorem dX4_drawBy_98 : decode cX4_drawBy 98 = .ok (.iaload, 1) := by decide +kernel
theorem dX4_drawBy_99 : decode cX4_drawBy 99 = .ok (.iastore, 1) := by decide +kernel
theorem dX4_drawBy_100 : decode cX4_drawBy 100 = .ok (.iload_n 2, 1) := by decide +kernel
theorem dX4_drawBy_101 : decode cX4_drawBy 101 = .ok (.ireturn, 1) := by decide +kernel
set_option maxRecDepth 20000 in
theorem ggX4_endHour_X5_waned : GoodIn wsX4_endHour wsX5_waned := goodIn_r _ [13, 14, 15, 16, 17] (by decide +kernel) (by decide +kernel)
set_option maxRecDepth 20000 in
theorem gX4_endHour_X5_waned_n100 : GoodIn wsX4_endHour (wsX5_waned) := ggX4_endHour_X5_waned
set_option maxRecDepth 20000 in
theorem ggX4_endHour_X5_rained : GoodIn wsX4_endHour wsX5_rained := goodIn_r _ [19, 20, 21, 9, 22] (by decide +kernel) (by decide +kernel)
set_option maxRecDepth 20000 in
theorem gX4_endHour_X5_rained_n103 : GoodIn wsX4_endHour (wsX5_rained) := ggX4_endHour_X5_rained
theorem dX4_endHour_0 : decode cX4_endHour 0 = .ok (.aload_n 0, 1) := by decide +kernel
theorem dX4_endHour_1 : decode cX4_endHour 1 = .ok (.aload_n 0, 1) := by decide +kernel
theorem dX4_endHour_2 : decode cX4_endHour 2 = .ok (.getfield 29, 3) := by decide +kernel
theorem dX4_endHour_5 : decode cX4_endHour 5 = .ok (.invokestatic 100, 3) := by decide +kernel
theorem dX4_endHour_8 : decode cX4_endHour 8 = .ok (.putfield 29, 3) := by decide +kernel
theorem dX4_endHour_11 : decode cX4_endHour 11 = .ok (.aload_n 0, 1) := by decide +kernel
theorem dX4_endHour_12 : decode cX4_endHour 12 = .ok (.aload_n 0, 1) := by decide +kernel
theorem dX4_endHour_13 : decode cX4_endHour 13 = .ok (.getfield 32, 3) := by decide +kernel
theorem dX4_endHour_16 : decode cX4_endHour 16 = .ok (.aload_n 0, 1) := by decide +kernel
theorem dX4_endHour_17 : decode cX4_endHour 17 = .ok (.getfield 35, 3) := by decide +kernel
theorem dX4_endHour_20 : decode cX4_endHour 20 = .ok (.invokestatic 103, 3) := by decide +kernel
theorem dX4_endHour_23 : decode cX4_endHour 23 = .ok (.putfield 32, 3) := by decide +kernel
theorem dX4_endHour_26 : decode cX4_endHour 26 = .ok (.aload_n 0, 1) := by decide +kernel
theorem dX4_endHour_27 : decode cX4_endHour 27 = .ok (.dup, 1) := by decide +kernel
theorem dX4_endHour_28 : decode cX4_endHour 28 = .ok (.getfield 44, 3) := by decide +kernel
theorem dX4_endHour_31 : decode cX4_endHour 31 = .ok (.iconst 1, 1) := by decide +kernel
theorem dX4_endHour_32 : decode cX4_endHour 32 = .ok (.iadd, 1) := by decide +kernel
theorem dX4_endHour_33 : decode cX4_endHour 33 = .ok (.putfield 44, 3) := by decide +kernel
theorem dX4_endHour_36 : decode cX4_endHour 36 = .ok (.iconst 0, 1) := by decide +kernel
theorem dX4_endHour_37 : decode cX4_endHour 37 = .ok (.istore_n 1, 1) := by decide +kernel
theorem dX4_endHour_38 : decode cX4_endHour 38 = .ok (.iload_n 1, 1) := by decide +kernel
theorem dX4_endHour_39 : decode cX4_endHour 39 = .ok (.aload_n 0, 1) := by decide +kernel
theorem dX4_endHour_40 : decode cX4_endHour 40 = .ok (.getfield 12, 3) := by decide +kernel
theorem dX4_endHour_43 : decode cX4_endHour 43 = .ok (.getfield 106, 3) := by decide +kernel
theorem dX4_endHour_46 : decode cX4_endHour 46 = .ok (.if_icmp .ge 27, 3) := by decide +kernel
theorem dX4_endHour_49 : decode cX4_endHour 49 = .ok (.aload_n 0, 1) := by decide +kernel
theorem dX4_endHour_50 : decode cX4_endHour 50 = .ok (.getfield 18, 3) := by decide +kernel
theorem dX4_endHour_53 : decode cX4_endHour 53 = .ok (.iload_n 1, 1) := by decide +kernel
theorem dX4_endHour_54 : decode cX4_endHour 54 = .ok (.iconst 0, 1) := by decide +kernel
theorem dX4_endHour_55 : decode cX4_endHour 55 = .ok (.aload_n 0, 1) := by decide +kernel
theorem dX4_endHour_56 : decode cX4_endHour 56 = .ok (.getfield 18, 3) := by decide +kernel
theorem dX4_endHour_59 : decode cX4_endHour 59 = .ok (.iload_n 1, 1) := by decide +kernel
theorem dX4_endHour_60 : decode cX4_endHour 60 = .ok (.iaload, 1) := by decide +kernel
theorem dX4_endHour_61 : decode cX4_endHour 61 = .ok (.iconst 1, 1) := by decide +kernel
theorem dX4_endHour_62 : decode cX4_endHour 62 = .ok (.isub, 1) := by decide +kernel
theorem dX4_endHour_63 : decode cX4_endHour 63 = .ok (.invokestatic 109, 3) := by decide +kernel
theorem dX4_endHour_66 : decode cX4_endHour 66 = .ok (.iastore, 1) := by decide +kernel
theorem dX4_endHour_67 : decode cX4_endHour 67 = .ok (.iinc 1 1, 3) := by decide +kernel
theorem dX4_endHour_70 : decode cX4_endHour 70 = .ok (.goto (-32), 3) := by decide +kernel
theorem dX4_endHour_73 : decode cX4_endHour 73 = .ok (.return_, 1) := by decide +kernel
set_option maxRecDepth 20000 in
theorem ggX4_followPlan_X4_mayDraw : GoodIn wsX4_followPlan wsX4_mayDraw := goodIn_r _ [7, 8, 9, 10, 11, 12, 13, 14, 76, 77, 78, 79, 80, 81, 82, 83, 84, 85, 86, 87, 88, 89, 90, 91, 92] (by decide +kernel) (by decide +kernel)
set_option maxRecDepth 20000 in
theorem gX4_followPlan_X4_mayDraw : GoodIn wsX4_followPlan (wsV RX4 80 RX4 yX4_mayDraw wsX4_mayDraw) := goodIn_app (goodIn_of _ (by decide +kernel)) ggX4_followPlan_X4_mayDraw
set_option maxRecDepth 20000 in
theorem ggX4_followPlan_X4_passHour : GoodIn wsX4_followPlan wsX4_passHour := goodIn_r _ [18, 19, 3, 4, 5, 6, 7, 8, 9, 10, 11, 12, 13, 14, 20, 21, 22, 23, 24, 25, 26, 27, 28, 29, 30, 31, 32, 33, 34, 35, 36, 37, 38, 39, 40, 41, 42, 43, 44, 45, 46, 47, 48, 49, 50, 51, 52, 53, 54, 55, 56, 57, 58, 59, 60, 61, 62, 63, 64, 65, 66, 67, 68, 69, 70, 71, 72, 73, 74, 75, 76, 77, 78, 79, 80, 81, 82, 83, 84, 85, 86, 87, 88, 89, 90, 91, 92] (by decide +kernel) (by decide +kernel)
set_option maxRecDepth 20000 in
theorem gX4_followPlan_X4_passHour : GoodIn wsX4_followPlan (wsV RX4 112 RX4 yX4_passHour wsX4_passHour) := goodIn_app (goodIn_of _ (by decide +kernel)) ggX4_followPlan_X4_passHour
theorem dX4_followPlan_0 : decode cX4_followPlan 0 = .ok (.iconst 0, 1) := by decide +kernel
theorem dX4_followPlan_1 : decode cX4_followPlan 1 = .ok (.istore_n 1, 1) := by decide +kernel
theorem dX4_followPlan_2 : decode cX4_followPlan 2 = .ok (.iload_n 1, 1) := by decide +kernel
theorem dX4_followPlan_3 : decode cX4_followPlan 3 = .ok (.aload_n 0, 1) := by decide +kernel
theorem dX4_followPlan_4 : decode cX4_followPlan 4 = .ok (.getfield 25, 3) := by decide +kernel
theorem dX4_followPlan_7 : decode cX4_followPlan 7 = .ok (.if_icmp .ge 46, 3) := by decide +kernel
theorem dX4_followPlan_10 : decode cX4_followPlan 10 = .ok (.aload_n 0, 1) := by decide +kernel
theorem dX4_followPlan_11 : decode cX4_followPlan 11 = .ok (.getfield 22, 3) := by decide +kernel
theorem dX4_followPlan_14 : decode cX4_followPlan 14 = .ok (.iload_n 1, 1) := by decide +kernel
theorem dX4_followPlan_15 : decode cX4_followPlan 15 = .ok (.iaload, 1) := by decide +kernel
theorem dX4_followPlan_16 : decode cX4_followPlan 16 = .ok (.bipush 9, 2) := by decide +kernel
theorem dX4_followPlan_18 : decode cX4_followPlan 18 = .ok (.if_icmp .eq 18, 3) := by decide +kernel
theorem dX4_followPlan_21 : decode cX4_followPlan 21 = .ok (.aload_n 0, 1) := by decide +kernel
theorem dX4_followPlan_22 : decode cX4_followPlan 22 = .ok (.aload_n 0, 1) := by decide +kernel
theorem dX4_followPlan_23 : decode cX4_followPlan 23 = .ok (.getfield 22, 3) := by decide +kernel
theorem dX4_followPlan_26 : decode cX4_followPlan 26 = .ok (.iload_n 1, 1) := by decide +kernel
theorem dX4_followPlan_27 : decode cX4_followPlan 27 = .ok (.iaload, 1) := by decide +kernel
theorem dX4_followPlan_28 : decode cX4_followPlan 28 = .ok (.invokevirtual 80, 3) := by decide +kernel
theorem dX4_followPlan_31 : decode cX4_followPlan 31 = .ok (.ifCond .ne 5, 3) := by decide +kernel
theorem dX4_followPlan_34 : decode cX4_followPlan 34 = .ok (.iload_n 1, 1) := by decide +kernel
theorem dX4_followPlan_35 : decode cX4_followPlan 35 = .ok (.ireturn, 1) := by decide +kernel
theorem dX4_followPlan_36 : decode cX4_followPlan 36 = .ok (.aload_n 0, 1) := by decide +kernel
theorem dX4_followPlan_37 : decode cX4_followPlan 37 = .ok (.aload_n 0, 1) := by decide +kernel
theorem dX4_followPlan_38 : decode cX4_followPlan 38 = .ok (.getfield 22, 3) := by decide +kernel
theorem dX4_followPlan_41 : decode cX4_followPlan 41 = .ok (.iload_n 1, 1) := by decide +kernel
theorem dX4_followPlan_42 : decode cX4_followPlan 42 = .ok (.iaload, 1) := by decide +kernel
theorem dX4_followPlan_43 : decode cX4_followPlan 43 = .ok (.invokevirtual 112, 3) := by decide +kernel
theorem dX4_followPlan_46 : decode cX4_followPlan 46 = .ok (.pop, 1) := by decide +kernel
theorem dX4_followPlan_47 : decode cX4_followPlan 47 = .ok (.iinc 1 1, 3) := by decide +kernel
theorem dX4_followPlan_50 : decode cX4_followPlan 50 = .ok (.goto (-48), 3) := by decide +kernel
theorem dX4_followPlan_53 : decode cX4_followPlan 53 = .ok (.aload_n 0, 1) := by decide +kernel
theorem dX4_followPlan_54 : decode cX4_followPlan 54 = .ok (.getfield 25, 3) := by decide +kernel
theorem dX4_followPlan_57 : decode cX4_followPlan 57 = .ok (.ireturn, 1) := by decide +kernel
set_option maxRecDepth 20000 in
theorem ggX4_lot_X4_mayDraw : GoodIn wsX4_lot wsX4_mayDraw := goodIn_r _ [11, 6, 12, 13, 14, 15, 16, 17, 18, 19, 20, 21, 22, 23, 24, 25, 26, 27, 28, 29, 30, 31, 32, 33, 34] (by decide +kernel) (by decide +kernel)
set_option maxRecDepth 20000 in
theorem gX4_lot_X4_mayDraw : GoodIn wsX4_lot (wsV RX4 80 RX4 yX4_mayDraw wsX4_mayDraw) := goodIn_app (goodIn_of _ (by decide +kernel)) ggX4_lot_X4_mayDraw
theorem dX4_lot_0 : decode cX4_lot 0 = .ok (.aload_n 0, 1) := by decide +kernel
theorem dX4_lot_1 : decode cX4_lot 1 = .ok (.aload_n 0, 1) := by decide +kernel
theorem dX4_lot_2 : decode cX4_lot 2 = .ok (.getfield 50, 3) := by decide +kernel
theorem dX4_lot_5 : decode cX4_lot 5 = .ok (.i2l, 1) := by decide +kernel
theorem dX4_lot_6 : decode cX4_lot 6 = .ok (.ldc2_w 115, 3) := by decide +kernel
theorem dX4_lot_9 : decode cX4_lot 9 = .ok (.lmul, 1) := by decide +kernel
theorem dX4_lot_10 : decode cX4_lot 10 = .ok (.ldc2_w 117, 3) := by decide +kernel
theorem dX4_lot_13 : decode cX4_lot 13 = .ok (.ladd, 1) := by decide +kernel
theorem dX4_lot_14 : decode cX4_lot 14 = .ok (.ldc2_w 119, 3) := by decide +kernel
theorem dX4_lot_17 : decode cX4_lot 17 = .ok (.land, 1) := by decide +kernel
theorem dX4_lot_18 : decode cX4_lot 18 = .ok (.l2i, 1) := by decide +kernel
theorem dX4_lot_19 : decode cX4_lot 19 = .ok (.putfield 50, 3) := by decide +kernel
theorem dX4_lot_22 : decode cX4_lot 22 = .ok (.aload_n 0, 1) := by decide +kernel
theorem dX4_lot_23 : decode cX4_lot 23 = .ok (.getfield 50, 3) := by decide +kernel
theorem dX4_lot_26 : decode cX4_lot 26 = .ok (.ldc 121, 2) := by decide +kernel
theorem dX4_lot_28 : decode cX4_lot 28 = .ok (.idiv, 1) := by decide +kernel
theorem dX4_lot_29 : decode cX4_lot 29 = .ok (.aload_n 0, 1) := by decide +kernel
theorem dX4_lot_30 : decode cX4_lot 30 = .ok (.getfield 12, 3) := by decide +kernel
theorem dX4_lot_33 : decode cX4_lot 33 = .ok (.getfield 106, 3) := by decide +kernel
theorem dX4_lot_36 : decode cX4_lot 36 = .ok (.iconst 1, 1) := by decide +kernel
theorem dX4_lot_37 : decode cX4_lot 37 = .ok (.iadd, 1) := by decide +kernel
theorem dX4_lot_38 : decode cX4_lot 38 = .ok (.irem, 1) := by decide +kernel
theorem dX4_lot_39 : decode cX4_lot 39 = .ok (.istore_n 1, 1) := by decide +kernel
theorem dX4_lot_40 : decode cX4_lot 40 = .ok (.aload_n 0, 1) := by decide +kernel
theorem dX4_lot_41 : decode cX4_lot 41 = .ok (.iload_n 1, 1) := by decide +kernel
theorem dX4_lot_42 : decode cX4_lot 42 = .ok (.invokevirtual 80, 3) := by decide +kernel
theorem dX4_lot_45 : decode cX4_lot 45 = .ok (.ifCond .eq 7, 3) := by decide +kernel
theorem dX4_lot_48 : decode cX4_lot 48 = .ok (.iload_n 1, 1) := by decide +kernel
theorem dX4_lot_49 : decode cX4_lot 49 = .ok (.goto 5, 3) := by decide +kernel
theorem dX4_lot_52 : decode cX4_lot 52 = .ok (.bipush 9, 2) := by decide +kernel
theorem dX4_lot_54 : decode cX4_lot 54 = .ok (.ireturn, 1) := by decide +kernel
set_option maxRecDepth 20000 in
theorem ggX5_init_X4_init : GoodIn wsX5_init wsX4_init := goodIn_r _ [29, 30, 2, 3, 31, 15, 16, 32, 18, 33, 34, 35, 36, 37, 38, 39, 40, 41, 42, 43, 44, 45, 46, 47, 48, 49, 50, 51, 103, 104, 105, 106, 107, 80, 81, 82, 83, 84, 85, 86, 87, 88, 89, 90, 91] (by decide +kernel) (by decide +kernel)
set_option maxRecDepth 20000 in
theorem gX5_init_X4_init_n11 : GoodIn wsX5_init (wsX4_init) := ggX5_init_X4_init
set_option maxRecDepth 20000 in
theorem ggX5_init_X3_init : GoodIn wsX5_init wsX3_init := goodIn_r _ [53, 54, 2, 3, 55, 56, 57, 58, 100, 101, 102] (by decide +kernel) (by decide +kernel)
set_option maxRecDepth 20000 in
theorem gX5_init_X3_init_n25 : GoodIn wsX5_init (wsX3_init) := ggX5_init_X3_init
set_option maxRecDepth 20000 in
theorem ggX5_init_X0_init : GoodIn wsX5_init wsX0_init := goodIn_r _ [45, 46, 2, 3, 18, 47, 48, 49, 50, 51, 103, 104, 105, 106, 107] (by decide +kernel) (by decide +kernel)
set_option maxRecDepth 20000 in
theorem gX5_init_X0_init_n32 : GoodIn wsX5_init (wsX0_init) := ggX5_init_X0_init
set_option maxRecDepth 20000 in
theorem ggX5_init_X1_init : GoodIn wsX5_init wsX1_init := goodIn_r _ [60, 61, 2, 3, 62, 15, 16, 63, 18, 64, 65, 66, 67, 68, 69, 70, 71, 44, 45, 46, 47, 48, 49, 50, 51, 103, 104, 105, 106, 107, 108, 109, 110, 111, 112, 113, 114, 115, 116] (by decide +kernel) (by decide +kernel)
set_option maxRecDepth 20000 in
theorem gX5_init_X1_init_n43 : GoodIn wsX5_init (wsX1_init) := ggX5_init_X1_init
set_option maxRecDepth 20000 in
theorem ggX5_init_X2_init : GoodIn wsX5_init wsX2_init := goodIn_r _ [73, 74, 2, 3, 75, 76, 77, 78, 79, 117, 118, 119, 120] (by decide +kernel) (by decide +kernel)
set_option maxRecDepth 20000 in
theorem gX5_init_X2_init_n54 : GoodIn wsX5_init (wsX2_init) := ggX5_init_X2_init
theorem dX5_init_0 : decode cX5_init 0 = .ok (.aload_n 0, 1) := by decide +kernel
theorem dX5_init_1 : decode cX5_init 1 = .ok (.invokespecial 3, 3) := by decide +kernel
theorem dX5_init_4 : decode cX5_init 4 = .ok (.aload_n 0, 1) := by decide +kernel
theorem dX5_init_5 : decode cX5_init 5 = .ok (.new 9, 3) := by decide +kernel
theorem dX5_init_8 : decode cX5_init 8 = .ok (.dup, 1) := by decide +kernel
theorem dX5_init_9 : decode cX5_init 9 = .ok (.invokespecial 11, 3) := by decide +kernel
theorem dX5_init_12 : decode cX5_init 12 = .ok (.putfield 12, 3) := by decide +kernel
theorem dX5_init_15 : decode cX5_init 15 = .ok (.aload_n 0, 1) := by decide +kernel
theorem dX5_init_16 : decode cX5_init 16 = .ok (.new 9, 3) := by decide +kernel
theorem dX5_init_19 : decode cX5_init 19 = .ok (.dup, 1) := by decide +kernel
theorem dX5_init_20 : decode cX5_init 20 = .ok (.invokespecial 11, 3) := by decide +kernel
theorem dX5_init_23 : decode cX5_init 23 = .ok (.putfield 16, 3) := by decide +kernel
theorem dX5_init_26 : decode cX5_init 26 = .ok (.aload_n 0, 1) := by decide +kernel
theorem dX5_init_27 : decode cX5_init 27 = .ok (.iconst 0, 1) := by decide +kernel
theorem dX5_init_28 : decode cX5_init 28 = .ok (.putfield 19, 3) := by decide +kernel
theorem dX5_init_31 : decode cX5_init 31 = .ok (.aload_n 0, 1) := by decide +kernel
theorem dX5_init_32 : decode cX5_init 32 = .ok (.new 23, 3) := by decide +kernel
theorem dX5_init_35 : decode cX5_init 35 = .ok (.dup, 1) := by decide +kernel
theorem dX5_init_36 : decode cX5_init 36 = .ok (.invokespecial 25, 3) := by decide +kernel
theorem dX5_init_39 : decode cX5_init 39 = .ok (.putfield 26, 3) := by decide +kernel
theorem dX5_init_42 : decode cX5_init 42 = .ok (.aload_n 0, 1) := by decide +kernel
theorem dX5_init_43 : decode cX5_init 43 = .ok (.new 30, 3) := by decide +kernel
theorem dX5_init_46 : decode cX5_init 46 = .ok (.dup, 1) := by decide +kernel
theorem dX5_init_47 : decode cX5_init 47 = .ok (.invokespecial 32, 3) := by decide +kernel
theorem dX5_init_50 : decode cX5_init 50 = .ok (.putfield 33, 3) := by decide +kernel
theorem dX5_init_53 : decode cX5_init 53 = .ok (.aload_n 0, 1) := by decide +kernel
theorem dX5_init_54 : decode cX5_init 54 = .ok (.bipush 24, 2) := by decide +kernel
theorem dX5_init_56 : decode cX5_init 56 = .ok (.newarray .int, 2) := by decide +kernel
theorem dX5_init_58 : decode cX5_init 58 = .ok (.putfield 37, 3) := by decide +kernel
theorem dX5_init_61 : decode cX5_init 61 = .ok (.aload_n 0, 1) := by decide +kernel
theorem dX5_init_62 : decode cX5_init 62 = .ok (.new 41, 3) := by decide +kernel
theorem dX5_init_65 : decode cX5_init 65 = .ok (.dup, 1) := by decide +kernel
theorem dX5_init_66 : decode cX5_init 66 = .ok (.invokespecial 43, 3) := by decide +kernel
theorem dX5_init_69 : decode cX5_init 69 = .ok (.putfield 44, 3) := by decide +kernel
theorem dX5_init_72 : decode cX5_init 72 = .ok (.aload_n 0, 1) := by decide +kernel
theorem dX5_init_73 : decode cX5_init 73 = .ok (.iconst 4, 1) := by decide +kernel
theorem dX5_init_74 : decode cX5_init 74 = .ok (.anewarray 48, 3) := by decide +kernel
theorem dX5_init_77 : decode cX5_init 77 = .ok (.putfield 50, 3) := by decide +kernel
theorem dX5_init_80 : decode cX5_init 80 = .ok (.iconst 0, 1) := by decide +kernel
theorem dX5_init_81 : decode cX5_init 81 = .ok (.istore_n 1, 1) := by decide +kernel
theorem dX5_init_82 : decode cX5_init 82 = .ok (.iload_n 1, 1) := by decide +kernel
theorem dX5_init_83 : decode cX5_init 83 = .ok (.iconst 4, 1) := by decide +kernel
theorem dX5_init_84 : decode cX5_init 84 = .ok (.if_icmp .ge 22, 3) := by decide +kernel
theorem dX5_init_87 : decode cX5_init 87 = .ok (.aload_n 0, 1) := by decide +kernel
theorem dX5_init_88 : decode cX5_init 88 = .ok (.getfield 50, 3) := by decide +kernel
theorem dX5_init_91 : decode cX5_init 91 = .ok (.iload_n 1, 1) := by decide +kernel
theorem dX5_init_92 : decode cX5_init 92 = .ok (.new 48, 3) := by decide +kernel
theorem dX5_init_95 : decode cX5_init 95 = .ok (.dup, 1) := by decide +kernel
theorem dX5_init_96 : decode cX5_init 96 = .ok (.invokespecial 54, 3) := by decide +kernel
theorem dX5_init_99 : decode cX5_init 99 = .ok (.aastore, 1) := by decide +kernel
theorem dX5_init_100 : decode cX5_init 100 = .ok (.iinc 1 1, 3) := by decide +kernel
theorem dX5_init_103 : decode cX5_init 103 = .ok (.goto (-21), 3) := by decide +kernel
theorem dX5_init_106 : decode cX5_init 106 = .ok (.return_, 1) := by decide +kernel
set_option maxRecDepth 20000 in
theorem ggX5_folk_X5_within : GoodIn wsX5_folk wsX5_within := goodIn_r _ [5] (by decide +kernel) (by decide +kernel)
set_option maxRecDepth 20000 in
theorem gX5_folk_X5_within : GoodIn wsX5_folk (va_wsS RX5 55 yX5_within wsX5_within) := goodIn_app (goodIn_of _ (by decide +kernel)) ggX5_folk_X5_within
set_option maxRecDepth 20000 in
theorem ggX5_folk_X0_add : GoodIn wsX5_folk wsX0_add := goodIn_r _ [9, 10, 11, 12, 13, 14, 35, 36, 37, 38, 39] (by decide +kernel) (by decide +kernel)
set_option maxRecDepth 20000 in
theorem gX5_folk_X0_add_n66 : GoodIn wsX5_folk (wsX0_add) := ggX5_folk_X0_add
theorem dX5_folk_0 : decode cX5_folk 0 = .ok (.iload_n 1, 1) := by decide +kernel
theorem dX5_folk_1 : decode cX5_folk 1 = .ok (.iconst 0, 1) := by decide +kernel
theorem dX5_folk_2 : decode cX5_folk 2 = .ok (.iconst 3, 1) := by decide +kernel
theorem dX5_folk_3 : decode cX5_folk 3 = .ok (.invokestatic 55, 3) := by decide +kernel
theorem dX5_folk_6 : decode cX5_folk 6 = .ok (.ifCond .eq 23, 3) := by decide +kernel
theorem dX5_folk_9 : decode cX5_folk 9 = .ok (.iload_n 2, 1) := by decide +kernel
theorem dX5_folk_10 : decode cX5_folk 10 = .ok (.bipush (-3), 2) := by decide +kernel
theorem dX5_folk_12 : decode cX5_folk 12 = .ok (.iconst 3, 1) := by decide +kernel
theorem dX5_folk_13 : decode cX5_folk 13 = .ok (.invokestatic 55, 3) := by decide +kernel
theorem dX5_folk_16 : decode cX5_folk 16 = .ok (.ifCond .eq 13, 3) := by decide +kernel
theorem dX5_folk_19 : decode cX5_folk 19 = .ok (.iload_n 3, 1) := by decide +kernel
theorem dX5_folk_20 : decode cX5_folk 20 = .ok (.iconst 1, 1) := by decide +kernel
theorem dX5_folk_21 : decode cX5_folk 21 = .ok (.bipush 9, 2) := by decide +kernel
theorem dX5_folk_23 : decode cX5_folk 23 = .ok (.invokestatic 55, 3) := by decide +kernel
theorem dX5_folk_26 : decode cX5_folk 26 = .ok (.ifCond .ne 5, 3) := by decide +kernel
theorem dX5_folk_29 : decode cX5_folk 29 = .ok (.iconst (-1), 1) := by decide +kernel
theorem dX5_folk_30 : decode cX5_folk 30 = .ok (.ireturn, 1) := by decide +kernel
theorem dX5_folk_31 : decode cX5_folk 31 = .ok (.aload_n 0, 1) := by decide +kernel
theorem dX5_folk_32 : decode cX5_folk 32 = .ok (.getfield 12, 3) := by decide +kernel
theorem dX5_folk_35 : decode cX5_folk 35 = .ok (.getfield 59, 3) := by decide +kernel
theorem dX5_folk_38 : decode cX5_folk 38 = .ok (.getfield 62, 3) := by decide +kernel
theorem dX5_folk_41 : decode cX5_folk 41 = .ok (.bipush 6, 2) := by decide +kernel
theorem dX5_folk_43 : decode cX5_folk 43 = .ok (.if_icmp .lt 6, 3) := by decide +kernel
theorem dX5_folk_46 : decode cX5_folk 46 = .ok (.bipush (-3), 2) := by decide +kernel
theorem dX5_folk_48 : decode cX5_folk 48 = .ok (.ireturn, 1) := by decide +kernel
theorem dX5_folk_49 : decode cX5_folk 49 = .ok (.aload_n 0, 1) := by decide +kernel
theorem dX5_folk_50 : decode cX5_folk 50 = .ok (.getfield 12, 3) := by decide +kernel
theorem dX5_folk_53 : decode cX5_folk 53 = .ok (.getfield 59, 3) := by decide +kernel
theorem dX5_folk_56 : decode cX5_folk 56 = .ok (.iload_n 1, 1) := by decide +kernel
theorem dX5_folk_57 : decode cX5_folk 57 = .ok (.iload_n 2, 1) := by decide +kernel
theorem dX5_folk_58 : decode cX5_folk 58 = .ok (.iload_n 3, 1) := by decide +kernel
theorem dX5_folk_59 : decode cX5_folk 59 = .ok (.invokevirtual 66, 3) := by decide +kernel
theorem dX5_folk_62 : decode cX5_folk 62 = .ok (.ireturn, 1) := by decide +kernel
set_option maxRecDepth 20000 in
theorem ggX5_told_X0_has : GoodIn wsX5_told wsX0_has := goodIn_r _ [6, 7, 28, 29, 30, 31, 32] (by decide +kernel) (by decide +kernel)
set_option maxRecDepth 20000 in
theorem gX5_told_X0_has_n70 : GoodIn wsX5_told (wsX0_has) := ggX5_told_X0_has
theorem dX5_told_0 : decode cX5_told 0 = .ok (.aload_n 0, 1) := by decide +kernel
theorem dX5_told_1 : decode cX5_told 1 = .ok (.getfield 12, 3) := by decide +kernel
theorem dX5_told_4 : decode cX5_told 4 = .ok (.getfield 59, 3) := by decide +kernel
theorem dX5_told_7 : decode cX5_told 7 = .ok (.iload_n 1, 1) := by decide +kernel
theorem dX5_told_8 : decode cX5_told 8 = .ok (.invokevirtual 70, 3) := by decide +kernel
theorem dX5_told_11 : decode cX5_told 11 = .ok (.ifCond .ne 6, 3) := by decide +kernel
theorem dX5_told_14 : decode cX5_told 14 = .ok (.ldc 74, 2) := by decide +kernel
theorem dX5_told_16 : decode cX5_told 16 = .ok (.ireturn, 1) := by decide +kernel
theorem dX5_told_17 : decode cX5_told 17 = .ok (.iload_n 2, 1) := by decide +kernel
theorem dX5_told_18 : decode cX5_told 18 = .ok (.tableswitch 96 0 4 #[34, 47, 60, 73, 83], 34) := by decide +kernel
theorem dX5_told_52 : decode cX5_told 52 = .ok (.aload_n 0, 1) := by decide +kernel
theorem dX5_told_53 : decode cX5_told 53 = .ok (.getfield 12, 3) := by decide +kernel
theorem dX5_told_56 : decode cX5_told 56 = .ok (.getfield 59, 3) := by decide +kernel
theorem dX5_told_59 : decode cX5_told 59 = .ok (.getfield 75, 3) := by decide +kernel
theorem dX5_told_62 : decode cX5_told 62 = .ok (.iload_n 1, 1) := by decide +kernel
theorem dX5_told_63 : decode cX5_told 63 = .ok (.iaload, 1) := by decide +kernel
theorem dX5_told_64 : decode cX5_told 64 = .ok (.ireturn, 1) := by decide +kernel
theorem dX5_told_65 : decode cX5_told 65 = .ok (.aload_n 0, 1) := by decide +kernel
theorem dX5_told_66 : decode cX5_told 66 = .ok (.getfield 12, 3) := by decide +kernel
theorem dX5_told_69 : decode cX5_told 69 = .ok (.getfield 59, 3) := by decide +kernel
theorem dX5_told_72 : decode cX5_told 72 = .ok (.getfield 78, 3) := by decide +kernel
theorem dX5_told_75 : decode cX5_told 75 = .ok (.iload_n 1, 1) := by decide +kernel
theorem dX5_told_76 : decode cX5_told 76 = .ok (.iaload, 1) := by decide +kernel
theorem dX5_told_77 : decode cX5_told 77 = .ok (.ireturn, 1) := by decide +kernel
theorem dX5_told_78 : decode cX5_told 78 = .ok (.aload_n 0, 1) := by decide +kernel
theorem dX5_told_79 : decode cX5_told 79 = .ok (.getfield 12, 3) := by decide +kernel
theorem dX5_told_82 : decode cX5_told 82 = .ok (.getfield 59, 3) := by decide +kernel
theorem dX5_told_85 : decode cX5_told 85 = .ok (.getfield 81, 3) := by decide +kernel
theorem dX5_told_88 : decode cX5_told 88 = .ok (.iload_n 1, 1) := by decide +kernel
theorem dX5_told_89 : decode cX5_told 89 = .ok (.iaload, 1) := by decide +kernel
theorem dX5_told_90 : decode cX5_told 90 = .ok (.ireturn, 1) := by decide +kernel
theorem dX5_told_91 : decode cX5_told 91 = .ok (.aload_n 0, 1) := by decide +kernel
theorem dX5_told_92 : decode cX5_told 92 = .ok (.getfield 12, 3) := by decide +kernel
theorem dX5_told_95 : decode cX5_told 95 = .ok (.getfield 84, 3) := by decide +kernel
theorem dX5_told_98 : decode cX5_told 98 = .ok (.iload_n 1, 1) := by decide +kernel
theorem dX5_told_99 : decode cX5_told 99 = .ok (.iaload, 1) := by decide +kernel
theorem dX5_told_100 : decode cX5_told 100 = .ok (.ireturn, 1) := by decide +kernel
theorem dX5_told_101 : decode cX5_told 101 = .ok (.aload_n 0, 1) := by decide +kernel
theorem dX5_told_102 : decode cX5_told 102 = .ok (.getfield 12, 3) := by decide +kernel
theorem dX5_told_105 : decode cX5_told 105 = .ok (.getfield 59, 3) := by decide +kernel
theorem dX5_told_108 : decode cX5_told 108 = .ok (.getfield 87, 3) := by decide +kernel
theorem dX5_told_111 : decode cX5_told 111 = .ok (.iload_n 1, 1) := by decide +kernel
theorem dX5_told_112 : decode cX5_told 112 = .ok (.iaload, 1) := by decide +kernel
theorem dX5_told_113 : decode cX5_told 113 = .ok (.ireturn, 1) := by decide +kernel
theorem dX5_told_114 : decode cX5_told 114 = .ok (.ldc 74, 2) := by decide +kernel
theorem dX5_told_116 : decode cX5_told 116 = .ok (.ireturn, 1) := by decide +kernel
set_option maxRecDepth 20000 in
theorem ggX5_quarrel_X0_has : GoodIn wsX5_quarrel wsX0_has := goodIn_r _ [5, 6, 35, 36, 37, 38, 39] (by decide +kernel) (by decide +kernel)
set_option maxRecDepth 20000 in
theorem gX5_quarrel_X0_has_n70 : GoodIn wsX5_quarrel (wsX0_has) := ggX5_quarrel_X0_has
set_option maxRecDepth 20000 in
theorem ggX5_quarrel_X0_areFoes : GoodIn wsX5_quarrel wsX0_areFoes := goodIn_r _ [9, 10, 11, 2, 4, 3, 5, 6, 35, 36, 37, 38, 39] (by decide +kernel) (by decide +kernel)
set_option maxRecDepth 20000 in
theorem gX5_quarrel_X0_areFoes_n90 : GoodIn wsX5_quarrel (wsX0_areFoes) := ggX5_quarrel_X0_areFoes
set_option maxRecDepth 20000 in
theorem ggX5_quarrel_X0_makeFoes : GoodIn wsX5_quarrel wsX0_makeFoes := goodIn_r _ [14, 10, 11, 2, 4, 3, 5, 6, 35, 36, 37, 38, 39] (by decide +kernel) (by decide +kernel)
set_option maxRecDepth 20000 in
theorem gX5_quarrel_X0_makeFoes_n94 : GoodIn wsX5_quarrel (wsX0_makeFoes) := ggX5_quarrel_X0_makeFoes
theorem dX5_quarrel_0 : decode cX5_quarrel 0 = .ok (.aload_n 0, 1) := by decide +kernel
theorem dX5_quarrel_1 : decode cX5_quarrel 1 = .ok (.getfield 12, 3) := by decide +kernel
theorem dX5_quarrel_4 : decode cX5_quarrel 4 = .ok (.getfield 59, 3) := by decide +kernel
theorem dX5_quarrel_7 : decode cX5_quarrel 7 = .ok (.iload_n 1, 1) := by decide +kernel
theorem dX5_quarrel_8 : decode cX5_quarrel 8 = .ok (.invokevirtual 70, 3) := by decide +kernel
theorem dX5_quarrel_11 : decode cX5_quarrel 11 = .ok (.ifCond .eq 22, 3) := by decide +kernel
theorem dX5_quarrel_14 : decode cX5_quarrel 14 = .ok (.aload_n 0, 1) := by decide +kernel
theorem dX5_quarrel_15 : decode cX5_quarrel 15 = .ok (.getfield 12, 3) := by decide +kernel
theorem dX5_quarrel_18 : decode cX5_quarrel 18 = .ok (.getfield 59, 3) := by decide +kernel
theorem dX5_quarrel_21 : decode cX5_quarrel 21 = .ok (.iload_n 2, 1) := by decide +kernel
theorem dX5_quarrel_22 : decode cX5_quarrel 22 = .ok (.invokevirtual 70, 3) := by decide +kernel
theorem dX5_quarrel_25 : decode cX5_quarrel 25 = .ok (.ifCond .eq 8, 3) := by decide +kernel
theorem dX5_quarrel_28 : decode cX5_quarrel 28 = .ok (.iload_n 1, 1) := by decide +kernel
theorem dX5_quarrel_29 : decode cX5_quarrel 29 = .ok (.iload_n 2, 1) := by decide +kernel
theorem dX5_quarrel_30 : decode cX5_quarrel 30 = .ok (.if_icmp .ne 5, 3) := by decide +kernel
theorem dX5_quarrel_33 : decode cX5_quarrel 33 = .ok (.iconst (-1), 1) := by decide +kernel
theorem dX5_quarrel_34 : decode cX5_quarrel 34 = .ok (.ireturn, 1) := by decide +kernel
theorem dX5_quarrel_35 : decode cX5_quarrel 35 = .ok (.aload_n 0, 1) := by decide +kernel
theorem dX5_quarrel_36 : decode cX5_quarrel 36 = .ok (.getfield 12, 3) := by decide +kernel
theorem dX5_quarrel_39 : decode cX5_quarrel 39 = .ok (.getfield 59, 3) := by decide +kernel
theorem dX5_quarrel_42 : decode cX5_quarrel 42 = .ok (.iload_n 1, 1) := by decide +kernel
theorem dX5_quarrel_43 : decode cX5_quarrel 43 = .ok (.iload_n 2, 1) := by decide +kernel
theorem dX5_quarrel_44 : decode cX5_quarrel 44 = .ok (.invokevirtual 90, 3) := by decide +kernel
theorem dX5_quarrel_47 : decode cX5_quarrel 47 = .ok (.ifCond .eq 7, 3) := by decide +kernel
theorem dX5_quarrel_50 : decode cX5_quarrel 50 = .ok (.iconst 1, 1) := by decide +kernel
theorem dX5_quarrel_51 : decode cX5_quarrel 51 = .ok (.goto 4, 3) := by decide +kernel
theorem dX5_quarrel_54 : decode cX5_quarrel 54 = .ok (.iconst 0, 1) := by decide +kernel
theorem dX5_quarrel_55 : decode cX5_quarrel 55 = .ok (.istore 4, 2) := by decide +kernel
theorem dX5_quarrel_57 : decode cX5_quarrel 57 = .ok (.aload_n 0, 1) := by decide +kernel
theorem dX5_quarrel_58 : decode cX5_quarrel 58 = .ok (.getfield 12, 3) := by decide +kernel
theorem dX5_quarrel_61 : decode cX5_quarrel 61 = .ok (.getfield 59, 3) := by decide +kernel
theorem dX5_quarrel_64 : decode cX5_quarrel 64 = .ok (.iload_n 1, 1) := by decide +kernel
theorem dX5_quarrel_65 : decode cX5_quarrel 65 = .ok (.iload_n 2, 1) := by decide +kernel
theorem dX5_quarrel_66 : decode cX5_quarrel 66 = .ok (.iload_n 3, 1) := by decide +kernel
theorem dX5_quarrel_67 : decode cX5_quarrel 67 = .ok (.invokevirtual 94, 3) := by decide +kernel
theorem dX5_quarrel_70 : decode cX5_quarrel 70 = .ok (.iload 4, 2) := by decide +kernel
theorem dX5_quarrel_72 : decode cX5_quarrel 72 = .ok (.ireturn, 1) := by decide +kernel
set_option maxRecDepth 20000 in
theorem ggX5_set_X5_isMood : GoodIn wsX5_set wsX5_isMood := goodIn_r _ [6, 7, 8, 5, 9] (by decide +kernel) (by decide +kernel)
set_option maxRecDepth 20000 in
theorem gX5_set_X5_isMood : GoodIn wsX5_set (va_wsS RX5 98 yX5_isMood wsX5_isMood) := goodIn_app (goodIn_of _ (by decide +kernel)) ggX5_set_X5_isMood
set_option maxRecDepth 20000 in
theorem ggX5_set_X5_within : GoodIn wsX5_set wsX5_within := goodIn_r _ [9] (by decide +kernel) (by decide +kernel)
set_option maxRecDepth 20000 in
theorem gX5_set_X5_within : GoodIn wsX5_set (va_wsS RX5 55 yX5_within wsX5_within) := goodIn_app (goodIn_of _ (by decide +kernel)) ggX5_set_X5_within
theorem dX5_set_0 : decode cX5_set 0 = .ok (.ldc 74, 2) := by decide +kernel
theorem dX5_set_2 : decode cX5_set 2 = .ok (.istore_n 3, 1) := by decide +kernel
theorem dX5_set_3 : decode cX5_set 3 = .ok (.iload_n 1, 1) := by decide +kernel
theorem dX5_set_4 : decode cX5_set 4 = .ok (.ifCond .ne 29, 3) := by decide +kernel
theorem dX5_set_7 : decode cX5_set 7 = .ok (.iload_n 2, 1) := by decide +kernel
theorem dX5_set_8 : decode cX5_set 8 = .ok (.invokestatic 98, 3) := by decide +kernel
theorem dX5_set_11 : decode cX5_set 11 = .ok (.ifCond .eq 22, 3) := by decide +kernel
theorem dX5_set_14 : decode cX5_set 14 = .ok (.aload_n 0, 1) := by decide +kernel
theorem dX5_set_15 : decode cX5_set 15 = .ok (.getfield 12, 3) := by decide +kernel
theorem dX5_set_18 : decode cX5_set 18 = .ok (.getfield 101, 3) := by decide +kernel
theorem dX5_set_21 : decode cX5_set 21 = .ok (.istore_n 3, 1) := by decide +kernel
theorem dX5_set_22 : decode cX5_set 22 = .ok (.aload_n 0, 1) := by decide +kernel
theorem dX5_set_23 : decode cX5_set 23 = .ok (.getfield 12, 3) := by decide +kernel
theorem dX5_set_26 : decode cX5_set 26 = .ok (.iload_n 2, 1) := by decide +kernel
theorem dX5_set_27 : decode cX5_set 27 = .ok (.putfield 101, 3) := by decide +kernel
theorem dX5_set_30 : decode cX5_set 30 = .ok (.goto 69, 3) := by decide +kernel
theorem dX5_set_33 : decode cX5_set 33 = .ok (.iload_n 1, 1) := by decide +kernel
theorem dX5_set_34 : decode cX5_set 34 = .ok (.iconst 1, 1) := by decide +kernel
theorem dX5_set_35 : decode cX5_set 35 = .ok (.if_icmp .ne 33, 3) := by decide +kernel
theorem dX5_set_38 : decode cX5_set 38 = .ok (.iload_n 2, 1) := by decide +kernel
theorem dX5_set_39 : decode cX5_set 39 = .ok (.iconst 0, 1) := by decide +kernel
theorem dX5_set_40 : decode cX5_set 40 = .ok (.sipush 999, 3) := by decide +kernel
theorem dX5_set_43 : decode cX5_set 43 = .ok (.invokestatic 55, 3) := by decide +kernel
theorem dX5_set_46 : decode cX5_set 46 = .ok (.ifCond .eq 22, 3) := by decide +kernel
theorem dX5_set_49 : decode cX5_set 49 = .ok (.aload_n 0, 1) := by decide +kernel
theorem dX5_set_50 : decode cX5_set 50 = .ok (.getfield 12, 3) := by decide +kernel
theorem dX5_set_53 : decode cX5_set 53 = .ok (.getfield 104, 3) := by decide +kernel
theorem dX5_set_56 : decode cX5_set 56 = .ok (.istore_n 3, 1) := by decide +kernel
theorem dX5_set_57 : decode cX5_set 57 = .ok (.aload_n 0, 1) := by decide +kernel
theorem dX5_set_58 : decode cX5_set 58 = .ok (.getfield 12, 3) := by decide +kernel
theorem dX5_set_61 : decode cX5_set 61 = .ok (.iload_n 2, 1) := by decide +kernel
theorem dX5_set_62 : decode cX5_set 62 = .ok (.putfield 104, 3) := by decide +kernel
theorem dX5_set_65 : decode cX5_set 65 = .ok (.goto 34, 3) := by decide +kernel
theorem dX5_set_68 : decode cX5_set 68 = .ok (.iload_n 1, 1) := by decide +kernel
theorem dX5_set_69 : decode cX5_set 69 = .ok (.iconst 2, 1) := by decide +kernel
theorem dX5_set_70 : decode cX5_set 70 = .ok (.if_icmp .ne 29, 3) := by decide +kernel
theorem dX5_set_73 : decode cX5_set 73 = .ok (.iload_n 2, 1) := by decide +kernel
theorem dX5_set_74 : decode cX5_set 74 = .ok (.iconst 0, 1) := by decide +kernel
theorem dX5_set_75 : decode cX5_set 75 = .ok (.bipush 9, 2) := by decide +kernel
theorem dX5_set_77 : decode cX5_set 77 = .ok (.invokestatic 55, 3) := by decide +kernel
theorem dX5_set_80 : decode cX5_set 80 = .ok (.ifCond .eq 19, 3) := by decide +kernel
theorem dX5_set_83 : decode cX5_set 83 = .ok (.aload_n 0, 1) := by decide +kernel
theorem dX5_set_84 : decode cX5_set 84 = .ok (.getfield 12, 3) := by decide +kernel
theorem dX5_set_87 : decode cX5_set 87 = .ok (.getfield 107, 3) := by decide +kernel
theorem dX5_set_90 : decode cX5_set 90 = .ok (.istore_n 3, 1) := by decide +kernel
theorem dX5_set_91 : decode cX5_set 91 = .ok (.aload_n 0, 1) := by decide +kernel
theorem dX5_set_92 : decode cX5_set 92 = .ok (.getfield 12, 3) := by decide +kernel
theorem dX5_set_95 : decode cX5_set 95 = .ok (.iload_n 2, 1) := by decide +kernel
theorem dX5_set_96 : decode cX5_set 96 = .ok (.putfield 107, 3) := by decide +kernel
theorem dX5_set_99 : decode cX5_set 99 = .ok (.iload_n 3, 1) := by decide +kernel
theorem dX5_set_100 : decode cX5_set 100 = .ok (.ireturn, 1) := by decide +kernel
theorem dX5_is_0 : decode cX5_is 0 = .ok (.iload_n 1, 1) := by decide +kernel
theorem dX5_is_1 : decode cX5_is 1 = .ok (.tableswitch 126 0 8 #[51, 59, 67, 75, 83, 91, 99, 110, 118], 51) := by decide +kernel
theorem dX5_is_52 : decode cX5_is 52 = .ok (.aload_n 0, 1) := by decide +kernel
theorem dX5_is_53 : decode cX5_is 53 = .ok (.getfield 12, 3) := by decide +kernel
theorem dX5_is_56 : decode cX5_is 56 = .ok (.getfield 101, 3) := by decide +kernel
theorem dX5_is_59 : decode cX5_is 59 = .ok (.ireturn, 1) := by decide +kernel
theorem dX5_is_60 : decode cX5_is 60 = .ok (.aload_n 0, 1) := by decide +kernel
theorem dX5_is_61 : decode cX5_is 61 = .ok (.getfield 12, 3) := by decide +kernel
theorem dX5_is_64 : decode cX5_is 64 = .ok (.getfield 104, 3) := by decide +kernel
theorem dX5_is_67 : decode cX5_is 67 = .ok (.ireturn, 1) := by decide +kernel
theorem dX5_is_68 : decode cX5_is 68 = .ok (.aload_n 0, 1) := by decide +kernel
theorem dX5_is_69 : decode cX5_is 69 = .ok (.getfield 12, 3) := by decide +kernel
theorem dX5_is_72 : decode cX5_is 72 = .ok (.getfield 107, 3) := by decide +kernel
theorem dX5_is_75 : decode cX5_is 75 = .ok (.ireturn, 1) := by decide +kernel
theorem dX5_is_76 : decode cX5_is 76 = .ok (.aload_n 0, 1) := by decide +kernel
theorem dX5_is_77 : decode cX5_is 77 = .ok (.getfield 12, 3) := by decide +kernel
theorem dX5_is_80 : decode cX5_is 80 = .ok (.getfield 110, 3) := by decide +kernel
theorem dX5_is_83 : decode cX5_is 83 = .ok (.ireturn, 1) := by decide +kernel
theorem dX5_is_84 : decode cX5_is 84 = .ok (.aload_n 0, 1) := by decide +kernel
theorem dX5_is_85 : decode cX5_is 85 = .ok (.getfield 12, 3) := by decide +kernel
theorem dX5_is_88 : decode cX5_is 88 = .ok (.getfield 113, 3) := by decide +kernel
theorem dX5_is_91 : decode cX5_is 91 = .ok (.ireturn, 1) := by decide +kernel
theorem dX5_is_92 : decode cX5_is 92 = .ok (.aload_n 0, 1) := by decide +kernel
theorem dX5_is_93 : decode cX5_is 93 = .ok (.getfield 12, 3) := by decide +kernel
theorem dX5_is_96 : decode cX5_is 96 = .ok (.getfield 116, 3) := by decide +kernel
theorem dX5_is_99 : decode cX5_is 99 = .ok (.ireturn, 1) := by decide +kernel
theorem dX5_is_100 : decode cX5_is 100 = .ok (.aload_n 0, 1) := by decide +kernel
theorem dX5_is_101 : decode cX5_is 101 = .ok (.getfield 12, 3) := by decide +kernel
theorem dX5_is_104 : decode cX5_is 104 = .ok (.getfield 59, 3) := by decide +kernel
theorem dX5_is_107 : decode cX5_is 107 = .ok (.getfield 62, 3) := by decide +kernel
theorem dX5_is_110 : decode cX5_is 110 = .ok (.ireturn, 1) := by decide +kernel
theorem dX5_is_111 : decode cX5_is 111 = .ok (.aload_n 0, 1) := by decide +kernel
theorem dX5_is_112 : decode cX5_is 112 = .ok (.getfield 12, 3) := by decide +kernel
theorem dX5_is_115 : decode cX5_is 115 = .ok (.getfield 119, 3) := by decide +kernel
theorem dX5_is_118 : decode cX5_is 118 = .ok (.ireturn, 1) := by decide +kernel
theorem dX5_is_119 : decode cX5_is 119 = .ok (.aload_n 0, 1) := by decide +kernel
theorem dX5_is_120 : decode cX5_is 120 = .ok (.getfield 12, 3) := by decide +kernel
theorem dX5_is_123 : decode cX5_is 123 = .ok (.getfield 122, 3) := by decide +kernel
theorem dX5_is_126 : decode cX5_is 126 = .ok (.ireturn, 1) := by decide +kernel
theorem dX5_is_127 : decode cX5_is 127 = .ok (.ldc 74, 2) := by decide +kernel
theorem dX5_is_129 : decode cX5_is 129 = .ok (.ireturn, 1) := by decide +kernel
set_option maxRecDepth 20000 in
theorem ggX5_type_X5_within : GoodIn wsX5_type wsX5_within := goodIn_r _ [5] (by decide +kernel) (by decide +kernel)
set_option maxRecDepth 20000 in
theorem gX5_type_X5_within : GoodIn wsX5_type (va_wsS RX5 55 yX5_within wsX5_within) := goodIn_app (goodIn_of _ (by decide +kernel)) ggX5_type_X5_within
set_option maxRecDepth 20000 in
theorem ggX5_type_X5_areSigns : GoodIn wsX5_type wsX5_areSigns := goodIn_r _ [8, 9, 10, 4, 11, 2, 3, 5] (by decide +kernel) (by decide +kernel)
set_option maxRecDepth 20000 in
theorem gX5_type_X5_areSigns : GoodIn wsX5_type (va_wsS RX5 125 yX5_areSigns wsX5_areSigns) := goodIn_app (goodIn_of _ (by decide +kernel)) ggX5_type_X5_areSigns
set_option maxRecDepth 20000 in
theorem ggX5_type_X5_byteOf : GoodIn wsX5_type wsX5_byteOf := goodIn_r _ [11] (by decide +kernel) (by decide +kernel)
set_option maxRecDepth 20000 in
theorem gX5_type_X5_byteOf : GoodIn wsX5_type (va_wsS RX5 132 yX5_byteOf wsX5_byteOf) := goodIn_app (goodIn_of _ (by decide +kernel)) ggX5_type_X5_byteOf
set_option maxRecDepth 20000 in
theorem ggX5_type_X3_append : GoodIn wsX5_type wsX3_append := goodIn_r _ [15, 16, 17, 26, 27, 28] (by decide +kernel) (by decide +kernel)
set_option maxRecDepth 20000 in
theorem gX5_type_X3_append_n136 : GoodIn wsX5_type (wsX3_append) := ggX5_type_X3_append
theorem dX5_type_0 : decode cX5_type 0 = .ok (.iload_n 3, 1) := by decide +kernel
theorem dX5_type_1 : decode cX5_type 1 = .ok (.iconst 1, 1) := by decide +kernel
theorem dX5_type_2 : decode cX5_type 2 = .ok (.bipush 8, 2) := by decide +kernel
theorem dX5_type_4 : decode cX5_type 4 = .ok (.invokestatic 55, 3) := by decide +kernel
theorem dX5_type_7 : decode cX5_type 7 = .ok (.ifCond .eq 11, 3) := by decide +kernel
theorem dX5_type_10 : decode cX5_type 10 = .ok (.lload_n 1, 1) := by decide +kernel
theorem dX5_type_11 : decode cX5_type 11 = .ok (.iload_n 3, 1) := by decide +kernel
theorem dX5_type_12 : decode cX5_type 12 = .ok (.invokestatic 125, 3) := by decide +kernel
theorem dX5_type_15 : decode cX5_type 15 = .ok (.ifCond .ne 5, 3) := by decide +kernel
theorem dX5_type_18 : decode cX5_type 18 = .ok (.iconst (-1), 1) := by decide +kernel
theorem dX5_type_19 : decode cX5_type 19 = .ok (.ireturn, 1) := by decide +kernel
theorem dX5_type_20 : decode cX5_type 20 = .ok (.aload_n 0, 1) := by decide +kernel
theorem dX5_type_21 : decode cX5_type 21 = .ok (.getfield 26, 3) := by decide +kernel
theorem dX5_type_24 : decode cX5_type 24 = .ok (.getfield 129, 3) := by decide +kernel
theorem dX5_type_27 : decode cX5_type 27 = .ok (.iload_n 3, 1) := by decide +kernel
theorem dX5_type_28 : decode cX5_type 28 = .ok (.iadd, 1) := by decide +kernel
theorem dX5_type_29 : decode cX5_type 29 = .ok (.bipush 60, 2) := by decide +kernel
theorem dX5_type_31 : decode cX5_type 31 = .ok (.if_icmp .le 6, 3) := by decide +kernel
theorem dX5_type_34 : decode cX5_type 34 = .ok (.bipush (-3), 2) := by decide +kernel
theorem dX5_type_36 : decode cX5_type 36 = .ok (.ireturn, 1) := by decide +kernel
theorem dX5_type_37 : decode cX5_type 37 = .ok (.iload_n 3, 1) := by decide +kernel
theorem dX5_type_38 : decode cX5_type 38 = .ok (.iconst 1, 1) := by decide +kernel
theorem dX5_type_39 : decode cX5_type 39 = .ok (.isub, 1) := by decide +kernel
theorem dX5_type_40 : decode cX5_type 40 = .ok (.istore 4, 2) := by decide +kernel
theorem dX5_type_42 : decode cX5_type 42 = .ok (.iload 4, 2) := by decide +kernel
theorem dX5_type_44 : decode cX5_type 44 = .ok (.ifCond .lt 22, 3) := by decide +kernel
theorem dX5_type_47 : decode cX5_type 47 = .ok (.aload_n 0, 1) := by decide +kernel
theorem dX5_type_48 : decode cX5_type 48 = .ok (.getfield 26, 3) := by decide +kernel
theorem dX5_type_51 : decode cX5_type 51 = .ok (.lload_n 1, 1) := by decide +kernel
theorem dX5_type_52 : decode cX5_type 52 = .ok (.iload 4, 2) := by decide +kernel
theorem dX5_type_54 : decode cX5_type 54 = .ok (.invokestatic 132, 3) := by decide +kernel
theorem dX5_type_57 : decode cX5_type 57 = .ok (.invokevirtual 136, 3) := by decide +kernel
theorem dX5_type_60 : decode cX5_type 60 = .ok (.iinc 4 (-1), 3) := by decide +kernel
theorem dX5_type_63 : decode cX5_type 63 = .ok (.goto (-21), 3) := by decide +kernel
theorem dX5_type_66 : decode cX5_type 66 = .ok (.aload_n 0, 1) := by decide +kernel
theorem dX5_type_67 : decode cX5_type 67 = .ok (.getfield 26, 3) := by decide +kernel
theorem dX5_type_70 : decode cX5_type 70 = .ok (.getfield 129, 3) := by decide +kernel
theorem dX5_type_73 : decode cX5_type 73 = .ok (.ireturn, 1) := by decide +kernel
set_option maxRecDepth 20000 in
theorem ggX5_village_X3_readFolk : GoodIn wsX5_village wsX3_readFolk := goodIn_r _ [7, 8, 9, 10, 11, 5, 12, 13, 14, 15, 16, 17, 18, 19, 20, 21, 22, 23, 24, 25, 26, 27, 28, 29, 30, 31, 32, 33, 34, 35, 36, 37, 38, 39, 40, 41, 61, 62, 63, 64, 65, 66, 67, 68] (by decide +kernel) (by decide +kernel)
set_option maxRecDepth 20000 in
theorem gX5_village_X3_readFolk_n140 : GoodIn wsX5_village (wsX3_readFolk) := ggX5_village_X3_readFolk
set_option maxRecDepth 20000 in
theorem ggX5_village_X4_settle : GoodIn wsX5_village wsX4_settle := goodIn_r _ [45, 46, 47, 48, 49, 50, 30, 51, 52, 34, 35, 36, 37, 33, 69, 70, 71, 72, 73, 74, 75, 76, 77, 78, 79, 80, 64, 65, 66, 67, 68] (by decide +kernel) (by decide +kernel)
set_option maxRecDepth 20000 in
theorem gX5_village_X4_settle_n144 : GoodIn wsX5_village (wsX4_settle) := ggX5_village_X4_settle
theorem dX5_village_0 : decode cX5_village 0 = .ok (.aload_n 0, 1) := by decide +kernel
theorem dX5_village_1 : decode cX5_village 1 = .ok (.getfield 26, 3) := by decide +kernel
theorem dX5_village_4 : decode cX5_village 4 = .ok (.aload_n 0, 1) := by decide +kernel
theorem dX5_village_5 : decode cX5_village 5 = .ok (.getfield 33, 3) := by decide +kernel
theorem dX5_village_8 : decode cX5_village 8 = .ok (.invokevirtual 140, 3) := by decide +kernel
theorem dX5_village_11 : decode cX5_village 11 = .ok (.istore_n 1, 1) := by decide +kernel
theorem dX5_village_12 : decode cX5_village 12 = .ok (.aload_n 0, 1) := by decide +kernel
theorem dX5_village_13 : decode cX5_village 13 = .ok (.getfield 26, 3) := by decide +kernel
theorem dX5_village_16 : decode cX5_village 16 = .ok (.iconst 0, 1) := by decide +kernel
theorem dX5_village_17 : decode cX5_village 17 = .ok (.putfield 129, 3) := by decide +kernel
theorem dX5_village_20 : decode cX5_village 20 = .ok (.iload_n 1, 1) := by decide +kernel
theorem dX5_village_21 : decode cX5_village 21 = .ok (.ifCond .le 14, 3) := by decide +kernel
theorem dX5_village_24 : decode cX5_village 24 = .ok (.aload_n 0, 1) := by decide +kernel
theorem dX5_village_25 : decode cX5_village 25 = .ok (.getfield 12, 3) := by decide +kernel
theorem dX5_village_28 : decode cX5_village 28 = .ok (.aload_n 0, 1) := by decide +kernel
theorem dX5_village_29 : decode cX5_village 29 = .ok (.getfield 33, 3) := by decide +kernel
theorem dX5_village_32 : decode cX5_village 32 = .ok (.invokevirtual 144, 3) := by decide +kernel
theorem dX5_village_35 : decode cX5_village 35 = .ok (.iload_n 1, 1) := by decide +kernel
theorem dX5_village_36 : decode cX5_village 36 = .ok (.ireturn, 1) := by decide +kernel
set_option maxRecDepth 20000 in
theorem ggX5_plan_X3_readPlan : GoodIn wsX5_plan wsX3_readPlan := goodIn_r _ [7, 8, 9, 10, 11, 5, 12, 13, 14, 15, 16, 17, 18, 19, 20, 21, 22, 23, 58, 59, 60, 61, 62, 63, 64, 65] (by decide +kernel) (by decide +kernel)
set_option maxRecDepth 20000 in
theorem gX5_plan_X3_readPlan_n148 : GoodIn wsX5_plan (wsX3_readPlan) := ggX5_plan_X3_readPlan
set_option maxRecDepth 20000 in
theorem ggX5_plan_X4_adopt : GoodIn wsX5_plan wsX4_adopt := goodIn_r _ [27, 28, 29, 30, 31, 32, 33, 34, 35, 36, 37, 46, 47, 48, 49, 50, 51, 52, 53, 54, 55, 56, 57] (by decide +kernel) (by decide +kernel)
set_option maxRecDepth 20000 in
theorem gX5_plan_X4_adopt_n152 : GoodIn wsX5_plan (wsX4_adopt) := ggX5_plan_X4_adopt
theorem dX5_plan_0 : decode cX5_plan 0 = .ok (.aload_n 0, 1) := by decide +kernel
theorem dX5_plan_1 : decode cX5_plan 1 = .ok (.getfield 26, 3) := by decide +kernel
theorem dX5_plan_4 : decode cX5_plan 4 = .ok (.aload_n 0, 1) := by decide +kernel
theorem dX5_plan_5 : decode cX5_plan 5 = .ok (.getfield 37, 3) := by decide +kernel
theorem dX5_plan_8 : decode cX5_plan 8 = .ok (.aload_n 0, 1) := by decide +kernel
theorem dX5_plan_9 : decode cX5_plan 9 = .ok (.getfield 12, 3) := by decide +kernel
theorem dX5_plan_12 : decode cX5_plan 12 = .ok (.getfield 59, 3) := by decide +kernel
theorem dX5_plan_15 : decode cX5_plan 15 = .ok (.invokevirtual 148, 3) := by decide +kernel
theorem dX5_plan_18 : decode cX5_plan 18 = .ok (.istore_n 1, 1) := by decide +kernel
theorem dX5_plan_19 : decode cX5_plan 19 = .ok (.aload_n 0, 1) := by decide +kernel
theorem dX5_plan_20 : decode cX5_plan 20 = .ok (.getfield 26, 3) := by decide +kernel
theorem dX5_plan_23 : decode cX5_plan 23 = .ok (.iconst 0, 1) := by decide +kernel
theorem dX5_plan_24 : decode cX5_plan 24 = .ok (.putfield 129, 3) := by decide +kernel
theorem dX5_plan_27 : decode cX5_plan 27 = .ok (.iload_n 1, 1) := by decide +kernel
theorem dX5_plan_28 : decode cX5_plan 28 = .ok (.ifCond .le 15, 3) := by decide +kernel
theorem dX5_plan_31 : decode cX5_plan 31 = .ok (.aload_n 0, 1) := by decide +kernel
theorem dX5_plan_32 : decode cX5_plan 32 = .ok (.getfield 12, 3) := by decide +kernel
theorem dX5_plan_35 : decode cX5_plan 35 = .ok (.aload_n 0, 1) := by decide +kernel
theorem dX5_plan_36 : decode cX5_plan 36 = .ok (.getfield 37, 3) := by decide +kernel
theorem dX5_plan_39 : decode cX5_plan 39 = .ok (.iload_n 1, 1) := by decide +kernel
theorem dX5_plan_40 : decode cX5_plan 40 = .ok (.invokevirtual 152, 3) := by decide +kernel
theorem dX5_plan_43 : decode cX5_plan 43 = .ok (.iload_n 1, 1) := by decide +kernel
theorem dX5_plan_44 : decode cX5_plan 44 = .ok (.ireturn, 1) := by decide +kernel
set_option maxRecDepth 20000 in
theorem ggX5_may_X4_mayDraw : GoodIn wsX5_may wsX4_mayDraw := goodIn_r _ [5, 6, 7, 8, 9, 10, 11, 12, 21, 22, 23, 24, 25, 26, 27, 28, 29, 30, 31, 32, 33, 34, 35, 36, 37] (by decide +kernel) (by decide +kernel)
set_option maxRecDepth 20000 in
theorem gX5_may_X4_mayDraw_n156 : GoodIn wsX5_may (wsX4_mayDraw) := ggX5_may_X4_mayDraw
theorem dX5_may_0 : decode cX5_may 0 = .ok (.iconst 0, 1) := by decide +kernel
theorem dX5_may_1 : decode cX5_may 1 = .ok (.istore_n 1, 1) := by decide +kernel
theorem dX5_may_2 : decode cX5_may 2 = .ok (.iconst 0, 1) := by decide +kernel
theorem dX5_may_3 : decode cX5_may 3 = .ok (.istore_n 2, 1) := by decide +kernel
theorem dX5_may_4 : decode cX5_may 4 = .ok (.iload_n 2, 1) := by decide +kernel
theorem dX5_may_5 : decode cX5_may 5 = .ok (.aload_n 0, 1) := by decide +kernel
theorem dX5_may_6 : decode cX5_may 6 = .ok (.getfield 12, 3) := by decide +kernel
theorem dX5_may_9 : decode cX5_may 9 = .ok (.getfield 59, 3) := by decide +kernel
theorem dX5_may_12 : decode cX5_may 12 = .ok (.getfield 62, 3) := by decide +kernel
theorem dX5_may_15 : decode cX5_may 15 = .ok (.if_icmp .ge 26, 3) := by decide +kernel
theorem dX5_may_18 : decode cX5_may 18 = .ok (.aload_n 0, 1) := by decide +kernel
theorem dX5_may_19 : decode cX5_may 19 = .ok (.getfield 12, 3) := by decide +kernel
theorem dX5_may_22 : decode cX5_may 22 = .ok (.iload_n 2, 1) := by decide +kernel
theorem dX5_may_23 : decode cX5_may 23 = .ok (.invokevirtual 156, 3) := by decide +kernel
theorem dX5_may_26 : decode cX5_may 26 = .ok (.ifCond .eq 9, 3) := by decide +kernel
theorem dX5_may_29 : decode cX5_may 29 = .ok (.iload_n 1, 1) := by decide +kernel
theorem dX5_may_30 : decode cX5_may 30 = .ok (.iconst 1, 1) := by decide +kernel
theorem dX5_may_31 : decode cX5_may 31 = .ok (.iload_n 2, 1) := by decide +kernel
theorem dX5_may_32 : decode cX5_may 32 = .ok (.ishl, 1) := by decide +kernel
theorem dX5_may_33 : decode cX5_may 33 = .ok (.ior, 1) := by decide +kernel
theorem dX5_may_34 : decode cX5_may 34 = .ok (.istore_n 1, 1) := by decide +kernel
theorem dX5_may_35 : decode cX5_may 35 = .ok (.iinc 2 1, 3) := by decide +kernel
theorem dX5_may_38 : decode cX5_may 38 = .ok (.goto (-34), 3) := by decide +kernel
theorem dX5_may_41 : decode cX5_may 41 = .ok (.iload_n 1, 1) := by decide +kernel
theorem dX5_may_42 : decode cX5_may 42 = .ok (.ireturn, 1) := by decide +kernel
set_option maxRecDepth 20000 in
theorem ggX5_draw_X0_has : GoodIn wsX5_draw wsX0_has := goodIn_r _ [5, 6, 97, 98, 99, 100, 101] (by decide +kernel) (by decide +kernel)
set_option maxRecDepth 20000 in
theorem gX5_draw_X0_has_n70 : GoodIn wsX5_draw (wsX0_has) := ggX5_draw_X0_has
set_option maxRecDepth 20000 in
theorem ggX5_draw_X4_mayDraw : GoodIn wsX5_draw wsX4_mayDraw := goodIn_r _ [10, 11, 12, 2, 3, 4, 5, 6, 85, 86, 87, 88, 89, 90, 91, 92, 93, 94, 95, 96, 97, 98, 99, 100, 101] (by decide +kernel) (by decide +kernel)
set_option maxRecDepth 20000 in
theorem gX5_draw_X4_mayDraw_n156 : GoodIn wsX5_draw (wsX4_mayDraw) := ggX5_draw_X4_mayDraw
set_option maxRecDepth 20000 in
theorem ggX5_draw_X4_hasHours : GoodIn wsX5_draw wsX4_hasHours := goodIn_r _ [15, 16, 85, 86, 87, 88, 89, 90, 91, 92, 93, 94, 95, 96] (by decide +kernel) (by decide +kernel)
set_option maxRecDepth 20000 in
theorem gX5_draw_X4_hasHours_n159 : GoodIn wsX5_draw (wsX4_hasHours) := ggX5_draw_X4_hasHours
set_option maxRecDepth 20000 in
theorem ggX5_draw_X4_passHour : GoodIn wsX5_draw wsX4_passHour := goodIn_r _ [19, 20, 21, 7, 9, 8, 10, 11, 12, 2, 3, 4, 5, 6, 22, 23, 24, 25, 26, 27, 28, 29, 30, 31, 32, 33, 34, 35, 36, 37, 38, 39, 40, 41, 42, 43, 44, 45, 46, 47, 48, 49, 50, 51, 52, 53, 54, 55, 56, 57, 58, 59, 60, 61, 62, 63, 64, 65, 66, 67, 16, 68, 69, 70, 71, 72, 73, 74, 75, 76, 85, 86, 87, 88, 89, 90, 91, 92, 93, 94, 95, 96, 97, 98, 99, 100, 101] (by decide +kernel) (by decide +kernel)
set_option maxRecDepth 20000 in
theorem gX5_draw_X4_passHour_n162 : GoodIn wsX5_draw (wsX4_passHour) := ggX5_draw_X4_passHour
theorem dX5_draw_0 : decode cX5_draw 0 = .ok (.iload_n 1, 1) := by decide +kernel
theorem dX5_draw_1 : decode cX5_draw 1 = .ok (.bipush 9, 2) := by decide +kernel
theorem dX5_draw_3 : decode cX5_draw 3 = .ok (.if_icmp .eq 19, 3) := by decide +kernel
theorem dX5_draw_6 : decode cX5_draw 6 = .ok (.aload_n 0, 1) := by decide +kernel
theorem dX5_draw_7 : decode cX5_draw 7 = .ok (.getfield 12, 3) := by decide +kernel
theorem dX5_draw_10 : decode cX5_draw 10 = .ok (.getfield 59, 3) := by decide +kernel
theorem dX5_draw_13 : decode cX5_draw 13 = .ok (.iload_n 1, 1) := by decide +kernel
theorem dX5_draw_14 : decode cX5_draw 14 = .ok (.invokevirtual 70, 3) := by decide +kernel
theorem dX5_draw_17 : decode cX5_draw 17 = .ok (.ifCond .ne 5, 3) := by decide +kernel
theorem dX5_draw_20 : decode cX5_draw 20 = .ok (.iconst (-1), 1) := by decide +kernel
theorem dX5_draw_21 : decode cX5_draw 21 = .ok (.ireturn, 1) := by decide +kernel
theorem dX5_draw_22 : decode cX5_draw 22 = .ok (.iload_n 1, 1) := by decide +kernel
theorem dX5_draw_23 : decode cX5_draw 23 = .ok (.bipush 9, 2) := by decide +kernel
theorem dX5_draw_25 : decode cX5_draw 25 = .ok (.if_icmp .eq 17, 3) := by decide +kernel
theorem dX5_draw_28 : decode cX5_draw 28 = .ok (.aload_n 0, 1) := by decide +kernel
theorem dX5_draw_29 : decode cX5_draw 29 = .ok (.getfield 12, 3) := by decide +kernel
theorem dX5_draw_32 : decode cX5_draw 32 = .ok (.iload_n 1, 1) := by decide +kernel
theorem dX5_draw_33 : decode cX5_draw 33 = .ok (.invokevirtual 156, 3) := by decide +kernel
theorem dX5_draw_36 : decode cX5_draw 36 = .ok (.ifCond .ne 6, 3) := by decide +kernel
theorem dX5_draw_39 : decode cX5_draw 39 = .ok (.bipush (-2), 2) := by decide +kernel
theorem dX5_draw_41 : decode cX5_draw 41 = .ok (.ireturn, 1) := by decide +kernel
theorem dX5_draw_42 : decode cX5_draw 42 = .ok (.aload_n 0, 1) := by decide +kernel
theorem dX5_draw_43 : decode cX5_draw 43 = .ok (.getfield 12, 3) := by decide +kernel
theorem dX5_draw_46 : decode cX5_draw 46 = .ok (.iconst 1, 1) := by decide +kernel
theorem dX5_draw_47 : decode cX5_draw 47 = .ok (.invokevirtual 159, 3) := by decide +kernel
theorem dX5_draw_50 : decode cX5_draw 50 = .ok (.ifCond .ne 6, 3) := by decide +kernel
theorem dX5_draw_53 : decode cX5_draw 53 = .ok (.bipush (-3), 2) := by decide +kernel
theorem dX5_draw_55 : decode cX5_draw 55 = .ok (.ireturn, 1) := by decide +kernel
theorem dX5_draw_56 : decode cX5_draw 56 = .ok (.aload_n 0, 1) := by decide +kernel
theorem dX5_draw_57 : decode cX5_draw 57 = .ok (.getfield 12, 3) := by decide +kernel
theorem dX5_draw_60 : decode cX5_draw 60 = .ok (.iload_n 1, 1) := by decide +kernel
theorem dX5_draw_61 : decode cX5_draw 61 = .ok (.invokevirtual 162, 3) := by decide +kernel
theorem dX5_draw_64 : decode cX5_draw 64 = .ok (.ireturn, 1) := by decide +kernel
set_option maxRecDepth 20000 in
theorem ggX5_pass_X5_within : GoodIn wsX5_pass wsX5_within := goodIn_r _ [5] (by decide +kernel) (by decide +kernel)
set_option maxRecDepth 20000 in
theorem gX5_pass_X5_within : GoodIn wsX5_pass (va_wsS RX5 55 yX5_within wsX5_within) := goodIn_app (goodIn_of _ (by decide +kernel)) ggX5_pass_X5_within
set_option maxRecDepth 20000 in
theorem ggX5_pass_X4_hasHours : GoodIn wsX5_pass wsX4_hasHours := goodIn_r _ [9, 10, 88, 89, 90, 91, 92, 93, 94, 95, 96, 97, 98, 99] (by decide +kernel) (by decide +kernel)
set_option maxRecDepth 20000 in
theorem gX5_pass_X4_hasHours_n159 : GoodIn wsX5_pass (wsX4_hasHours) := ggX5_pass_X4_hasHours
set_option maxRecDepth 20000 in
theorem ggX5_pass_X4_passHour : GoodIn wsX5_pass wsX4_passHour := goodIn_r _ [13, 14, 15, 16, 17, 7, 18, 19, 20, 21, 22, 23, 24, 25, 26, 27, 28, 29, 30, 31, 32, 33, 34, 35, 36, 37, 38, 39, 40, 41, 42, 43, 44, 45, 46, 47, 48, 49, 50, 51, 52, 53, 54, 55, 56, 57, 58, 59, 60, 61, 62, 4, 63, 64, 65, 66, 67, 68, 69, 70, 10, 71, 72, 73, 74, 75, 76, 77, 78, 79, 88, 89, 90, 91, 92, 93, 94, 95, 96, 97, 98, 99, 100, 101, 102, 103, 104] (by decide +kernel) (by decide +kernel)
set_option maxRecDepth 20000 in
theorem gX5_pass_X4_passHour_n162 : GoodIn wsX5_pass (wsX4_passHour) := ggX5_pass_X4_passHour
theorem dX5_pass_0 : decode cX5_pass 0 = .ok (.iload_n 1, 1) := by decide +kernel
theorem dX5_pass_1 : decode cX5_pass 1 = .ok (.iconst 1, 1) := by decide +kernel
theorem dX5_pass_2 : decode cX5_pass 2 = .ok (.bipush 60, 2) := by decide +kernel
theorem dX5_pass_4 : decode cX5_pass 4 = .ok (.invokestatic 55, 3) := by decide +kernel
theorem dX5_pass_7 : decode cX5_pass 7 = .ok (.ifCond .ne 5, 3) := by decide +kernel
theorem dX5_pass_10 : decode cX5_pass 10 = .ok (.iconst (-1), 1) := by decide +kernel
theorem dX5_pass_11 : decode cX5_pass 11 = .ok (.ireturn, 1) := by decide +kernel
theorem dX5_pass_12 : decode cX5_pass 12 = .ok (.aload_n 0, 1) := by decide +kernel
theorem dX5_pass_13 : decode cX5_pass 13 = .ok (.getfield 12, 3) := by decide +kernel
theorem dX5_pass_16 : decode cX5_pass 16 = .ok (.iload_n 1, 1) := by decide +kernel
theorem dX5_pass_17 : decode cX5_pass 17 = .ok (.invokevirtual 159, 3) := by decide +kernel
theorem dX5_pass_20 : decode cX5_pass 20 = .ok (.ifCond .ne 6, 3) := by decide +kernel
theorem dX5_pass_23 : decode cX5_pass 23 = .ok (.bipush (-3), 2) := by decide +kernel
theorem dX5_pass_25 : decode cX5_pass 25 = .ok (.ireturn, 1) := by decide +kernel
theorem dX5_pass_26 : decode cX5_pass 26 = .ok (.iconst 0, 1) := by decide +kernel
theorem dX5_pass_27 : decode cX5_pass 27 = .ok (.istore_n 2, 1) := by decide +kernel
theorem dX5_pass_28 : decode cX5_pass 28 = .ok (.iload_n 2, 1) := by decide +kernel
theorem dX5_pass_29 : decode cX5_pass 29 = .ok (.iload_n 1, 1) := by decide +kernel
theorem dX5_pass_30 : decode cX5_pass 30 = .ok (.if_icmp .ge 19, 3) := by decide +kernel
theorem dX5_pass_33 : decode cX5_pass 33 = .ok (.aload_n 0, 1) := by decide +kernel
theorem dX5_pass_34 : decode cX5_pass 34 = .ok (.getfield 12, 3) := by decide +kernel
theorem dX5_pass_37 : decode cX5_pass 37 = .ok (.bipush 9, 2) := by decide +kernel
theorem dX5_pass_39 : decode cX5_pass 39 = .ok (.invokevirtual 162, 3) := by decide +kernel
theorem dX5_pass_42 : decode cX5_pass 42 = .ok (.pop, 1) := by decide +kernel
theorem dX5_pass_43 : decode cX5_pass 43 = .ok (.iinc 2 1, 3) := by decide +kernel
theorem dX5_pass_46 : decode cX5_pass 46 = .ok (.goto (-18), 3) := by decide +kernel
theorem dX5_pass_49 : decode cX5_pass 49 = .ok (.aload_n 0, 1) := by decide +kernel
theorem dX5_pass_50 : decode cX5_pass 50 = .ok (.getfield 12, 3) := by decide +kernel
theorem dX5_pass_53 : decode cX5_pass 53 = .ok (.getfield 116, 3) := by decide +kernel
theorem dX5_pass_56 : decode cX5_pass 56 = .ok (.ireturn, 1) := by decide +kernel
set_option maxRecDepth 20000 in
theorem ggX5_run_X4_hasHours : GoodIn wsX5_run wsX4_hasHours := goodIn_r _ [5, 6, 91, 92, 93, 94, 95, 96, 97, 98, 99, 100, 101, 102] (by decide +kernel) (by decide +kernel)
set_option maxRecDepth 20000 in
theorem gX5_run_X4_hasHours_n159 : GoodIn wsX5_run (wsX4_hasHours) := ggX5_run_X4_hasHours
set_option maxRecDepth 20000 in
theorem ggX5_run_X4_followPlan : GoodIn wsX5_run wsX4_followPlan := goodIn_r _ [9, 10, 11, 12, 13, 14, 3, 15, 16, 17, 18, 19, 20, 21, 22, 23, 24, 25, 26, 27, 28, 29, 30, 31, 32, 33, 34, 35, 36, 37, 38, 39, 40, 41, 42, 43, 44, 45, 46, 47, 48, 49, 50, 51, 52, 53, 54, 55, 56, 57, 58, 59, 60, 61, 62, 63, 64, 65, 66, 67, 68, 69, 70, 71, 72, 73, 6, 74, 75, 76, 77, 78, 79, 80, 81, 82, 91, 92, 93, 94, 95, 96, 97, 98, 99, 100, 101, 102, 103, 104, 105, 106, 107] (by decide +kernel) (by decide +kernel)
set_option maxRecDepth 20000 in
theorem gX5_run_X4_followPlan_n166 : GoodIn wsX5_run (wsX4_followPlan) := ggX5_run_X4_followPlan
theorem dX5_run_0 : decode cX5_run 0 = .ok (.aload_n 0, 1) := by decide +kernel
theorem dX5_run_1 : decode cX5_run 1 = .ok (.getfield 12, 3) := by decide +kernel
theorem dX5_run_4 : decode cX5_run 4 = .ok (.aload_n 0, 1) := by decide +kernel
theorem dX5_run_5 : decode cX5_run 5 = .ok (.getfield 12, 3) := by decide +kernel
theorem dX5_run_8 : decode cX5_run 8 = .ok (.getfield 119, 3) := by decide +kernel
theorem dX5_run_11 : decode cX5_run 11 = .ok (.invokevirtual 159, 3) := by decide +kernel
theorem dX5_run_14 : decode cX5_run 14 = .ok (.ifCond .ne 6, 3) := by decide +kernel
theorem dX5_run_17 : decode cX5_run 17 = .ok (.bipush (-3), 2) := by decide +kernel
theorem dX5_run_19 : decode cX5_run 19 = .ok (.ireturn, 1) := by decide +kernel
theorem dX5_run_20 : decode cX5_run 20 = .ok (.aload_n 0, 1) := by decide +kernel
theorem dX5_run_21 : decode cX5_run 21 = .ok (.getfield 12, 3) := by decide +kernel
theorem dX5_run_24 : decode cX5_run 24 = .ok (.invokevirtual 166, 3) := by decide +kernel
theorem dX5_run_27 : decode cX5_run 27 = .ok (.ireturn, 1) := by decide +kernel
set_option maxRecDepth 20000 in
theorem ggX5_most_X5_within : GoodIn wsX5_most wsX5_within := goodIn_r _ [5] (by decide +kernel) (by decide +kernel)
set_option maxRecDepth 20000 in
theorem gX5_most_X5_within : GoodIn wsX5_most (va_wsS RX5 55 yX5_within wsX5_within) := goodIn_app (goodIn_of _ (by decide +kernel)) ggX5_most_X5_within
set_option maxRecDepth 20000 in
theorem ggX5_most_X5_mostFrom : GoodIn wsX5_most wsX5_mostFrom := goodIn_r _ [9, 10, 1, 11, 12, 13, 14, 15, 16, 17, 18, 19, 20, 21, 22, 23, 24, 25, 26, 27, 28, 29, 30, 31, 32, 33, 34, 35, 36, 37, 38, 39, 40, 41, 42, 43, 44, 45, 46, 47, 48, 49, 50, 51, 52, 53, 54, 55, 4, 56, 57, 58, 59, 60, 61, 62, 63, 64, 65, 66, 67, 68, 69, 70, 71, 72, 73, 74, 75, 76, 77, 78, 79, 80, 81, 82, 83, 84, 85, 86, 87, 88, 89, 90, 91, 92, 93, 94, 95, 96, 97, 98, 99, 100, 113, 114, 115, 116, 117, 118, 119, 120, 121, 101, 102, 103, 104, 105, 106, 107, 108, 109, 110, 111, 112, 122, 123, 124, 125, 126] (by decide +kernel) (by decide +kernel)
set_option maxRecDepth 20000 in
theorem gX5_most_X5_mostFrom : GoodIn wsX5_most (wsV RX5 170 RX5 yX5_mostFrom wsX5_mostFrom) := goodIn_app (goodIn_of _ (by decide +kernel)) ggX5_most_X5_mostFrom
theorem dX5_most_0 : decode cX5_most 0 = .ok (.iload_n 1, 1) := by decide +kernel
theorem dX5_most_1 : decode cX5_most 1 = .ok (.iconst 1, 1) := by decide +kernel
theorem dX5_most_2 : decode cX5_most 2 = .ok (.iconst 5, 1) := by decide +kernel
theorem dX5_most_3 : decode cX5_most 3 = .ok (.invokestatic 55, 3) := by decide +kernel
theorem dX5_most_6 : decode cX5_most 6 = .ok (.ifCond .eq 18, 3) := by decide +kernel
theorem dX5_most_9 : decode cX5_most 9 = .ok (.aload_n 0, 1) := by decide +kernel
theorem dX5_most_10 : decode cX5_most 10 = .ok (.aload_n 0, 1) := by decide +kernel
theorem dX5_most_11 : decode cX5_most 11 = .ok (.getfield 12, 3) := by decide +kernel
theorem dX5_most_14 : decode cX5_most 14 = .ok (.getfield 101, 3) := by decide +kernel
theorem dX5_most_17 : decode cX5_most 17 = .ok (.iload_n 1, 1) := by decide +kernel
theorem dX5_most_18 : decode cX5_most 18 = .ok (.invokevirtual 170, 3) := by decide +kernel
theorem dX5_most_21 : decode cX5_most 21 = .ok (.goto 4, 3) := by decide +kernel
theorem dX5_most_24 : decode cX5_most 24 = .ok (.iconst (-1), 1) := by decide +kernel
theorem dX5_most_25 : decode cX5_most 25 = .ok (.ireturn, 1) := by decide +kernel
set_option maxRecDepth 20000 in
theorem ggX5_row_X5_within : GoodIn wsX5_row wsX5_within := goodIn_r _ [6] (by decide +kernel) (by decide +kernel)
set_option maxRecDepth 20000 in
theorem gX5_row_X5_within : GoodIn wsX5_row (va_wsS RX5 55 yX5_within wsX5_within) := goodIn_app (goodIn_of _ (by decide +kernel)) ggX5_row_X5_within
set_option maxRecDepth 20000 in
theorem ggX5_row_X5_mostFrom : GoodIn wsX5_row wsX5_mostFrom := goodIn_r _ [10, 2, 1, 11, 12, 13, 14, 15, 16, 17, 18, 19, 20, 21, 22, 23, 24, 25, 26, 27, 28, 29, 30, 31, 32, 33, 34, 35, 36, 37, 38, 39, 40, 41, 42, 43, 44, 45, 46, 47, 48, 49, 50, 51, 52, 53, 54, 55, 5, 56, 57, 58, 59, 60, 61, 62, 63, 64, 65, 66, 67, 68, 69, 70, 71, 72, 73, 74, 75, 76, 77, 78, 79, 80, 81, 82, 83, 84, 85, 86, 87, 88, 89, 90, 91, 92, 93, 94, 95, 96, 97, 98, 99, 100, 113, 114, 115, 116, 117, 118, 119, 120, 121, 101, 102, 103, 104, 105, 106, 107, 108, 109, 110, 111, 112, 122, 123, 124, 125, 126] (by decide +kernel) (by decide +kernel)
set_option maxRecDepth 20000 in
theorem gX5_row_X5_mostFrom : GoodIn wsX5_row (wsV RX5 170 RX5 yX5_mostFrom wsX5_mostFrom) := goodIn_app (goodIn_of _ (by decide +kernel)) ggX5_row_X5_mostFrom
theorem dX5_row_0 : decode cX5_row 0 = .ok (.iload_n 1, 1) := by decide +kernel
theorem dX5_row_1 : decode cX5_row 1 = .ok (.iconst 1, 1) := by decide +kernel
theorem dX5_row_2 : decode cX5_row 2 = .ok (.iconst 5, 1) := by decide +kernel
theorem dX5_row_3 : decode cX5_row 3 = .ok (.invokestatic 55, 3) := by decide +kernel
theorem dX5_row_6 : decode cX5_row 6 = .ok (.ifCond .eq 14, 3) := by decide +kernel
theorem dX5_row_9 : decode cX5_row 9 = .ok (.iload_n 2, 1) := by decide +kernel
theorem dX5_row_10 : decode cX5_row 10 = .ok (.iconst 0, 1) := by decide +kernel
theorem dX5_row_11 : decode cX5_row 11 = .ok (.iload_n 1, 1) := by decide +kernel
theorem dX5_row_12 : decode cX5_row 12 = .ok (.iconst 1, 1) := by decide +kernel
theorem dX5_row_13 : decode cX5_row 13 = .ok (.isub, 1) := by decide +kernel
theorem dX5_row_14 : decode cX5_row 14 = .ok (.invokestatic 55, 3) := by decide +kernel
theorem dX5_row_17 : decode cX5_row 17 = .ok (.ifCond .ne 5, 3) := by decide +kernel
theorem dX5_row_20 : decode cX5_row 20 = .ok (.iconst (-1), 1) := by decide +kernel
theorem dX5_row_21 : decode cX5_row 21 = .ok (.ireturn, 1) := by decide +kernel
theorem dX5_row_22 : decode cX5_row 22 = .ok (.aload_n 0, 1) := by decide +kernel
theorem dX5_row_23 : decode cX5_row 23 = .ok (.aload_n 0, 1) := by decide +kernel
theorem dX5_row_24 : decode cX5_row 24 = .ok (.getfield 12, 3) := by decide +kernel
theorem dX5_row_27 : decode cX5_row 27 = .ok (.getfield 101, 3) := by decide +kernel
theorem dX5_row_30 : decode cX5_row 30 = .ok (.iload_n 1, 1) := by decide +kernel
theorem dX5_row_31 : decode cX5_row 31 = .ok (.invokevirtual 170, 3) := by decide +kernel
theorem dX5_row_34 : decode cX5_row 34 = .ok (.pop, 1) := by decide +kernel
theorem dX5_row_35 : decode cX5_row 35 = .ok (.aload_n 0, 1) := by decide +kernel
theorem dX5_row_36 : decode cX5_row 36 = .ok (.getfield 44, 3) := by decide +kernel
theorem dX5_row_39 : decode cX5_row 39 = .ok (.getfield 174, 3) := by decide +kernel
theorem dX5_row_42 : decode cX5_row 42 = .ok (.iload_n 2, 1) := by decide +kernel
theorem dX5_row_43 : decode cX5_row 43 = .ok (.iaload, 1) := by decide +kernel
theorem dX5_row_44 : decode cX5_row 44 = .ok (.ireturn, 1) := by decide +kernel
set_option maxRecDepth 20000 in
theorem ggX5_fewest_X5_within : GoodIn wsX5_fewest wsX5_within := goodIn_r _ [6] (by decide +kernel) (by decide +kernel)
set_option maxRecDepth 20000 in
theorem gX5_fewest_X5_within : GoodIn wsX5_fewest (va_wsS RX5 55 yX5_within wsX5_within) := goodIn_app (goodIn_of _ (by decide +kernel)) ggX5_fewest_X5_within
set_option maxRecDepth 20000 in
theorem ggX5_fewest_X1_observe : GoodIn wsX5_fewest wsX1_observe := goodIn_r _ [10, 11, 12, 13, 14, 15, 16, 17, 18, 19, 20, 21, 22, 23, 24, 25, 26, 27, 28, 109, 110, 111, 112, 113, 114, 115, 116, 117, 97, 98, 99, 100, 101, 102, 103, 104, 105, 106, 107, 108, 118, 119, 120, 121, 122] (by decide +kernel) (by decide +kernel)
set_option maxRecDepth 20000 in
theorem gX5_fewest_X1_observe_n177 : GoodIn wsX5_fewest (wsX1_observe) := ggX5_fewest_X1_observe
set_option maxRecDepth 20000 in
theorem ggX5_fewest_X1_mostIn : GoodIn wsX5_fewest wsX1_mostIn := goodIn_r _ [31, 32, 33, 34, 35, 36, 37, 17, 19, 38, 39, 40, 8, 41, 11, 12, 42, 18, 43, 44, 45, 46, 47, 13, 14, 15, 16, 48, 49, 50, 51, 5, 52, 53, 54, 55, 56, 57, 58, 59, 60, 61, 21, 62, 63, 64, 65, 66, 67, 68, 27, 69, 70, 71, 72, 28, 73, 74, 75, 76, 24, 77, 78, 79, 80, 81, 82, 83, 84, 85, 25, 86, 87, 88, 109, 110, 111, 112, 113, 114, 115, 116, 117, 118, 119, 120, 121, 122] (by decide +kernel) (by decide +kernel)
set_option maxRecDepth 20000 in
theorem gX5_fewest_X1_mostIn_n181 : GoodIn wsX5_fewest (wsX1_mostIn) := ggX5_fewest_X1_mostIn
theorem dX5_fewest_0 : decode cX5_fewest 0 = .ok (.iload_n 1, 1) := by decide +kernel
theorem dX5_fewest_1 : decode cX5_fewest 1 = .ok (.iconst 0, 1) := by decide +kernel
theorem dX5_fewest_2 : decode cX5_fewest 2 = .ok (.bipush 99, 2) := by decide +kernel
theorem dX5_fewest_4 : decode cX5_fewest 4 = .ok (.invokestatic 55, 3) := by decide +kernel
theorem dX5_fewest_7 : decode cX5_fewest 7 = .ok (.ifCond .ne 5, 3) := by decide +kernel
theorem dX5_fewest_10 : decode cX5_fewest 10 = .ok (.iconst (-1), 1) := by decide +kernel
theorem dX5_fewest_11 : decode cX5_fewest 11 = .ok (.ireturn, 1) := by decide +kernel
theorem dX5_fewest_12 : decode cX5_fewest 12 = .ok (.aload_n 0, 1) := by decide +kernel
theorem dX5_fewest_13 : decode cX5_fewest 13 = .ok (.getfield 44, 3) := by decide +kernel
theorem dX5_fewest_16 : decode cX5_fewest 16 = .ok (.aload_n 0, 1) := by decide +kernel
theorem dX5_fewest_17 : decode cX5_fewest 17 = .ok (.getfield 12, 3) := by decide +kernel
theorem dX5_fewest_20 : decode cX5_fewest 20 = .ok (.invokevirtual 177, 3) := by decide +kernel
theorem dX5_fewest_23 : decode cX5_fewest 23 = .ok (.iconst 0, 1) := by decide +kernel
theorem dX5_fewest_24 : decode cX5_fewest 24 = .ok (.istore_n 2, 1) := by decide +kernel
theorem dX5_fewest_25 : decode cX5_fewest 25 = .ok (.iload_n 2, 1) := by decide +kernel
theorem dX5_fewest_26 : decode cX5_fewest 26 = .ok (.iconst 5, 1) := by decide +kernel
theorem dX5_fewest_27 : decode cX5_fewest 27 = .ok (.if_icmp .gt 30, 3) := by decide +kernel
theorem dX5_fewest_30 : decode cX5_fewest 30 = .ok (.aload_n 0, 1) := by decide +kernel
theorem dX5_fewest_31 : decode cX5_fewest 31 = .ok (.getfield 44, 3) := by decide +kernel
theorem dX5_fewest_34 : decode cX5_fewest 34 = .ok (.iload_n 2, 1) := by decide +kernel
theorem dX5_fewest_35 : decode cX5_fewest 35 = .ok (.aload_n 0, 1) := by decide +kernel
theorem dX5_fewest_36 : decode cX5_fewest 36 = .ok (.getfield 12, 3) := by decide +kernel
theorem dX5_fewest_39 : decode cX5_fewest 39 = .ok (.getfield 101, 3) := by decide +kernel
theorem dX5_fewest_42 : decode cX5_fewest 42 = .ok (.invokevirtual 181, 3) := by decide +kernel
theorem dX5_fewest_45 : decode cX5_fewest 45 = .ok (.iload_n 1, 1) := by decide +kernel
theorem dX5_fewest_46 : decode cX5_fewest 46 = .ok (.if_icmp .lt 5, 3) := by decide +kernel
theorem dX5_fewest_49 : decode cX5_fewest 49 = .ok (.iload_n 2, 1) := by decide +kernel
theorem dX5_fewest_50 : decode cX5_fewest 50 = .ok (.ireturn, 1) := by decide +kernel
theorem dX5_fewest_51 : decode cX5_fewest 51 = .ok (.iinc 2 1, 3) := by decide +kernel
theorem dX5_fewest_54 : decode cX5_fewest 54 = .ok (.goto (-29), 3) := by decide +kernel
theorem dX5_fewest_57 : decode cX5_fewest 57 = .ok (.bipush (-4), 2) := by decide +kernel
theorem dX5_fewest_59 : decode cX5_fewest 59 = .ok (.ireturn, 1) := by decide +kernel
set_option maxRecDepth 20000 in
theorem ggX5_peace_X1_observe : GoodIn wsX5_peace wsX1_observe := goodIn_r _ [6, 7, 8, 9, 10, 11, 12, 13, 14, 15, 16, 17, 18, 19, 20, 21, 22, 23, 24, 118, 119, 120, 121, 122, 123, 124, 125, 126, 101, 102, 103, 104, 105, 106, 107, 108, 109, 110, 111, 112, 113, 114, 115, 116, 117] (by decide +kernel) (by decide +kernel)
set_option maxRecDepth 20000 in
theorem gX5_peace_X1_observe_n177 : GoodIn wsX5_peace (wsX1_observe) := ggX5_peace_X1_observe
set_option maxRecDepth 20000 in
theorem ggX5_peace_X1_mostIn : GoodIn wsX5_peace wsX1_mostIn := goodIn_r _ [27, 28, 29, 30, 31, 32, 33, 13, 15, 34, 35, 36, 4, 37, 7, 8, 38, 14, 39, 40, 41, 42, 43, 9, 10, 11, 12, 44, 45, 46, 47, 48, 49, 50, 51, 52, 53, 54, 55, 56, 57, 58, 17, 59, 60, 61, 62, 63, 64, 65, 23, 66, 67, 68, 69, 24, 70, 71, 72, 73, 20, 74, 75, 76, 77, 78, 79, 80, 81, 82, 21, 83, 84, 85, 118, 119, 120, 121, 122, 123, 124, 125, 126, 113, 114, 115, 116, 117] (by decide +kernel) (by decide +kernel)
set_option maxRecDepth 20000 in
theorem gX5_peace_X1_mostIn_n181 : GoodIn wsX5_peace (wsX1_mostIn) := ggX5_peace_X1_mostIn
set_option maxRecDepth 20000 in
theorem ggX5_peace_X0_areFoes : GoodIn wsX5_peace wsX0_areFoes := goodIn_r _ [65, 23, 66, 67, 68, 17, 69, 24, 113, 114, 115, 116, 117] (by decide +kernel) (by decide +kernel)
set_option maxRecDepth 20000 in
theorem gX5_peace_X0_areFoes_n90 : GoodIn wsX5_peace (wsX0_areFoes) := ggX5_peace_X0_areFoes
set_option maxRecDepth 20000 in
theorem ggX5_peace_X5_mostInPeace : GoodIn wsX5_peace wsX5_mostInPeace := goodIn_r _ [89, 1, 2, 90, 17, 91, 92, 23, 66, 67, 68, 69, 24, 25, 4, 26, 27, 28, 29, 30, 31, 32, 33, 13, 15, 34, 35, 36, 37, 7, 8, 38, 14, 39, 40, 41, 42, 43, 9, 10, 11, 12, 44, 45, 46, 47, 48, 49, 50, 51, 52, 53, 54, 55, 56, 57, 58, 59, 60, 61, 62, 63, 64, 65, 70, 71, 72, 73, 20, 74, 75, 76, 77, 78, 79, 80, 81, 82, 21, 83, 84, 85, 93, 94, 95, 96, 97, 98, 99, 100, 118, 119, 120, 121, 122, 123, 124, 125, 126, 101, 102, 103, 104, 105, 106, 107, 108, 109, 110, 111, 112, 113, 114, 115, 116, 117] (by decide +kernel) (by decide +kernel)
set_option maxRecDepth 20000 in
theorem gX5_peace_X5_mostInPeace : GoodIn wsX5_peace (wsV RX5 184 RX5 yX5_mostInPeace wsX5_mostInPeace) := goodIn_app (goodIn_of _ (by decide +kernel)) ggX5_peace_X5_mostInPeace
theorem dX5_peace_0 : decode cX5_peace 0 = .ok (.aload_n 0, 1) := by decide +kernel
theorem dX5_peace_1 : decode cX5_peace 1 = .ok (.getfield 44, 3) := by decide +kernel
theorem dX5_peace_4 : decode cX5_peace 4 = .ok (.aload_n 0, 1) := by decide +kernel
theorem dX5_peace_5 : decode cX5_peace 5 = .ok (.getfield 12, 3) := by decide +kernel
theorem dX5_peace_8 : decode cX5_peace 8 = .ok (.invokevirtual 177, 3) := by decide +kernel
theorem dX5_peace_11 : decode cX5_peace 11 = .ok (.aload_n 0, 1) := by decide +kernel
theorem dX5_peace_12 : decode cX5_peace 12 = .ok (.getfield 44, 3) := by decide +kernel
theorem dX5_peace_15 : decode cX5_peace 15 = .ok (.iconst 4, 1) := by decide +kernel
theorem dX5_peace_16 : decode cX5_peace 16 = .ok (.aload_n 0, 1) := by decide +kernel
theorem dX5_peace_17 : decode cX5_peace 17 = .ok (.getfield 12, 3) := by decide +kernel
theorem dX5_peace_20 : decode cX5_peace 20 = .ok (.getfield 101, 3) := by decide +kernel
theorem dX5_peace_23 : decode cX5_peace 23 = .ok (.invokevirtual 181, 3) := by decide +kernel
theorem dX5_peace_26 : decode cX5_peace 26 = .ok (.istore_n 1, 1) := by decide +kernel
theorem dX5_peace_27 : decode cX5_peace 27 = .ok (.bipush (-4), 2) := by decide +kernel
theorem dX5_peace_29 : decode cX5_peace 29 = .ok (.istore_n 2, 1) := by decide +kernel
theorem dX5_peace_30 : decode cX5_peace 30 = .ok (.iconst 0, 1) := by decide +kernel
theorem dX5_peace_31 : decode cX5_peace 31 = .ok (.istore_n 3, 1) := by decide +kernel
theorem dX5_peace_32 : decode cX5_peace 32 = .ok (.iload_n 3, 1) := by decide +kernel
theorem dX5_peace_33 : decode cX5_peace 33 = .ok (.aload_n 0, 1) := by decide +kernel
theorem dX5_peace_34 : decode cX5_peace 34 = .ok (.getfield 12, 3) := by decide +kernel
theorem dX5_peace_37 : decode cX5_peace 37 = .ok (.getfield 59, 3) := by decide +kernel
theorem dX5_peace_40 : decode cX5_peace 40 = .ok (.getfield 62, 3) := by decide +kernel
theorem dX5_peace_43 : decode cX5_peace 43 = .ok (.if_icmp .ge 81, 3) := by decide +kernel
theorem dX5_peace_46 : decode cX5_peace 46 = .ok (.iload_n 3, 1) := by decide +kernel
theorem dX5_peace_47 : decode cX5_peace 47 = .ok (.iconst 1, 1) := by decide +kernel
theorem dX5_peace_48 : decode cX5_peace 48 = .ok (.iadd, 1) := by decide +kernel
theorem dX5_peace_49 : decode cX5_peace 49 = .ok (.istore 4, 2) := by decide +kernel
theorem dX5_peace_51 : decode cX5_peace 51 = .ok (.iload 4, 2) := by decide +kernel
theorem dX5_peace_53 : decode cX5_peace 53 = .ok (.aload_n 0, 1) := by decide +kernel
theorem dX5_peace_54 : decode cX5_peace 54 = .ok (.getfield 12, 3) := by decide +kernel
theorem dX5_peace_57 : decode cX5_peace 57 = .ok (.getfield 59, 3) := by decide +kernel
theorem dX5_peace_60 : decode cX5_peace 60 = .ok (.getfield 62, 3) := by decide +kernel
theorem dX5_peace_63 : decode cX5_peace 63 = .ok (.if_icmp .ge 55, 3) := by decide +kernel
theorem dX5_peace_66 : decode cX5_peace 66 = .ok (.aload_n 0, 1) := by decide +kernel
theorem dX5_peace_67 : decode cX5_peace 67 = .ok (.getfield 12, 3) := by decide +kernel
theorem dX5_peace_70 : decode cX5_peace 70 = .ok (.getfield 59, 3) := by decide +kernel
theorem dX5_peace_73 : decode cX5_peace 73 = .ok (.iload_n 3, 1) := by decide +kernel
theorem dX5_peace_74 : decode cX5_peace 74 = .ok (.iload 4, 2) := by decide +kernel
theorem dX5_peace_76 : decode cX5_peace 76 = .ok (.invokevirtual 90, 3) := by decide +kernel
theorem dX5_peace_79 : decode cX5_peace 79 = .ok (.ifCond .eq 13, 3) := by decide +kernel
theorem dX5_peace_82 : decode cX5_peace 82 = .ok (.aload_n 0, 1) := by decide +kernel
theorem dX5_peace_83 : decode cX5_peace 83 = .ok (.iload_n 3, 1) := by decide +kernel
theorem dX5_peace_84 : decode cX5_peace 84 = .ok (.iload 4, 2) := by decide +kernel
theorem dX5_peace_86 : decode cX5_peace 86 = .ok (.invokevirtual 184, 3) := by decide +kernel
theorem dX5_peace_89 : decode cX5_peace 89 = .ok (.goto 4, 3) := by decide +kernel
theorem dX5_peace_92 : decode cX5_peace 92 = .ok (.iconst 0, 1) := by decide +kernel
theorem dX5_peace_93 : decode cX5_peace 93 = .ok (.istore 5, 2) := by decide +kernel
theorem dX5_peace_95 : decode cX5_peace 95 = .ok (.iload 5, 2) := by decide +kernel
theorem dX5_peace_97 : decode cX5_peace 97 = .ok (.iload_n 1, 1) := by decide +kernel
theorem dX5_peace_98 : decode cX5_peace 98 = .ok (.if_icmp .le 14, 3) := by decide +kernel
theorem dX5_peace_101 : decode cX5_peace 101 = .ok (.iload 5, 2) := by decide +kernel
theorem dX5_peace_103 : decode cX5_peace 103 = .ok (.istore_n 1, 1) := by decide +kernel
theorem dX5_peace_104 : decode cX5_peace 104 = .ok (.bipush 10, 2) := by decide +kernel
theorem dX5_peace_106 : decode cX5_peace 106 = .ok (.iload_n 3, 1) := by decide +kernel
theorem dX5_peace_107 : decode cX5_peace 107 = .ok (.imul, 1) := by decide +kernel
theorem dX5_peace_108 : decode cX5_peace 108 = .ok (.iload 4, 2) := by decide +kernel
theorem dX5_peace_110 : decode cX5_peace 110 = .ok (.iadd, 1) := by decide +kernel
theorem dX5_peace_111 : decode cX5_peace 111 = .ok (.istore_n 2, 1) := by decide +kernel
theorem dX5_peace_112 : decode cX5_peace 112 = .ok (.iinc 4 1, 3) := by decide +kernel
theorem dX5_peace_115 : decode cX5_peace 115 = .ok (.goto (-64), 3) := by decide +kernel
theorem dX5_peace_118 : decode cX5_peace 118 = .ok (.iinc 3 1, 3) := by decide +kernel
theorem dX5_peace_121 : decode cX5_peace 121 = .ok (.goto (-89), 3) := by decide +kernel
theorem dX5_peace_124 : decode cX5_peace 124 = .ok (.iload_n 2, 1) := by decide +kernel
theorem dX5_peace_125 : decode cX5_peace 125 = .ok (.ireturn, 1) := by decide +kernel
set_option maxRecDepth 20000 in
theorem ggX5_gives_X0_has : GoodIn wsX5_gives wsX0_has := goodIn_r _ [5, 6, 55, 56, 57, 58, 59] (by decide +kernel) (by decide +kernel)
set_option maxRecDepth 20000 in
theorem gX5_gives_X0_has_n70 : GoodIn wsX5_gives (wsX0_has) := ggX5_gives_X0_has
set_option maxRecDepth 20000 in
theorem ggX5_gives_X5_isMood : GoodIn wsX5_gives wsX5_isMood := goodIn_r _ [10, 11, 12, 9, 13] (by decide +kernel) (by decide +kernel)
set_option maxRecDepth 20000 in
theorem gX5_gives_X5_isMood : GoodIn wsX5_gives (va_wsS RX5 98 yX5_isMood wsX5_isMood) := goodIn_app (goodIn_of _ (by decide +kernel)) ggX5_gives_X5_isMood
set_option maxRecDepth 20000 in
theorem ggX5_gives_X4_givesAt : GoodIn wsX5_gives wsX4_givesAt := goodIn_r _ [17, 18, 19, 20, 21, 22, 23, 24, 3, 25, 26, 27, 28, 29, 30, 31, 32, 33, 34, 43, 44, 45, 46, 47, 48, 49, 50, 51, 52, 53, 54, 55, 56, 57, 58, 59] (by decide +kernel) (by decide +kernel)
set_option maxRecDepth 20000 in
theorem gX5_gives_X4_givesAt_n187 : GoodIn wsX5_gives (wsX4_givesAt) := ggX5_gives_X4_givesAt
theorem dX5_gives_0 : decode cX5_gives 0 = .ok (.aload_n 0, 1) := by decide +kernel
theorem dX5_gives_1 : decode cX5_gives 1 = .ok (.getfield 12, 3) := by decide +kernel
theorem dX5_gives_4 : decode cX5_gives 4 = .ok (.getfield 59, 3) := by decide +kernel
theorem dX5_gives_7 : decode cX5_gives 7 = .ok (.iload_n 1, 1) := by decide +kernel
theorem dX5_gives_8 : decode cX5_gives 8 = .ok (.invokevirtual 70, 3) := by decide +kernel
theorem dX5_gives_11 : decode cX5_gives 11 = .ok (.ifCond .eq 10, 3) := by decide +kernel
theorem dX5_gives_14 : decode cX5_gives 14 = .ok (.iload_n 2, 1) := by decide +kernel
theorem dX5_gives_15 : decode cX5_gives 15 = .ok (.invokestatic 98, 3) := by decide +kernel
theorem dX5_gives_18 : decode cX5_gives 18 = .ok (.ifCond .ne 5, 3) := by decide +kernel
theorem dX5_gives_21 : decode cX5_gives 21 = .ok (.iconst (-1), 1) := by decide +kernel
theorem dX5_gives_22 : decode cX5_gives 22 = .ok (.ireturn, 1) := by decide +kernel
theorem dX5_gives_23 : decode cX5_gives 23 = .ok (.aload_n 0, 1) := by decide +kernel
theorem dX5_gives_24 : decode cX5_gives 24 = .ok (.getfield 12, 3) := by decide +kernel
theorem dX5_gives_27 : decode cX5_gives 27 = .ok (.iload_n 1, 1) := by decide +kernel
theorem dX5_gives_28 : decode cX5_gives 28 = .ok (.iload_n 2, 1) := by decide +kernel
theorem dX5_gives_29 : decode cX5_gives 29 = .ok (.invokevirtual 187, 3) := by decide +kernel
theorem dX5_gives_32 : decode cX5_gives 32 = .ok (.ireturn, 1) := by decide +kernel
set_option maxRecDepth 20000 in
theorem ggX5_stranger_X5_isMood : GoodIn wsX5_stranger wsX5_isMood := goodIn_r _ [5, 6, 7, 4, 8] (by decide +kernel) (by decide +kernel)
set_option maxRecDepth 20000 in
theorem gX5_stranger_X5_isMood : GoodIn wsX5_stranger (va_wsS RX5 98 yX5_isMood wsX5_isMood) := goodIn_app (goodIn_of _ (by decide +kernel)) ggX5_stranger_X5_isMood
set_option maxRecDepth 20000 in
theorem ggX5_stranger_X0_has : GoodIn wsX5_stranger wsX0_has := goodIn_r _ [12, 13, 61, 62, 63, 64, 65] (by decide +kernel) (by decide +kernel)
set_option maxRecDepth 20000 in
theorem gX5_stranger_X0_has_n70 : GoodIn wsX5_stranger (wsX0_has) := ggX5_stranger_X0_has
set_option maxRecDepth 20000 in
theorem ggX5_stranger_X5_isPails : GoodIn wsX5_stranger wsX5_isPails := goodIn_r _ [16, 17] (by decide +kernel) (by decide +kernel)
set_option maxRecDepth 20000 in
theorem gX5_stranger_X5_isPails : GoodIn wsX5_stranger (va_wsS RX5 190 yX5_isPails wsX5_isPails) := goodIn_app (goodIn_of _ (by decide +kernel)) ggX5_stranger_X5_isPails
set_option maxRecDepth 20000 in
theorem ggX5_stranger_X5_asMood : GoodIn wsX5_stranger wsX5_asMood := goodIn_r _ [20, 21, 22, 23, 24, 25, 26, 27] (by decide +kernel) (by decide +kernel)
set_option maxRecDepth 20000 in
theorem gX5_stranger_X5_asMood : GoodIn wsX5_stranger (va_wsS RX5 194 yX5_asMood wsX5_asMood) := goodIn_app (goodIn_of _ (by decide +kernel)) ggX5_stranger_X5_asMood
set_option maxRecDepth 20000 in
theorem ggX5_stranger_X5_waned : GoodIn wsX5_stranger wsX5_waned := goodIn_r _ [30, 31, 32, 33, 34] (by decide +kernel) (by decide +kernel)
set_option maxRecDepth 20000 in
theorem gX5_stranger_X5_waned : GoodIn wsX5_stranger (va_wsS RX5 197 yX5_waned wsX5_waned) := goodIn_app (goodIn_of _ (by decide +kernel)) ggX5_stranger_X5_waned
set_option maxRecDepth 20000 in
theorem ggX5_stranger_X0_pailsAt : GoodIn wsX5_stranger wsX0_pailsAt := goodIn_r _ [37, 38, 39, 22, 23, 24, 40, 26, 27, 61, 62, 63, 64, 65] (by decide +kernel) (by decide +kernel)
set_option maxRecDepth 20000 in
theorem gX5_stranger_X0_pailsAt_n200 : GoodIn wsX5_stranger (wsX0_pailsAt) := ggX5_stranger_X0_pailsAt
theorem dX5_stranger_0 : decode cX5_stranger 0 = .ok (.iload_n 1, 1) := by decide +kernel
theorem dX5_stranger_1 : decode cX5_stranger 1 = .ok (.invokestatic 98, 3) := by decide +kernel
theorem dX5_stranger_4 : decode cX5_stranger 4 = .ok (.ifCond .eq 25, 3) := by decide +kernel
theorem dX5_stranger_7 : decode cX5_stranger 7 = .ok (.aload_n 0, 1) := by decide +kernel
theorem dX5_stranger_8 : decode cX5_stranger 8 = .ok (.getfield 12, 3) := by decide +kernel
theorem dX5_stranger_11 : decode cX5_stranger 11 = .ok (.getfield 59, 3) := by decide +kernel
theorem dX5_stranger_14 : decode cX5_stranger 14 = .ok (.iload_n 2, 1) := by decide +kernel
theorem dX5_stranger_15 : decode cX5_stranger 15 = .ok (.invokevirtual 70, 3) := by decide +kernel
theorem dX5_stranger_18 : decode cX5_stranger 18 = .ok (.ifCond .eq 11, 3) := by decide +kernel
theorem dX5_stranger_21 : decode cX5_stranger 21 = .ok (.iload_n 3, 1) := by decide +kernel
theorem dX5_stranger_22 : decode cX5_stranger 22 = .ok (.i2l, 1) := by decide +kernel
theorem dX5_stranger_23 : decode cX5_stranger 23 = .ok (.invokestatic 190, 3) := by decide +kernel
theorem dX5_stranger_26 : decode cX5_stranger 26 = .ok (.ifCond .ne 5, 3) := by decide +kernel
theorem dX5_stranger_29 : decode cX5_stranger 29 = .ok (.iconst (-1), 1) := by decide +kernel
theorem dX5_stranger_30 : decode cX5_stranger 30 = .ok (.ireturn, 1) := by decide +kernel
theorem dX5_stranger_31 : decode cX5_stranger 31 = .ok (.iconst 0, 1) := by decide +kernel
theorem dX5_stranger_32 : decode cX5_stranger 32 = .ok (.istore 4, 2) := by decide +kernel
theorem dX5_stranger_34 : decode cX5_stranger 34 = .ok (.bipush (-3), 2) := by decide +kernel
theorem dX5_stranger_36 : decode cX5_stranger 36 = .ok (.istore 5, 2) := by decide +kernel
theorem dX5_stranger_38 : decode cX5_stranger 38 = .ok (.iload 5, 2) := by decide +kernel
theorem dX5_stranger_40 : decode cX5_stranger 40 = .ok (.iconst 3, 1) := by decide +kernel
theorem dX5_stranger_41 : decode cX5_stranger 41 = .ok (.if_icmp .gt 49, 3) := by decide +kernel
theorem dX5_stranger_44 : decode cX5_stranger 44 = .ok (.iload_n 1, 1) := by decide +kernel
theorem dX5_stranger_45 : decode cX5_stranger 45 = .ok (.iload 5, 2) := by decide +kernel
theorem dX5_stranger_47 : decode cX5_stranger 47 = .ok (.iadd, 1) := by decide +kernel
theorem dX5_stranger_48 : decode cX5_stranger 48 = .ok (.invokestatic 194, 3) := by decide +kernel
theorem dX5_stranger_51 : decode cX5_stranger 51 = .ok (.invokestatic 197, 3) := by decide +kernel
theorem dX5_stranger_54 : decode cX5_stranger 54 = .ok (.istore 6, 2) := by decide +kernel
theorem dX5_stranger_56 : decode cX5_stranger 56 = .ok (.aload_n 0, 1) := by decide +kernel
theorem dX5_stranger_57 : decode cX5_stranger 57 = .ok (.getfield 12, 3) := by decide +kernel
theorem dX5_stranger_60 : decode cX5_stranger 60 = .ok (.getfield 59, 3) := by decide +kernel
theorem dX5_stranger_63 : decode cX5_stranger 63 = .ok (.iload_n 2, 1) := by decide +kernel
theorem dX5_stranger_64 : decode cX5_stranger 64 = .ok (.iload 6, 2) := by decide +kernel
theorem dX5_stranger_66 : decode cX5_stranger 66 = .ok (.invokevirtual 200, 3) := by decide +kernel
theorem dX5_stranger_69 : decode cX5_stranger 69 = .ok (.iload_n 3, 1) := by decide +kernel
theorem dX5_stranger_70 : decode cX5_stranger 70 = .ok (.if_icmp .ne 14, 3) := by decide +kernel
theorem dX5_stranger_73 : decode cX5_stranger 73 = .ok (.iload 4, 2) := by decide +kernel
theorem dX5_stranger_75 : decode cX5_stranger 75 = .ok (.iconst 1, 1) := by decide +kernel
theorem dX5_stranger_76 : decode cX5_stranger 76 = .ok (.iload 5, 2) := by decide +kernel
theorem dX5_stranger_78 : decode cX5_stranger 78 = .ok (.iconst 3, 1) := by decide +kernel
theorem dX5_stranger_79 : decode cX5_stranger 79 = .ok (.iadd, 1) := by decide +kernel
theorem dX5_stranger_80 : decode cX5_stranger 80 = .ok (.ishl, 1) := by decide +kernel
theorem dX5_stranger_81 : decode cX5_stranger 81 = .ok (.ior, 1) := by decide +kernel
theorem dX5_stranger_82 : decode cX5_stranger 82 = .ok (.istore 4, 2) := by decide +kernel
theorem dX5_stranger_84 : decode cX5_stranger 84 = .ok (.iinc 5 1, 3) := by decide +kernel
theorem dX5_stranger_87 : decode cX5_stranger 87 = .ok (.goto (-49), 3) := by decide +kernel
theorem dX5_stranger_90 : decode cX5_stranger 90 = .ok (.iload 4, 2) := by decide +kernel
theorem dX5_stranger_92 : decode cX5_stranger 92 = .ok (.ireturn, 1) := by decide +kernel
set_option maxRecDepth 20000 in
theorem ggX5_liar_X5_isTale : GoodIn wsX5_liar wsX5_isTale := goodIn_r _ [6, 1, 7, 8, 9, 10, 11, 12, 13, 5, 14, 15, 16, 17, 18, 19, 20, 21, 33, 34, 35, 36, 37, 38, 39, 40, 41, 42, 43, 44, 45, 46, 47, 48, 49, 50, 51, 52, 53, 54, 55, 56, 57] (by decide +kernel) (by decide +kernel)
set_option maxRecDepth 20000 in
theorem gX5_liar_X5_isTale : GoodIn wsX5_liar (wsV RX5 203 RX5 yX5_isTale wsX5_isTale) := goodIn_app (goodIn_of _ (by decide +kernel)) ggX5_liar_X5_isTale
set_option maxRecDepth 20000 in
theorem ggX5_liar_X0_pailsAt : GoodIn wsX5_liar wsX0_pailsAt := goodIn_r _ [24, 25, 26, 27, 28, 29, 30, 31, 32, 53, 54, 55, 56, 57] (by decide +kernel) (by decide +kernel)
set_option maxRecDepth 20000 in
theorem gX5_liar_X0_pailsAt_n200 : GoodIn wsX5_liar (wsX0_pailsAt) := ggX5_liar_X0_pailsAt
theorem dX5_liar_0 : decode cX5_liar 0 = .ok (.aload_n 0, 1) := by decide +kernel
theorem dX5_liar_1 : decode cX5_liar 1 = .ok (.iload_n 1, 1) := by decide +kernel
theorem dX5_liar_2 : decode cX5_liar 2 = .ok (.iload_n 2, 1) := by decide +kernel
theorem dX5_liar_3 : decode cX5_liar 3 = .ok (.iload_n 3, 1) := by decide +kernel
theorem dX5_liar_4 : decode cX5_liar 4 = .ok (.invokevirtual 203, 3) := by decide +kernel
theorem dX5_liar_7 : decode cX5_liar 7 = .ok (.ifCond .eq 22, 3) := by decide +kernel
theorem dX5_liar_10 : decode cX5_liar 10 = .ok (.aload_n 0, 1) := by decide +kernel
theorem dX5_liar_11 : decode cX5_liar 11 = .ok (.iload 4, 2) := by decide +kernel
theorem dX5_liar_13 : decode cX5_liar 13 = .ok (.iload 5, 2) := by decide +kernel
theorem dX5_liar_15 : decode cX5_liar 15 = .ok (.iload 6, 2) := by decide +kernel
theorem dX5_liar_17 : decode cX5_liar 17 = .ok (.invokevirtual 203, 3) := by decide +kernel
theorem dX5_liar_20 : decode cX5_liar 20 = .ok (.ifCond .eq 9, 3) := by decide +kernel
theorem dX5_liar_23 : decode cX5_liar 23 = .ok (.iload_n 1, 1) := by decide +kernel
theorem dX5_liar_24 : decode cX5_liar 24 = .ok (.iload 4, 2) := by decide +kernel
theorem dX5_liar_26 : decode cX5_liar 26 = .ok (.if_icmp .ne 5, 3) := by decide +kernel
theorem dX5_liar_29 : decode cX5_liar 29 = .ok (.iconst (-1), 1) := by decide +kernel
theorem dX5_liar_30 : decode cX5_liar 30 = .ok (.ireturn, 1) := by decide +kernel
theorem dX5_liar_31 : decode cX5_liar 31 = .ok (.aload_n 0, 1) := by decide +kernel
theorem dX5_liar_32 : decode cX5_liar 32 = .ok (.getfield 12, 3) := by decide +kernel
theorem dX5_liar_35 : decode cX5_liar 35 = .ok (.getfield 59, 3) := by decide +kernel
theorem dX5_liar_38 : decode cX5_liar 38 = .ok (.iload_n 1, 1) := by decide +kernel
theorem dX5_liar_39 : decode cX5_liar 39 = .ok (.iload_n 2, 1) := by decide +kernel
theorem dX5_liar_40 : decode cX5_liar 40 = .ok (.invokevirtual 200, 3) := by decide +kernel
theorem dX5_liar_43 : decode cX5_liar 43 = .ok (.iload_n 3, 1) := by decide +kernel
theorem dX5_liar_44 : decode cX5_liar 44 = .ok (.if_icmp .ne 7, 3) := by decide +kernel
theorem dX5_liar_47 : decode cX5_liar 47 = .ok (.iconst 0, 1) := by decide +kernel
theorem dX5_liar_48 : decode cX5_liar 48 = .ok (.goto 4, 3) := by decide +kernel
theorem dX5_liar_51 : decode cX5_liar 51 = .ok (.iconst 1, 1) := by decide +kernel
theorem dX5_liar_52 : decode cX5_liar 52 = .ok (.istore 7, 2) := by decide +kernel
theorem dX5_liar_54 : decode cX5_liar 54 = .ok (.aload_n 0, 1) := by decide +kernel
theorem dX5_liar_55 : decode cX5_liar 55 = .ok (.getfield 12, 3) := by decide +kernel
theorem dX5_liar_58 : decode cX5_liar 58 = .ok (.getfield 59, 3) := by decide +kernel
theorem dX5_liar_61 : decode cX5_liar 61 = .ok (.iload 4, 2) := by decide +kernel
theorem dX5_liar_63 : decode cX5_liar 63 = .ok (.iload 5, 2) := by decide +kernel
theorem dX5_liar_65 : decode cX5_liar 65 = .ok (.invokevirtual 200, 3) := by decide +kernel
theorem dX5_liar_68 : decode cX5_liar 68 = .ok (.iload 6, 2) := by decide +kernel
theorem dX5_liar_70 : decode cX5_liar 70 = .ok (.if_icmp .ne 7, 3) := by decide +kernel
theorem dX5_liar_73 : decode cX5_liar 73 = .ok (.iconst 0, 1) := by decide +kernel
theorem dX5_liar_74 : decode cX5_liar 74 = .ok (.goto 4, 3) := by decide +kernel
theorem dX5_liar_77 : decode cX5_liar 77 = .ok (.iconst 2, 1) := by decide +kernel
theorem dX5_liar_78 : decode cX5_liar 78 = .ok (.istore 8, 2) := by decide +kernel
theorem dX5_liar_80 : decode cX5_liar 80 = .ok (.iload 7, 2) := by decide +kernel
theorem dX5_liar_82 : decode cX5_liar 82 = .ok (.iload 8, 2) := by decide +kernel
theorem dX5_liar_84 : decode cX5_liar 84 = .ok (.ior, 1) := by decide +kernel
theorem dX5_liar_85 : decode cX5_liar 85 = .ok (.ireturn, 1) := by decide +kernel
set_option maxRecDepth 20000 in
theorem ggX5_other_X5_within : GoodIn wsX5_other wsX5_within := goodIn_r _ [5] (by decide +kernel) (by decide +kernel)
set_option maxRecDepth 20000 in
theorem gX5_other_X5_within : GoodIn wsX5_other (va_wsS RX5 55 yX5_within wsX5_within) := goodIn_app (goodIn_of _ (by decide +kernel)) ggX5_other_X5_within
set_option maxRecDepth 20000 in
theorem ggX5_other_X5_mostFrom : GoodIn wsX5_other wsX5_mostFrom := goodIn_r _ [9, 10, 1, 11, 12, 13, 14, 15, 16, 17, 18, 19, 20, 21, 22, 23, 24, 25, 26, 27, 28, 29, 30, 31, 32, 33, 34, 35, 36, 37, 38, 39, 40, 41, 42, 43, 44, 45, 46, 47, 48, 49, 50, 51, 52, 53, 54, 55, 4, 56, 57, 58, 59, 60, 61, 62, 63, 64, 65, 66, 67, 68, 69, 70, 71, 72, 73, 74, 75, 76, 77, 78, 79, 80, 81, 82, 83, 84, 85, 86, 87, 88, 89, 90, 91, 92, 93, 94, 95, 96, 97, 98, 99, 100, 113, 114, 115, 116, 117, 118, 119, 120, 121, 101, 102, 103, 104, 105, 106, 107, 108, 109, 110, 111, 112, 122, 123, 124, 125, 126] (by decide +kernel) (by decide +kernel)
set_option maxRecDepth 20000 in
theorem gX5_other_X5_mostFrom : GoodIn wsX5_other (wsV RX5 170 RX5 yX5_mostFrom wsX5_mostFrom) := goodIn_app (goodIn_of _ (by decide +kernel)) ggX5_other_X5_mostFrom
theorem dX5_other_0 : decode cX5_other 0 = .ok (.iload_n 1, 1) := by decide +kernel
theorem dX5_other_1 : decode cX5_other 1 = .ok (.iconst 1, 1) := by decide +kernel
theorem dX5_other_2 : decode cX5_other 2 = .ok (.iconst 5, 1) := by decide +kernel
theorem dX5_other_3 : decode cX5_other 3 = .ok (.invokestatic 55, 3) := by decide +kernel
theorem dX5_other_6 : decode cX5_other 6 = .ok (.ifCond .eq 19, 3) := by decide +kernel
theorem dX5_other_9 : decode cX5_other 9 = .ok (.aload_n 0, 1) := by decide +kernel
theorem dX5_other_10 : decode cX5_other 10 = .ok (.aload_n 0, 1) := by decide +kernel
theorem dX5_other_11 : decode cX5_other 11 = .ok (.getfield 12, 3) := by decide +kernel
theorem dX5_other_14 : decode cX5_other 14 = .ok (.getfield 101, 3) := by decide +kernel
theorem dX5_other_17 : decode cX5_other 17 = .ok (.ineg, 1) := by decide +kernel
theorem dX5_other_18 : decode cX5_other 18 = .ok (.iload_n 1, 1) := by decide +kernel
theorem dX5_other_19 : decode cX5_other 19 = .ok (.invokevirtual 170, 3) := by decide +kernel
theorem dX5_other_22 : decode cX5_other 22 = .ok (.goto 4, 3) := by decide +kernel
theorem dX5_other_25 : decode cX5_other 25 = .ok (.iconst (-1), 1) := by decide +kernel
theorem dX5_other_26 : decode cX5_other 26 = .ok (.ireturn, 1) := by decide +kernel
set_option maxRecDepth 20000 in
theorem ggX5_drawn_X5_within : GoodIn wsX5_drawn wsX5_within := goodIn_r _ [5] (by decide +kernel) (by decide +kernel)
set_option maxRecDepth 20000 in
theorem gX5_drawn_X5_within : GoodIn wsX5_drawn (va_wsS RX5 55 yX5_within wsX5_within) := goodIn_app (goodIn_of _ (by decide +kernel)) ggX5_drawn_X5_within
set_option maxRecDepth 20000 in
theorem ggX5_drawn_X4_hasHours : GoodIn wsX5_drawn wsX4_hasHours := goodIn_r _ [9, 10, 96, 97, 98, 99, 100, 101, 102, 103, 104, 105, 106, 107] (by decide +kernel) (by decide +kernel)
set_option maxRecDepth 20000 in
theorem gX5_drawn_X4_hasHours_n159 : GoodIn wsX5_drawn (wsX4_hasHours) := ggX5_drawn_X4_hasHours
set_option maxRecDepth 20000 in
theorem ggX5_drawn_X4_lot : GoodIn wsX5_drawn wsX4_lot := goodIn_r _ [13, 14, 15, 16, 17, 18, 19, 20, 21, 22, 7, 23, 24, 25, 26, 27, 28, 29, 96, 97, 98, 99, 100, 101, 102, 103, 104, 105, 106, 107, 108, 109, 110, 111, 112] (by decide +kernel) (by decide +kernel)
set_option maxRecDepth 20000 in
theorem gX5_drawn_X4_lot_n206 : GoodIn wsX5_drawn (wsX4_lot) := ggX5_drawn_X4_lot
set_option maxRecDepth 20000 in
theorem ggX5_drawn_X4_passHour : GoodIn wsX5_drawn wsX4_passHour := goodIn_r _ [32, 33, 20, 21, 22, 7, 23, 19, 24, 25, 26, 27, 28, 29, 34, 35, 36, 37, 38, 39, 40, 41, 42, 43, 44, 45, 46, 47, 48, 49, 50, 51, 52, 53, 54, 55, 56, 57, 58, 59, 60, 61, 62, 63, 64, 65, 66, 67, 68, 69, 70, 4, 71, 72, 73, 74, 75, 76, 77, 78, 10, 79, 80, 81, 82, 83, 84, 85, 86, 87, 96, 97, 98, 99, 100, 101, 102, 103, 104, 105, 106, 107, 108, 109, 110, 111, 112] (by decide +kernel) (by decide +kernel)
set_option maxRecDepth 20000 in
theorem gX5_drawn_X4_passHour_n162 : GoodIn wsX5_drawn (wsX4_passHour) := ggX5_drawn_X4_passHour
theorem dX5_drawn_0 : decode cX5_drawn 0 = .ok (.iload_n 1, 1) := by decide +kernel
theorem dX5_drawn_1 : decode cX5_drawn 1 = .ok (.iconst 1, 1) := by decide +kernel
theorem dX5_drawn_2 : decode cX5_drawn 2 = .ok (.bipush 60, 2) := by decide +kernel
theorem dX5_drawn_4 : decode cX5_drawn 4 = .ok (.invokestatic 55, 3) := by decide +kernel
theorem dX5_drawn_7 : decode cX5_drawn 7 = .ok (.ifCond .ne 5, 3) := by decide +kernel
theorem dX5_drawn_10 : decode cX5_drawn 10 = .ok (.iconst (-1), 1) := by decide +kernel
theorem dX5_drawn_11 : decode cX5_drawn 11 = .ok (.ireturn, 1) := by decide +kernel
theorem dX5_drawn_12 : decode cX5_drawn 12 = .ok (.aload_n 0, 1) := by decide +kernel
theorem dX5_drawn_13 : decode cX5_drawn 13 = .ok (.getfield 12, 3) := by decide +kernel
theorem dX5_drawn_16 : decode cX5_drawn 16 = .ok (.iload_n 1, 1) := by decide +kernel
theorem dX5_drawn_17 : decode cX5_drawn 17 = .ok (.invokevirtual 159, 3) := by decide +kernel
theorem dX5_drawn_20 : decode cX5_drawn 20 = .ok (.ifCond .ne 6, 3) := by decide +kernel
theorem dX5_drawn_23 : decode cX5_drawn 23 = .ok (.bipush (-3), 2) := by decide +kernel
theorem dX5_drawn_25 : decode cX5_drawn 25 = .ok (.ireturn, 1) := by decide +kernel
theorem dX5_drawn_26 : decode cX5_drawn 26 = .ok (.iconst 0, 1) := by decide +kernel
theorem dX5_drawn_27 : decode cX5_drawn 27 = .ok (.istore_n 2, 1) := by decide +kernel
theorem dX5_drawn_28 : decode cX5_drawn 28 = .ok (.iconst 0, 1) := by decide +kernel
theorem dX5_drawn_29 : decode cX5_drawn 29 = .ok (.istore_n 3, 1) := by decide +kernel
theorem dX5_drawn_30 : decode cX5_drawn 30 = .ok (.iload_n 3, 1) := by decide +kernel
theorem dX5_drawn_31 : decode cX5_drawn 31 = .ok (.iload_n 1, 1) := by decide +kernel
theorem dX5_drawn_32 : decode cX5_drawn 32 = .ok (.if_icmp .ge 26, 3) := by decide +kernel
theorem dX5_drawn_35 : decode cX5_drawn 35 = .ok (.iload_n 2, 1) := by decide +kernel
theorem dX5_drawn_36 : decode cX5_drawn 36 = .ok (.aload_n 0, 1) := by decide +kernel
theorem dX5_drawn_37 : decode cX5_drawn 37 = .ok (.getfield 12, 3) := by decide +kernel
theorem dX5_drawn_40 : decode cX5_drawn 40 = .ok (.aload_n 0, 1) := by decide +kernel
theorem dX5_drawn_41 : decode cX5_drawn 41 = .ok (.getfield 12, 3) := by decide +kernel
theorem dX5_drawn_44 : decode cX5_drawn 44 = .ok (.invokevirtual 206, 3) := by decide +kernel
theorem dX5_drawn_47 : decode cX5_drawn 47 = .ok (.invokevirtual 162, 3) := by decide +kernel
theorem dX5_drawn_50 : decode cX5_drawn 50 = .ok (.iadd, 1) := by decide +kernel
theorem dX5_drawn_51 : decode cX5_drawn 51 = .ok (.istore_n 2, 1) := by decide +kernel
theorem dX5_drawn_52 : decode cX5_drawn 52 = .ok (.iinc 3 1, 3) := by decide +kernel
theorem dX5_drawn_55 : decode cX5_drawn 55 = .ok (.goto (-25), 3) := by decide +kernel
theorem dX5_drawn_58 : decode cX5_drawn 58 = .ok (.iload_n 2, 1) := by decide +kernel
theorem dX5_drawn_59 : decode cX5_drawn 59 = .ok (.ireturn, 1) := by decide +kernel
theorem dX5_seed_0 : decode cX5_seed 0 = .ok (.iload_n 1, 1) := by decide +kernel
theorem dX5_seed_1 : decode cX5_seed 1 = .ok (.ifCond .ge 5, 3) := by decide +kernel
theorem dX5_seed_4 : decode cX5_seed 4 = .ok (.iconst (-1), 1) := by decide +kernel
theorem dX5_seed_5 : decode cX5_seed 5 = .ok (.ireturn, 1) := by decide +kernel
theorem dX5_seed_6 : decode cX5_seed 6 = .ok (.aload_n 0, 1) := by decide +kernel
theorem dX5_seed_7 : decode cX5_seed 7 = .ok (.getfield 12, 3) := by decide +kernel
theorem dX5_seed_10 : decode cX5_seed 10 = .ok (.getfield 209, 3) := by decide +kernel
theorem dX5_seed_13 : decode cX5_seed 13 = .ok (.istore_n 2, 1) := by decide +kernel
theorem dX5_seed_14 : decode cX5_seed 14 = .ok (.aload_n 0, 1) := by decide +kernel
theorem dX5_seed_15 : decode cX5_seed 15 = .ok (.getfield 12, 3) := by decide +kernel
theorem dX5_seed_18 : decode cX5_seed 18 = .ok (.iload_n 1, 1) := by decide +kernel
theorem dX5_seed_19 : decode cX5_seed 19 = .ok (.putfield 209, 3) := by decide +kernel
theorem dX5_seed_22 : decode cX5_seed 22 = .ok (.iload_n 2, 1) := by decide +kernel
theorem dX5_seed_23 : decode cX5_seed 23 = .ok (.ireturn, 1) := by decide +kernel
set_option maxRecDepth 20000 in
theorem ggX5_image_X4_become : GoodIn wsX5_image wsX4_become := goodIn_r _ [7, 8, 9, 10, 11, 12, 13, 14, 15, 16, 17, 18, 19, 20, 21, 22, 23, 24, 25, 26, 27, 28, 29, 30, 31, 32, 41, 42, 43, 44, 45, 46, 47, 48, 49, 50, 51, 52, 53, 54, 55, 56, 57] (by decide +kernel) (by decide +kernel)
set_option maxRecDepth 20000 in
theorem gX5_image_X4_become_n212 : GoodIn wsX5_image (wsX4_become) := ggX5_image_X4_become
theorem dX5_image_0 : decode cX5_image 0 = .ok (.aload_n 0, 1) := by decide +kernel
theorem dX5_image_1 : decode cX5_image 1 = .ok (.getfield 16, 3) := by decide +kernel
theorem dX5_image_4 : decode cX5_image 4 = .ok (.aload_n 0, 1) := by decide +kernel
theorem dX5_image_5 : decode cX5_image 5 = .ok (.getfield 12, 3) := by decide +kernel
theorem dX5_image_8 : decode cX5_image 8 = .ok (.invokevirtual 212, 3) := by decide +kernel
theorem dX5_image_11 : decode cX5_image 11 = .ok (.aload_n 0, 1) := by decide +kernel
theorem dX5_image_12 : decode cX5_image 12 = .ok (.iconst 1, 1) := by decide +kernel
theorem dX5_image_13 : decode cX5_image 13 = .ok (.putfield 19, 3) := by decide +kernel
theorem dX5_image_16 : decode cX5_image 16 = .ok (.iconst 1, 1) := by decide +kernel
theorem dX5_image_17 : decode cX5_image 17 = .ok (.ireturn, 1) := by decide +kernel
set_option maxRecDepth 20000 in
theorem ggX5_restore_X4_become : GoodIn wsX5_restore wsX4_become := goodIn_r _ [7, 8, 9, 10, 11, 12, 13, 14, 15, 16, 17, 18, 19, 20, 21, 22, 23, 24, 25, 26, 27, 28, 29, 30, 31, 32, 41, 42, 43, 44, 45, 46, 47, 48, 49, 50, 51, 52, 53, 54, 55, 56, 57] (by decide +kernel) (by decide +kernel)
set_option maxRecDepth 20000 in
theorem gX5_restore_X4_become_n212 : GoodIn wsX5_restore (wsX4_become) := ggX5_restore_X4_become
theorem dX5_restore_0 : decode cX5_restore 0 = .ok (.aload_n 0, 1) := by decide +kernel
theorem dX5_restore_1 : decode cX5_restore 1 = .ok (.getfield 19, 3) := by decide +kernel
theorem dX5_restore_4 : decode cX5_restore 4 = .ok (.ifCond .ne 6, 3) := by decide +kernel
theorem dX5_restore_7 : decode cX5_restore 7 = .ok (.bipush (-4), 2) := by decide +kernel
theorem dX5_restore_9 : decode cX5_restore 9 = .ok (.ireturn, 1) := by decide +kernel
theorem dX5_restore_10 : decode cX5_restore 10 = .ok (.aload_n 0, 1) := by decide +kernel
theorem dX5_restore_11 : decode cX5_restore 11 = .ok (.getfield 12, 3) := by decide +kernel
theorem dX5_restore_14 : decode cX5_restore 14 = .ok (.aload_n 0, 1) := by decide +kernel
theorem dX5_restore_15 : decode cX5_restore 15 = .ok (.getfield 16, 3) := by decide +kernel
theorem dX5_restore_18 : decode cX5_restore 18 = .ok (.invokevirtual 212, 3) := by decide +kernel
theorem dX5_restore_21 : decode cX5_restore 21 = .ok (.iconst 1, 1) := by decide +kernel
theorem dX5_restore_22 : decode cX5_restore 22 = .ok (.ireturn, 1) := by decide +kernel
set_option maxRecDepth 20000 in
theorem ggX5_fit_X5_within : GoodIn wsX5_fit wsX5_within := goodIn_r _ [5] (by decide +kernel) (by decide +kernel)
set_option maxRecDepth 20000 in
theorem gX5_fit_X5_within : GoodIn wsX5_fit (va_wsS RX5 55 yX5_within wsX5_within) := goodIn_app (goodIn_of _ (by decide +kernel)) ggX5_fit_X5_within
set_option maxRecDepth 20000 in
theorem ggX5_fit_X5_refusal : GoodIn wsX5_fit wsX5_refusal := goodIn_r _ [9, 1, 10, 11, 4, 12, 2, 3, 5, 13, 14, 15, 16, 17, 18, 19, 20, 61, 62, 63, 64, 65, 66, 67, 68, 69, 70, 71, 72] (by decide +kernel) (by decide +kernel)
set_option maxRecDepth 20000 in
theorem gX5_fit_X5_refusal : GoodIn wsX5_fit (wsV RX5 215 RX5 yX5_refusal wsX5_refusal) := goodIn_app (goodIn_of _ (by decide +kernel)) ggX5_fit_X5_refusal
set_option maxRecDepth 20000 in
theorem ggX5_fit_X5_areDrawings : GoodIn wsX5_fit wsX5_areDrawings := goodIn_r _ [24, 25, 26, 27, 4, 28, 29, 69, 70, 71, 72, 61, 62, 63, 64, 65, 66, 67, 68, 73, 74, 75, 76, 77, 78, 79, 80, 81, 82, 83, 84, 85, 86, 87, 88, 89] (by decide +kernel) (by decide +kernel)
set_option maxRecDepth 20000 in
theorem gX5_fit_X5_areDrawings : GoodIn wsX5_fit (wsV RX5 219 RX5 yX5_areDrawings wsX5_areDrawings) := goodIn_app (goodIn_of _ (by decide +kernel)) ggX5_fit_X5_areDrawings
set_option maxRecDepth 20000 in
theorem ggX5_fit_X5_fitsFrom : GoodIn wsX5_fit wsX5_fitsFrom := goodIn_r _ [33, 25, 34, 35, 36, 37, 38, 39, 40, 41, 42, 43, 44, 45, 46, 47, 48, 49, 50, 4, 51, 52, 53, 54, 55, 56, 57, 58, 59, 60, 69, 70, 71, 72, 61, 62, 63, 64, 65, 66, 67, 68, 73, 74, 75, 76, 77, 78, 79, 80, 81, 82, 83, 84, 85, 86, 87, 88, 89] (by decide +kernel) (by decide +kernel)
set_option maxRecDepth 20000 in
theorem gX5_fit_X5_fitsFrom : GoodIn wsX5_fit (wsV RX5 223 RX5 yX5_fitsFrom wsX5_fitsFrom) := goodIn_app (goodIn_of _ (by decide +kernel)) ggX5_fit_X5_fitsFrom
theorem dX5_fit_0 : decode cX5_fit 0 = .ok (.iload 4, 2) := by decide +kernel
theorem dX5_fit_2 : decode cX5_fit 2 = .ok (.iconst 1, 1) := by decide +kernel
theorem dX5_fit_3 : decode cX5_fit 3 = .ok (.bipush 8, 2) := by decide +kernel
theorem dX5_fit_5 : decode cX5_fit 5 = .ok (.invokestatic 55, 3) := by decide +kernel
theorem dX5_fit_8 : decode cX5_fit 8 = .ok (.ifCond .ne 5, 3) := by decide +kernel
theorem dX5_fit_11 : decode cX5_fit 11 = .ok (.iconst (-1), 1) := by decide +kernel
theorem dX5_fit_12 : decode cX5_fit 12 = .ok (.ireturn, 1) := by decide +kernel
theorem dX5_fit_13 : decode cX5_fit 13 = .ok (.aload_n 0, 1) := by decide +kernel
theorem dX5_fit_14 : decode cX5_fit 14 = .ok (.iload_n 1, 1) := by decide +kernel
theorem dX5_fit_15 : decode cX5_fit 15 = .ok (.iload_n 2, 1) := by decide +kernel
theorem dX5_fit_16 : decode cX5_fit 16 = .ok (.iload_n 3, 1) := by decide +kernel
theorem dX5_fit_17 : decode cX5_fit 17 = .ok (.iconst 2, 1) := by decide +kernel
theorem dX5_fit_18 : decode cX5_fit 18 = .ok (.iload 4, 2) := by decide +kernel
theorem dX5_fit_20 : decode cX5_fit 20 = .ok (.imul, 1) := by decide +kernel
theorem dX5_fit_21 : decode cX5_fit 21 = .ok (.invokevirtual 215, 3) := by decide +kernel
theorem dX5_fit_24 : decode cX5_fit 24 = .ok (.istore 5, 2) := by decide +kernel
theorem dX5_fit_26 : decode cX5_fit 26 = .ok (.iload 5, 2) := by decide +kernel
theorem dX5_fit_28 : decode cX5_fit 28 = .ok (.ifCond .eq 6, 3) := by decide +kernel
theorem dX5_fit_31 : decode cX5_fit 31 = .ok (.iload 5, 2) := by decide +kernel
theorem dX5_fit_33 : decode cX5_fit 33 = .ok (.ireturn, 1) := by decide +kernel
theorem dX5_fit_34 : decode cX5_fit 34 = .ok (.aload_n 0, 1) := by decide +kernel
theorem dX5_fit_35 : decode cX5_fit 35 = .ok (.aload_n 0, 1) := by decide +kernel
theorem dX5_fit_36 : decode cX5_fit 36 = .ok (.getfield 50, 3) := by decide +kernel
theorem dX5_fit_39 : decode cX5_fit 39 = .ok (.iload_n 1, 1) := by decide +kernel
theorem dX5_fit_40 : decode cX5_fit 40 = .ok (.aaload, 1) := by decide +kernel
theorem dX5_fit_41 : decode cX5_fit 41 = .ok (.iload_n 3, 1) := by decide +kernel
theorem dX5_fit_42 : decode cX5_fit 42 = .ok (.iload 4, 2) := by decide +kernel
theorem dX5_fit_44 : decode cX5_fit 44 = .ok (.invokevirtual 219, 3) := by decide +kernel
theorem dX5_fit_47 : decode cX5_fit 47 = .ok (.ifCond .ne 6, 3) := by decide +kernel
theorem dX5_fit_50 : decode cX5_fit 50 = .ok (.bipush (-2), 2) := by decide +kernel
theorem dX5_fit_52 : decode cX5_fit 52 = .ok (.ireturn, 1) := by decide +kernel
theorem dX5_fit_53 : decode cX5_fit 53 = .ok (.iconst 0, 1) := by decide +kernel
theorem dX5_fit_54 : decode cX5_fit 54 = .ok (.istore 6, 2) := by decide +kernel
theorem dX5_fit_56 : decode cX5_fit 56 = .ok (.bipush (-9), 2) := by decide +kernel
theorem dX5_fit_58 : decode cX5_fit 58 = .ok (.istore 7, 2) := by decide +kernel
theorem dX5_fit_60 : decode cX5_fit 60 = .ok (.iload 7, 2) := by decide +kernel
theorem dX5_fit_62 : decode cX5_fit 62 = .ok (.bipush 9, 2) := by decide +kernel
theorem dX5_fit_64 : decode cX5_fit 64 = .ok (.if_icmp .gt 39, 3) := by decide +kernel
theorem dX5_fit_67 : decode cX5_fit 67 = .ok (.aload_n 0, 1) := by decide +kernel
theorem dX5_fit_68 : decode cX5_fit 68 = .ok (.iload 7, 2) := by decide +kernel
theorem dX5_fit_70 : decode cX5_fit 70 = .ok (.aload_n 0, 1) := by decide +kernel
theorem dX5_fit_71 : decode cX5_fit 71 = .ok (.getfield 50, 3) := by decide +kernel
theorem dX5_fit_74 : decode cX5_fit 74 = .ok (.iload_n 1, 1) := by decide +kernel
theorem dX5_fit_75 : decode cX5_fit 75 = .ok (.aaload, 1) := by decide +kernel
theorem dX5_fit_76 : decode cX5_fit 76 = .ok (.iload_n 3, 1) := by decide +kernel
theorem dX5_fit_77 : decode cX5_fit 77 = .ok (.iload 4, 2) := by decide +kernel
theorem dX5_fit_79 : decode cX5_fit 79 = .ok (.invokevirtual 223, 3) := by decide +kernel
theorem dX5_fit_82 : decode cX5_fit 82 = .ok (.ifCond .eq 15, 3) := by decide +kernel
theorem dX5_fit_85 : decode cX5_fit 85 = .ok (.iload 6, 2) := by decide +kernel
theorem dX5_fit_87 : decode cX5_fit 87 = .ok (.iconst 1, 1) := by decide +kernel
theorem dX5_fit_88 : decode cX5_fit 88 = .ok (.iload 7, 2) := by decide +kernel
theorem dX5_fit_90 : decode cX5_fit 90 = .ok (.bipush 9, 2) := by decide +kernel
theorem dX5_fit_92 : decode cX5_fit 92 = .ok (.iadd, 1) := by decide +kernel
theorem dX5_fit_93 : decode cX5_fit 93 = .ok (.ishl, 1) := by decide +kernel
theorem dX5_fit_94 : decode cX5_fit 94 = .ok (.ior, 1) := by decide +kernel
theorem dX5_fit_95 : decode cX5_fit 95 = .ok (.istore 6, 2) := by decide +kernel
theorem dX5_fit_97 : decode cX5_fit 97 = .ok (.iinc 7 1, 3) := by decide +kernel
theorem dX5_fit_100 : decode cX5_fit 100 = .ok (.goto (-40), 3) := by decide +kernel
theorem dX5_fit_103 : decode cX5_fit 103 = .ok (.iload 6, 2) := by decide +kernel
theorem dX5_fit_105 : decode cX5_fit 105 = .ok (.ireturn, 1) := by decide +kernel
set_option maxRecDepth 20000 in
theorem ggX5_film_X0_has : GoodIn wsX5_film wsX0_has := goodIn_r _ [6, 7, 73, 74, 75, 76, 77] (by decide +kernel) (by decide +kernel)
set_option maxRecDepth 20000 in
theorem gX5_film_X0_has_n70 : GoodIn wsX5_film (wsX0_has) := ggX5_film_X0_has
set_option maxRecDepth 20000 in
theorem ggX5_film_X5_refusal : GoodIn wsX5_film wsX5_refusal := goodIn_r _ [12, 2, 13, 14, 11, 15, 16, 17, 18, 19, 20, 21, 22, 23, 24, 25, 26, 53, 54, 55, 56, 57, 58, 59, 60, 78, 79, 80, 81] (by decide +kernel) (by decide +kernel)
set_option maxRecDepth 20000 in
theorem gX5_film_X5_refusal : GoodIn wsX5_film (wsV RX5 215 RX5 yX5_refusal wsX5_refusal) := goodIn_app (goodIn_of _ (by decide +kernel)) ggX5_film_X5_refusal
set_option maxRecDepth 20000 in
theorem ggX5_film_X4_givesAt : GoodIn wsX5_film wsX4_givesAt := goodIn_r _ [30, 31, 32, 33, 34, 35, 36, 37, 4, 38, 39, 40, 41, 42, 43, 44, 45, 46, 47, 61, 62, 63, 64, 65, 66, 67, 68, 69, 70, 71, 72, 73, 74, 75, 76, 77] (by decide +kernel) (by decide +kernel)
set_option maxRecDepth 20000 in
theorem gX5_film_X4_givesAt_n187 : GoodIn wsX5_film (wsX4_givesAt) := ggX5_film_X4_givesAt
set_option maxRecDepth 20000 in
theorem ggX5_film_X2_put : GoodIn wsX5_film wsX2_put := goodIn_r _ [50, 51, 52, 78, 79, 80, 81] (by decide +kernel) (by decide +kernel)
set_option maxRecDepth 20000 in
theorem gX5_film_X2_put_n227 : GoodIn wsX5_film (wsX2_put) := ggX5_film_X2_put
theorem dX5_film_0 : decode cX5_film 0 = .ok (.aload_n 0, 1) := by decide +kernel
theorem dX5_film_1 : decode cX5_film 1 = .ok (.getfield 12, 3) := by decide +kernel
theorem dX5_film_4 : decode cX5_film 4 = .ok (.getfield 59, 3) := by decide +kernel
theorem dX5_film_7 : decode cX5_film 7 = .ok (.iload_n 1, 1) := by decide +kernel
theorem dX5_film_8 : decode cX5_film 8 = .ok (.invokevirtual 70, 3) := by decide +kernel
theorem dX5_film_11 : decode cX5_film 11 = .ok (.ifCond .ne 5, 3) := by decide +kernel
theorem dX5_film_14 : decode cX5_film 14 = .ok (.iconst (-1), 1) := by decide +kernel
theorem dX5_film_15 : decode cX5_film 15 = .ok (.ireturn, 1) := by decide +kernel
theorem dX5_film_16 : decode cX5_film 16 = .ok (.aload_n 0, 1) := by decide +kernel
theorem dX5_film_17 : decode cX5_film 17 = .ok (.iload_n 2, 1) := by decide +kernel
theorem dX5_film_18 : decode cX5_film 18 = .ok (.iload_n 3, 1) := by decide +kernel
theorem dX5_film_19 : decode cX5_film 19 = .ok (.iload 4, 2) := by decide +kernel
theorem dX5_film_21 : decode cX5_film 21 = .ok (.bipush 19, 2) := by decide +kernel
theorem dX5_film_23 : decode cX5_film 23 = .ok (.invokevirtual 215, 3) := by decide +kernel
theorem dX5_film_26 : decode cX5_film 26 = .ok (.istore 5, 2) := by decide +kernel
theorem dX5_film_28 : decode cX5_film 28 = .ok (.iload 5, 2) := by decide +kernel
theorem dX5_film_30 : decode cX5_film 30 = .ok (.ifCond .eq 6, 3) := by decide +kernel
theorem dX5_film_33 : decode cX5_film 33 = .ok (.iload 5, 2) := by decide +kernel
theorem dX5_film_35 : decode cX5_film 35 = .ok (.ireturn, 1) := by decide +kernel
theorem dX5_film_36 : decode cX5_film 36 = .ok (.iconst 0, 1) := by decide +kernel
theorem dX5_film_37 : decode cX5_film 37 = .ok (.istore 6, 2) := by decide +kernel
theorem dX5_film_39 : decode cX5_film 39 = .ok (.iload 6, 2) := by decide +kernel
theorem dX5_film_41 : decode cX5_film 41 = .ok (.bipush 19, 2) := by decide +kernel
theorem dX5_film_43 : decode cX5_film 43 = .ok (.if_icmp .ge 37, 3) := by decide +kernel
theorem dX5_film_46 : decode cX5_film 46 = .ok (.aload_n 0, 1) := by decide +kernel
theorem dX5_film_47 : decode cX5_film 47 = .ok (.getfield 50, 3) := by decide +kernel
theorem dX5_film_50 : decode cX5_film 50 = .ok (.iload_n 2, 1) := by decide +kernel
theorem dX5_film_51 : decode cX5_film 51 = .ok (.aaload, 1) := by decide +kernel
theorem dX5_film_52 : decode cX5_film 52 = .ok (.iload 4, 2) := by decide +kernel
theorem dX5_film_54 : decode cX5_film 54 = .ok (.iload 6, 2) := by decide +kernel
theorem dX5_film_56 : decode cX5_film 56 = .ok (.iadd, 1) := by decide +kernel
theorem dX5_film_57 : decode cX5_film 57 = .ok (.aload_n 0, 1) := by decide +kernel
theorem dX5_film_58 : decode cX5_film 58 = .ok (.getfield 12, 3) := by decide +kernel
theorem dX5_film_61 : decode cX5_film 61 = .ok (.iload_n 1, 1) := by decide +kernel
theorem dX5_film_62 : decode cX5_film 62 = .ok (.iload 6, 2) := by decide +kernel
theorem dX5_film_64 : decode cX5_film 64 = .ok (.bipush 9, 2) := by decide +kernel
theorem dX5_film_66 : decode cX5_film 66 = .ok (.isub, 1) := by decide +kernel
theorem dX5_film_67 : decode cX5_film 67 = .ok (.invokevirtual 187, 3) := by decide +kernel
theorem dX5_film_70 : decode cX5_film 70 = .ok (.i2l, 1) := by decide +kernel
theorem dX5_film_71 : decode cX5_film 71 = .ok (.invokevirtual 227, 3) := by decide +kernel
theorem dX5_film_74 : decode cX5_film 74 = .ok (.iinc 6 1, 3) := by decide +kernel
theorem dX5_film_77 : decode cX5_film 77 = .ok (.goto (-38), 3) := by decide +kernel
theorem dX5_film_80 : decode cX5_film 80 = .ok (.bipush 19, 2) := by decide +kernel
theorem dX5_film_82 : decode cX5_film 82 = .ok (.ireturn, 1) := by decide +kernel
set_option maxRecDepth 20000 in
theorem ggX5_sheet_X5_isSheet : GoodIn wsX5_sheet wsX5_isSheet := goodIn_r _ [5, 6, 7, 4, 8] (by decide +kernel) (by decide +kernel)
set_option maxRecDepth 20000 in
theorem gX5_sheet_X5_isSheet : GoodIn wsX5_sheet (va_wsS RX5 231 yX5_isSheet wsX5_isSheet) := goodIn_app (goodIn_of _ (by decide +kernel)) ggX5_sheet_X5_isSheet
set_option maxRecDepth 20000 in
theorem ggX5_sheet_X5_isLane : GoodIn wsX5_sheet wsX5_isLane := goodIn_r _ [11, 6, 7, 4, 8] (by decide +kernel) (by decide +kernel)
set_option maxRecDepth 20000 in
theorem gX5_sheet_X5_isLane : GoodIn wsX5_sheet (va_wsS RX5 234 yX5_isLane wsX5_isLane) := goodIn_app (goodIn_of _ (by decide +kernel)) ggX5_sheet_X5_isLane
set_option maxRecDepth 20000 in
theorem ggX5_sheet_X2_begin : GoodIn wsX5_sheet wsX2_begin := goodIn_r _ [15, 16, 17, 18, 19, 28, 29, 30, 31] (by decide +kernel) (by decide +kernel)
set_option maxRecDepth 20000 in
theorem gX5_sheet_X2_begin_n237 : GoodIn wsX5_sheet (wsX2_begin) := ggX5_sheet_X2_begin
theorem dX5_sheet_0 : decode cX5_sheet 0 = .ok (.iload_n 1, 1) := by decide +kernel
theorem dX5_sheet_1 : decode cX5_sheet 1 = .ok (.invokestatic 231, 3) := by decide +kernel
theorem dX5_sheet_4 : decode cX5_sheet 4 = .ok (.ifCond .eq 16, 3) := by decide +kernel
theorem dX5_sheet_7 : decode cX5_sheet 7 = .ok (.iload_n 2, 1) := by decide +kernel
theorem dX5_sheet_8 : decode cX5_sheet 8 = .ok (.invokestatic 234, 3) := by decide +kernel
theorem dX5_sheet_11 : decode cX5_sheet 11 = .ok (.ifCond .eq 9, 3) := by decide +kernel
theorem dX5_sheet_14 : decode cX5_sheet 14 = .ok (.iload_n 3, 1) := by decide +kernel
theorem dX5_sheet_15 : decode cX5_sheet 15 = .ok (.bipush 24, 2) := by decide +kernel
theorem dX5_sheet_17 : decode cX5_sheet 17 = .ok (.if_icmp .le 5, 3) := by decide +kernel
theorem dX5_sheet_20 : decode cX5_sheet 20 = .ok (.iconst (-1), 1) := by decide +kernel
theorem dX5_sheet_21 : decode cX5_sheet 21 = .ok (.ireturn, 1) := by decide +kernel
theorem dX5_sheet_22 : decode cX5_sheet 22 = .ok (.iload_n 3, 1) := by decide +kernel
theorem dX5_sheet_23 : decode cX5_sheet 23 = .ok (.ifCond .ge 6, 3) := by decide +kernel
theorem dX5_sheet_26 : decode cX5_sheet 26 = .ok (.bipush (-14), 2) := by decide +kernel
theorem dX5_sheet_28 : decode cX5_sheet 28 = .ok (.ireturn, 1) := by decide +kernel
theorem dX5_sheet_29 : decode cX5_sheet 29 = .ok (.aload_n 0, 1) := by decide +kernel
theorem dX5_sheet_30 : decode cX5_sheet 30 = .ok (.getfield 50, 3) := by decide +kernel
theorem dX5_sheet_33 : decode cX5_sheet 33 = .ok (.iload_n 1, 1) := by decide +kernel
theorem dX5_sheet_34 : decode cX5_sheet 34 = .ok (.aaload, 1) := by decide +kernel
theorem dX5_sheet_35 : decode cX5_sheet 35 = .ok (.iload_n 2, 1) := by decide +kernel
theorem dX5_sheet_36 : decode cX5_sheet 36 = .ok (.iload_n 3, 1) := by decide +kernel
theorem dX5_sheet_37 : decode cX5_sheet 37 = .ok (.invokevirtual 237, 3) := by decide +kernel
theorem dX5_sheet_40 : decode cX5_sheet 40 = .ok (.iload_n 3, 1) := by decide +kernel
theorem dX5_sheet_41 : decode cX5_sheet 41 = .ok (.ireturn, 1) := by decide +kernel
set_option maxRecDepth 20000 in
theorem ggX5_drop_X5_isSheet : GoodIn wsX5_drop wsX5_isSheet := goodIn_r _ [5, 6, 7, 4, 8] (by decide +kernel) (by decide +kernel)
set_option maxRecDepth 20000 in
theorem gX5_drop_X5_isSheet : GoodIn wsX5_drop (va_wsS RX5 231 yX5_isSheet wsX5_isSheet) := goodIn_app (goodIn_of _ (by decide +kernel)) ggX5_drop_X5_isSheet
theorem dX5_drop_0 : decode cX5_drop 0 = .ok (.iload_n 1, 1) := by decide +kernel
theorem dX5_drop_1 : decode cX5_drop 1 = .ok (.invokestatic 231, 3) := by decide +kernel
theorem dX5_drop_4 : decode cX5_drop 4 = .ok (.ifCond .ne 5, 3) := by decide +kernel
theorem dX5_drop_7 : decode cX5_drop 7 = .ok (.iconst (-1), 1) := by decide +kernel
theorem dX5_drop_8 : decode cX5_drop 8 = .ok (.ireturn, 1) := by decide +kernel
theorem dX5_drop_9 : decode cX5_drop 9 = .ok (.aload_n 0, 1) := by decide +kernel
theorem dX5_drop_10 : decode cX5_drop 10 = .ok (.getfield 50, 3) := by decide +kernel
theorem dX5_drop_13 : decode cX5_drop 13 = .ok (.iload_n 1, 1) := by decide +kernel
theorem dX5_drop_14 : decode cX5_drop 14 = .ok (.aaload, 1) := by decide +kernel
theorem dX5_drop_15 : decode cX5_drop 15 = .ok (.getfield 241, 3) := by decide +kernel
theorem dX5_drop_18 : decode cX5_drop 18 = .ok (.ifCond .ne 6, 3) := by decide +kernel
theorem dX5_drop_21 : decode cX5_drop 21 = .ok (.bipush (-11), 2) := by decide +kernel
theorem dX5_drop_23 : decode cX5_drop 23 = .ok (.ireturn, 1) := by decide +kernel
theorem dX5_drop_24 : decode cX5_drop 24 = .ok (.aload_n 0, 1) := by decide +kernel
theorem dX5_drop_25 : decode cX5_drop 25 = .ok (.getfield 50, 3) := by decide +kernel
theorem dX5_drop_28 : decode cX5_drop 28 = .ok (.iload_n 1, 1) := by decide +kernel
theorem dX5_drop_29 : decode cX5_drop 29 = .ok (.aaload, 1) := by decide +kernel
theorem dX5_drop_30 : decode cX5_drop 30 = .ok (.iconst 0, 1) := by decide +kernel
theorem dX5_drop_31 : decode cX5_drop 31 = .ok (.putfield 241, 3) := by decide +kernel
theorem dX5_drop_34 : decode cX5_drop 34 = .ok (.aload_n 0, 1) := by decide +kernel
theorem dX5_drop_35 : decode cX5_drop 35 = .ok (.getfield 50, 3) := by decide +kernel
theorem dX5_drop_38 : decode cX5_drop 38 = .ok (.iload_n 1, 1) := by decide +kernel
theorem dX5_drop_39 : decode cX5_drop 39 = .ok (.aaload, 1) := by decide +kernel
theorem dX5_drop_40 : decode cX5_drop 40 = .ok (.getfield 244, 3) := by decide +kernel
theorem dX5_drop_43 : decode cX5_drop 43 = .ok (.ireturn, 1) := by decide +kernel
set_option maxRecDepth 20000 in
theorem ggX5_item_X5_refusal : GoodIn wsX5_item wsX5_refusal := goodIn_r _ [6, 1, 7, 8, 5, 9, 10, 11, 12, 13, 14, 15, 16, 17, 18, 19, 20, 26, 27, 28, 29, 30, 31, 32, 33, 34, 35, 36, 37] (by decide +kernel) (by decide +kernel)
set_option maxRecDepth 20000 in
theorem gX5_item_X5_refusal : GoodIn wsX5_item (wsV RX5 215 RX5 yX5_refusal wsX5_refusal) := goodIn_app (goodIn_of _ (by decide +kernel)) ggX5_item_X5_refusal
set_option maxRecDepth 20000 in
theorem ggX5_item_X2_put : GoodIn wsX5_item wsX2_put := goodIn_r _ [23, 24, 25, 34, 35, 36, 37] (by decide +kernel) (by decide +kernel)
set_option maxRecDepth 20000 in
theorem gX5_item_X2_put_n227 : GoodIn wsX5_item (wsX2_put) := ggX5_item_X2_put
theorem dX5_item_0 : decode cX5_item 0 = .ok (.aload_n 0, 1) := by decide +kernel
theorem dX5_item_1 : decode cX5_item 1 = .ok (.iload_n 1, 1) := by decide +kernel
theorem dX5_item_2 : decode cX5_item 2 = .ok (.iload_n 2, 1) := by decide +kernel
theorem dX5_item_3 : decode cX5_item 3 = .ok (.iload_n 3, 1) := by decide +kernel
theorem dX5_item_4 : decode cX5_item 4 = .ok (.iconst 1, 1) := by decide +kernel
theorem dX5_item_5 : decode cX5_item 5 = .ok (.invokevirtual 215, 3) := by decide +kernel
theorem dX5_item_8 : decode cX5_item 8 = .ok (.istore 6, 2) := by decide +kernel
theorem dX5_item_10 : decode cX5_item 10 = .ok (.iload 6, 2) := by decide +kernel
theorem dX5_item_12 : decode cX5_item 12 = .ok (.ifCond .eq 6, 3) := by decide +kernel
theorem dX5_item_15 : decode cX5_item 15 = .ok (.iload 6, 2) := by decide +kernel
theorem dX5_item_17 : decode cX5_item 17 = .ok (.ireturn, 1) := by decide +kernel
theorem dX5_item_18 : decode cX5_item 18 = .ok (.aload_n 0, 1) := by decide +kernel
theorem dX5_item_19 : decode cX5_item 19 = .ok (.getfield 50, 3) := by decide +kernel
theorem dX5_item_22 : decode cX5_item 22 = .ok (.iload_n 1, 1) := by decide +kernel
theorem dX5_item_23 : decode cX5_item 23 = .ok (.aaload, 1) := by decide +kernel
theorem dX5_item_24 : decode cX5_item 24 = .ok (.iload_n 3, 1) := by decide +kernel
theorem dX5_item_25 : decode cX5_item 25 = .ok (.lload 4, 2) := by decide +kernel
theorem dX5_item_27 : decode cX5_item 27 = .ok (.invokevirtual 227, 3) := by decide +kernel
theorem dX5_item_30 : decode cX5_item 30 = .ok (.iconst 1, 1) := by decide +kernel
theorem dX5_item_31 : decode cX5_item 31 = .ok (.ireturn, 1) := by decide +kernel
set_option maxRecDepth 20000 in
theorem ggX5_copy_X5_isSheet : GoodIn wsX5_copy wsX5_isSheet := goodIn_r _ [9, 10, 11, 8, 12] (by decide +kernel) (by decide +kernel)
set_option maxRecDepth 20000 in
theorem gX5_copy_X5_isSheet : GoodIn wsX5_copy (va_wsS RX5 231 yX5_isSheet wsX5_isSheet) := goodIn_app (goodIn_of _ (by decide +kernel)) ggX5_copy_X5_isSheet
set_option maxRecDepth 20000 in
theorem ggX5_copy_X2_hasSpan : GoodIn wsX5_copy wsX2_hasSpan := goodIn_r _ [16, 17, 26, 27, 28, 29] (by decide +kernel) (by decide +kernel)
set_option maxRecDepth 20000 in
theorem gX5_copy_X2_hasSpan_n248 : GoodIn wsX5_copy (wsX2_hasSpan) := ggX5_copy_X2_hasSpan
theorem dX5_copy_0 : decode cX5_copy 0 = .ok (.iload_n 1, 1) := by decide +kernel
theorem dX5_copy_1 : decode cX5_copy 1 = .ok (.invokestatic 231, 3) := by decide +kernel
theorem dX5_copy_4 : decode cX5_copy 4 = .ok (.ifCond .eq 10, 3) := by decide +kernel
theorem dX5_copy_7 : decode cX5_copy 7 = .ok (.iload_n 3, 1) := by decide +kernel
theorem dX5_copy_8 : decode cX5_copy 8 = .ok (.invokestatic 231, 3) := by decide +kernel
theorem dX5_copy_11 : decode cX5_copy 11 = .ok (.ifCond .ne 5, 3) := by decide +kernel
theorem dX5_copy_14 : decode cX5_copy 14 = .ok (.iconst (-1), 1) := by decide +kernel
theorem dX5_copy_15 : decode cX5_copy 15 = .ok (.ireturn, 1) := by decide +kernel
theorem dX5_copy_16 : decode cX5_copy 16 = .ok (.aload_n 0, 1) := by decide +kernel
theorem dX5_copy_17 : decode cX5_copy 17 = .ok (.getfield 50, 3) := by decide +kernel
theorem dX5_copy_20 : decode cX5_copy 20 = .ok (.iload_n 1, 1) := by decide +kernel
theorem dX5_copy_21 : decode cX5_copy 21 = .ok (.aaload, 1) := by decide +kernel
theorem dX5_copy_22 : decode cX5_copy 22 = .ok (.getfield 241, 3) := by decide +kernel
theorem dX5_copy_25 : decode cX5_copy 25 = .ok (.ifCond .eq 15, 3) := by decide +kernel
theorem dX5_copy_28 : decode cX5_copy 28 = .ok (.aload_n 0, 1) := by decide +kernel
theorem dX5_copy_29 : decode cX5_copy 29 = .ok (.getfield 50, 3) := by decide +kernel
theorem dX5_copy_32 : decode cX5_copy 32 = .ok (.iload_n 3, 1) := by decide +kernel
theorem dX5_copy_33 : decode cX5_copy 33 = .ok (.aaload, 1) := by decide +kernel
theorem dX5_copy_34 : decode cX5_copy 34 = .ok (.getfield 241, 3) := by decide +kernel
theorem dX5_copy_37 : decode cX5_copy 37 = .ok (.ifCond .ne 6, 3) := by decide +kernel
theorem dX5_copy_40 : decode cX5_copy 40 = .ok (.bipush (-11), 2) := by decide +kernel
theorem dX5_copy_42 : decode cX5_copy 42 = .ok (.ireturn, 1) := by decide +kernel
theorem dX5_copy_43 : decode cX5_copy 43 = .ok (.aload_n 0, 1) := by decide +kernel
theorem dX5_copy_44 : decode cX5_copy 44 = .ok (.getfield 50, 3) := by decide +kernel
theorem dX5_copy_47 : decode cX5_copy 47 = .ok (.iload_n 1, 1) := by decide +kernel
theorem dX5_copy_48 : decode cX5_copy 48 = .ok (.aaload, 1) := by decide +kernel
theorem dX5_copy_49 : decode cX5_copy 49 = .ok (.getfield 245, 3) := by decide +kernel
theorem dX5_copy_52 : decode cX5_copy 52 = .ok (.aload_n 0, 1) := by decide +kernel
theorem dX5_copy_53 : decode cX5_copy 53 = .ok (.getfield 50, 3) := by decide +kernel
theorem dX5_copy_56 : decode cX5_copy 56 = .ok (.iload_n 3, 1) := by decide +kernel
theorem dX5_copy_57 : decode cX5_copy 57 = .ok (.aaload, 1) := by decide +kernel
theorem dX5_copy_58 : decode cX5_copy 58 = .ok (.getfield 245, 3) := by decide +kernel
theorem dX5_copy_61 : decode cX5_copy 61 = .ok (.if_icmp .eq 6, 3) := by decide +kernel
theorem dX5_copy_64 : decode cX5_copy 64 = .ok (.bipush (-12), 2) := by decide +kernel
theorem dX5_copy_66 : decode cX5_copy 66 = .ok (.ireturn, 1) := by decide +kernel
theorem dX5_copy_67 : decode cX5_copy 67 = .ok (.aload_n 0, 1) := by decide +kernel
theorem dX5_copy_68 : decode cX5_copy 68 = .ok (.getfield 50, 3) := by decide +kernel
theorem dX5_copy_71 : decode cX5_copy 71 = .ok (.iload_n 1, 1) := by decide +kernel
theorem dX5_copy_72 : decode cX5_copy 72 = .ok (.aaload, 1) := by decide +kernel
theorem dX5_copy_73 : decode cX5_copy 73 = .ok (.iload_n 2, 1) := by decide +kernel
theorem dX5_copy_74 : decode cX5_copy 74 = .ok (.iload 5, 2) := by decide +kernel
theorem dX5_copy_76 : decode cX5_copy 76 = .ok (.invokevirtual 248, 3) := by decide +kernel
theorem dX5_copy_79 : decode cX5_copy 79 = .ok (.ifCond .eq 19, 3) := by decide +kernel
theorem dX5_copy_82 : decode cX5_copy 82 = .ok (.aload_n 0, 1) := by decide +kernel
theorem dX5_copy_83 : decode cX5_copy 83 = .ok (.getfield 50, 3) := by decide +kernel
theorem dX5_copy_86 : decode cX5_copy 86 = .ok (.iload_n 3, 1) := by decide +kernel
theorem dX5_copy_87 : decode cX5_copy 87 = .ok (.aaload, 1) := by decide +kernel
theorem dX5_copy_88 : decode cX5_copy 88 = .ok (.iload 4, 2) := by decide +kernel
theorem dX5_copy_90 : decode cX5_copy 90 = .ok (.iload 5, 2) := by decide +kernel
theorem dX5_copy_92 : decode cX5_copy 92 = .ok (.invokevirtual 248, 3) := by decide +kernel
theorem dX5_copy_95 : decode cX5_copy 95 = .ok (.ifCond .ne 6, 3) := by decide +kernel
theorem dX5_copy_98 : decode cX5_copy 98 = .ok (.bipush (-13), 2) := by decide +kernel
theorem dX5_copy_100 : decode cX5_copy 100 = .ok (.ireturn, 1) := by decide +kernel
theorem dX5_copy_101 : decode cX5_copy 101 = .ok (.aload_n 0, 1) := by decide +kernel
theorem dX5_copy_102 : decode cX5_copy 102 = .ok (.getfield 50, 3) := by decide +kernel
theorem dX5_copy_105 : decode cX5_copy 105 = .ok (.iload_n 1, 1) := by decide +kernel
theorem dX5_copy_106 : decode cX5_copy 106 = .ok (.aaload, 1) := by decide +kernel
theorem dX5_copy_107 : decode cX5_copy 107 = .ok (.getfield 251, 3) := by decide +kernel
theorem dX5_copy_110 : decode cX5_copy 110 = .ok (.iload_n 2, 1) := by decide +kernel
theorem dX5_copy_111 : decode cX5_copy 111 = .ok (.aload_n 0, 1) := by decide +kernel
theorem dX5_copy_112 : decode cX5_copy 112 = .ok (.getfield 50, 3) := by decide +kernel
theorem dX5_copy_115 : decode cX5_copy 115 = .ok (.iload_n 3, 1) := by decide +kernel
theorem dX5_copy_116 : decode cX5_copy 116 = .ok (.aaload, 1) := by decide +kernel
theorem dX5_copy_117 : decode cX5_copy 117 = .ok (.getfield 251, 3) := by decide +kernel
theorem dX5_copy_120 : decode cX5_copy 120 = .ok (.iload 4, 2) := by decide +kernel
theorem dX5_copy_122 : decode cX5_copy 122 = .ok (.iload 5, 2) := by decide +kernel
theorem dX5_copy_124 : decode cX5_copy 124 = .ok (.invokestatic 255, 3) := by decide +kernel
theorem dX5_copy_127 : decode cX5_copy 127 = .ok (.iload 5, 2) := by decide +kernel
theorem dX5_copy_129 : decode cX5_copy 129 = .ok (.ireturn, 1) := by decide +kernel
theorem dX5_within_0 : decode cX5_within 0 = .ok (.iload_n 0, 1) := by decide +kernel
theorem dX5_within_1 : decode cX5_within 1 = .ok (.iload_n 1, 1) := by decide +kernel
theorem dX5_within_2 : decode cX5_within 2 = .ok (.if_icmp .lt 12, 3) := by decide +kernel
theorem dX5_within_5 : decode cX5_within 5 = .ok (.iload_n 0, 1) := by decide +kernel
theorem dX5_within_6 : decode cX5_within 6 = .ok (.iload_n 2, 1) := by decide +kernel
theorem dX5_within_7 : decode cX5_within 7 = .ok (.if_icmp .gt 7, 3) := by decide +kernel
theorem dX5_within_10 : decode cX5_within 10 = .ok (.iconst 1, 1) := by decide +kernel
theorem dX5_within_11 : decode cX5_within 11 = .ok (.goto 4, 3) := by decide +kernel
theorem dX5_within_14 : decode cX5_within 14 = .ok (.iconst 0, 1) := by decide +kernel
theorem dX5_within_15 : decode cX5_within 15 = .ok (.ireturn, 1) := by decide +kernel
set_option maxRecDepth 20000 in
theorem ggX5_isMood_X5_within : GoodIn wsX5_isMood wsX5_within := goodIn_r _ [4] (by decide +kernel) (by decide +kernel)
set_option maxRecDepth 20000 in
theorem gX5_isMood_X5_within : GoodIn wsX5_isMood (va_wsS RX5 55 yX5_within wsX5_within) := goodIn_app (goodIn_of _ (by decide +kernel)) ggX5_isMood_X5_within
theorem dX5_isMood_0 : decode cX5_isMood 0 = .ok (.iload_n 0, 1) := by decide +kernel
theorem dX5_isMood_1 : decode cX5_isMood 1 = .ok (.bipush (-9), 2) := by decide +kernel
theorem dX5_isMood_3 : decode cX5_isMood 3 = .ok (.bipush 9, 2) := by decide +kernel
theorem dX5_isMood_5 : decode cX5_isMood 5 = .ok (.invokestatic 55, 3) := by decide +kernel
theorem dX5_isMood_8 : decode cX5_isMood 8 = .ok (.ireturn, 1) := by decide +kernel
theorem dX5_isPails_0 : decode cX5_isPails 0 = .ok (.lload_n 0, 1) := by decide +kernel
theorem dX5_isPails_1 : decode cX5_isPails 1 = .ok (.lconst 0, 1) := by decide +kernel
theorem dX5_isPails_2 : decode cX5_isPails 2 = .ok (.lcmp, 1) := by decide +kernel
theorem dX5_isPails_3 : decode cX5_isPails 3 = .ok (.ifCond .lt 15, 3) := by decide +kernel
theorem dX5_isPails_6 : decode cX5_isPails 6 = .ok (.lload_n 0, 1) := by decide +kernel
theorem dX5_isPails_7 : decode cX5_isPails 7 = .ok (.ldc2_w 261, 3) := by decide +kernel
theorem dX5_isPails_10 : decode cX5_isPails 10 = .ok (.lcmp, 1) := by decide +kernel
theorem dX5_isPails_11 : decode cX5_isPails 11 = .ok (.ifCond .gt 7, 3) := by decide +kernel
theorem dX5_isPails_14 : decode cX5_isPails 14 = .ok (.iconst 1, 1) := by decide +kernel
theorem dX5_isPails_15 : decode cX5_isPails 15 = .ok (.goto 4, 3) := by decide +kernel
theorem dX5_isPails_18 : decode cX5_isPails 18 = .ok (.iconst 0, 1) := by decide +kernel
theorem dX5_isPails_19 : decode cX5_isPails 19 = .ok (.ireturn, 1) := by decide +kernel
set_option maxRecDepth 20000 in
theorem ggX5_isSheet_X5_within : GoodIn wsX5_isSheet wsX5_within := goodIn_r _ [4] (by decide +kernel) (by decide +kernel)
set_option maxRecDepth 20000 in
theorem gX5_isSheet_X5_within : GoodIn wsX5_isSheet (va_wsS RX5 55 yX5_within wsX5_within) := goodIn_app (goodIn_of _ (by decide +kernel)) ggX5_isSheet_X5_within
theorem dX5_isSheet_0 : decode cX5_isSheet 0 = .ok (.iload_n 0, 1) := by decide +kernel
theorem dX5_isSheet_1 : decode cX5_isSheet 1 = .ok (.iconst 0, 1) := by decide +kernel
theorem dX5_isSheet_2 : decode cX5_isSheet 2 = .ok (.iconst 3, 1) := by decide +kernel
theorem dX5_isSheet_3 : decode cX5_isSheet 3 = .ok (.invokestatic 55, 3) := by decide +kernel
theorem dX5_isSheet_6 : decode cX5_isSheet 6 = .ok (.ireturn, 1) := by decide +kernel
set_option maxRecDepth 20000 in
theorem ggX5_isLane_X5_within : GoodIn wsX5_isLane wsX5_within := goodIn_r _ [4] (by decide +kernel) (by decide +kernel)
set_option maxRecDepth 20000 in
theorem gX5_isLane_X5_within : GoodIn wsX5_isLane (va_wsS RX5 55 yX5_within wsX5_within) := goodIn_app (goodIn_of _ (by decide +kernel)) ggX5_isLane_X5_within
theorem dX5_isLane_0 : decode cX5_isLane 0 = .ok (.iload_n 0, 1) := by decide +kernel
theorem dX5_isLane_1 : decode cX5_isLane 1 = .ok (.iconst 0, 1) := by decide +kernel
theorem dX5_isLane_2 : decode cX5_isLane 2 = .ok (.iconst 2, 1) := by decide +kernel
theorem dX5_isLane_3 : decode cX5_isLane 3 = .ok (.invokestatic 55, 3) := by decide +kernel
theorem dX5_isLane_6 : decode cX5_isLane 6 = .ok (.ireturn, 1) := by decide +kernel
theorem dX5_asMood_0 : decode cX5_asMood 0 = .ok (.bipush (-9), 2) := by decide +kernel
theorem dX5_asMood_2 : decode cX5_asMood 2 = .ok (.bipush 9, 2) := by decide +kernel
theorem dX5_asMood_4 : decode cX5_asMood 4 = .ok (.iload_n 0, 1) := by decide +kernel
theorem dX5_asMood_5 : decode cX5_asMood 5 = .ok (.invokestatic 263, 3) := by decide +kernel
theorem dX5_asMood_8 : decode cX5_asMood 8 = .ok (.invokestatic 268, 3) := by decide +kernel
theorem dX5_asMood_11 : decode cX5_asMood 11 = .ok (.ireturn, 1) := by decide +kernel
set_option maxRecDepth 20000 in
theorem ggX5_waned_J6_compare_7cf53 : GoodIn wsX5_waned wsJ6_compare_7cf53 := goodIn_r _ [4] (by decide +kernel) (by decide +kernel)
set_option maxRecDepth 20000 in
theorem gX5_waned_J6_compare_7cf53 : GoodIn wsX5_waned (va_wsS RX5 271 yJ6_compare_7cf53 wsJ6_compare_7cf53) := goodIn_app (goodIn_of _ (by decide +kernel)) ggX5_waned_J6_compare_7cf53
theorem dX5_waned_0 : decode cX5_waned 0 = .ok (.iload_n 0, 1) := by decide +kernel
theorem dX5_waned_1 : decode cX5_waned 1 = .ok (.iload_n 0, 1) := by decide +kernel
theorem dX5_waned_2 : decode cX5_waned 2 = .ok (.iconst 0, 1) := by decide +kernel
theorem dX5_waned_3 : decode cX5_waned 3 = .ok (.invokestatic 271, 3) := by decide +kernel
theorem dX5_waned_6 : decode cX5_waned 6 = .ok (.isub, 1) := by decide +kernel
theorem dX5_waned_7 : decode cX5_waned 7 = .ok (.ireturn, 1) := by decide +kernel
theorem dX5_rained_0 : decode cX5_rained 0 = .ok (.sipush 999, 3) := by decide +kernel
theorem dX5_rained_3 : decode cX5_rained 3 = .ok (.iload_n 0, 1) := by decide +kernel
theorem dX5_rained_4 : decode cX5_rained 4 = .ok (.iload_n 1, 1) := by decide +kernel
theorem dX5_rained_5 : decode cX5_rained 5 = .ok (.iadd, 1) := by decide +kernel
theorem dX5_rained_6 : decode cX5_rained 6 = .ok (.invokestatic 263, 3) := by decide +kernel
theorem dX5_rained_9 : decode cX5_rained 9 = .ok (.ireturn, 1) := by decide +kernel
theorem dX5_byteOf_0 : decode cX5_byteOf 0 = .ok (.lload_n 0, 1) := by decide +kernel
theorem dX5_byteOf_1 : decode cX5_byteOf 1 = .ok (.bipush 8, 2) := by decide +kernel
theorem dX5_byteOf_3 : decode cX5_byteOf 3 = .ok (.iload_n 2, 1) := by decide +kernel
theorem dX5_byteOf_4 : decode cX5_byteOf 4 = .ok (.imul, 1) := by decide +kernel
theorem dX5_byteOf_5 : decode cX5_byteOf 5 = .ok (.lshr, 1) := by decide +kernel
theorem dX5_byteOf_6 : decode cX5_byteOf 6 = .ok (.l2i, 1) := by decide +kernel
theorem dX5_byteOf_7 : decode cX5_byteOf 7 = .ok (.sipush 255, 3) := by decide +kernel
theorem dX5_byteOf_10 : decode cX5_byteOf 10 = .ok (.iand, 1) := by decide +kernel
theorem dX5_byteOf_11 : decode cX5_byteOf 11 = .ok (.ireturn, 1) := by decide +kernel
set_option maxRecDepth 20000 in
theorem ggX5_areSigns_X5_byteOf : GoodIn wsX5_areSigns wsX5_byteOf := goodIn_r _ [4] (by decide +kernel) (by decide +kernel)
set_option maxRecDepth 20000 in
theorem gX5_areSigns_X5_byteOf : GoodIn wsX5_areSigns (va_wsS RX5 132 yX5_byteOf wsX5_byteOf) := goodIn_app (goodIn_of _ (by decide +kernel)) ggX5_areSigns_X5_byteOf
set_option maxRecDepth 20000 in
theorem ggX5_areSigns_X5_within : GoodIn wsX5_areSigns wsX5_within := goodIn_r _ [7] (by decide +kernel) (by decide +kernel)
set_option maxRecDepth 20000 in
theorem gX5_areSigns_X5_within : GoodIn wsX5_areSigns (va_wsS RX5 55 yX5_within wsX5_within) := goodIn_app (goodIn_of _ (by decide +kernel)) ggX5_areSigns_X5_within
theorem dX5_areSigns_0 : decode cX5_areSigns 0 = .ok (.iconst 0, 1) := by decide +kernel
theorem dX5_areSigns_1 : decode cX5_areSigns 1 = .ok (.istore_n 3, 1) := by decide +kernel
theorem dX5_areSigns_2 : decode cX5_areSigns 2 = .ok (.iload_n 3, 1) := by decide +kernel
theorem dX5_areSigns_3 : decode cX5_areSigns 3 = .ok (.iload_n 2, 1) := by decide +kernel
theorem dX5_areSigns_4 : decode cX5_areSigns 4 = .ok (.if_icmp .ge 26, 3) := by decide +kernel
theorem dX5_areSigns_7 : decode cX5_areSigns 7 = .ok (.lload_n 0, 1) := by decide +kernel
theorem dX5_areSigns_8 : decode cX5_areSigns 8 = .ok (.iload_n 3, 1) := by decide +kernel
theorem dX5_areSigns_9 : decode cX5_areSigns 9 = .ok (.invokestatic 132, 3) := by decide +kernel
theorem dX5_areSigns_12 : decode cX5_areSigns 12 = .ok (.bipush 32, 2) := by decide +kernel
theorem dX5_areSigns_14 : decode cX5_areSigns 14 = .ok (.bipush 126, 2) := by decide +kernel
theorem dX5_areSigns_16 : decode cX5_areSigns 16 = .ok (.invokestatic 55, 3) := by decide +kernel
theorem dX5_areSigns_19 : decode cX5_areSigns 19 = .ok (.ifCond .ne 5, 3) := by decide +kernel
theorem dX5_areSigns_22 : decode cX5_areSigns 22 = .ok (.iconst 0, 1) := by decide +kernel
theorem dX5_areSigns_23 : decode cX5_areSigns 23 = .ok (.ireturn, 1) := by decide +kernel
theorem dX5_areSigns_24 : decode cX5_areSigns 24 = .ok (.iinc 3 1, 3) := by decide +kernel
theorem dX5_areSigns_27 : decode cX5_areSigns 27 = .ok (.goto (-25), 3) := by decide +kernel
theorem dX5_areSigns_30 : decode cX5_areSigns 30 = .ok (.iconst 1, 1) := by decide +kernel
theorem dX5_areSigns_31 : decode cX5_areSigns 31 = .ok (.ireturn, 1) := by decide +kernel
set_option maxRecDepth 20000 in
theorem ggX5_isTale_X0_has : GoodIn wsX5_isTale wsX0_has := goodIn_r _ [5, 6, 38, 39, 40, 41, 42] (by decide +kernel) (by decide +kernel)
set_option maxRecDepth 20000 in
theorem gX5_isTale_X0_has_n70 : GoodIn wsX5_isTale (wsX0_has) := ggX5_isTale_X0_has
set_option maxRecDepth 20000 in
theorem ggX5_isTale_X5_isMood : GoodIn wsX5_isTale wsX5_isMood := goodIn_r _ [10, 11, 12, 9, 13] (by decide +kernel) (by decide +kernel)
set_option maxRecDepth 20000 in
theorem gX5_isTale_X5_isMood : GoodIn wsX5_isTale (va_wsS RX5 98 yX5_isMood wsX5_isMood) := goodIn_app (goodIn_of _ (by decide +kernel)) ggX5_isTale_X5_isMood
set_option maxRecDepth 20000 in
theorem ggX5_isTale_X5_isPails : GoodIn wsX5_isTale wsX5_isPails := goodIn_r _ [16, 17] (by decide +kernel) (by decide +kernel)
set_option maxRecDepth 20000 in
theorem gX5_isTale_X5_isPails : GoodIn wsX5_isTale (va_wsS RX5 190 yX5_isPails wsX5_isPails) := goodIn_app (goodIn_of _ (by decide +kernel)) ggX5_isTale_X5_isPails
theorem dX5_isTale_0 : decode cX5_isTale 0 = .ok (.aload_n 0, 1) := by decide +kernel
theorem dX5_isTale_1 : decode cX5_isTale 1 = .ok (.getfield 12, 3) := by decide +kernel
theorem dX5_isTale_4 : decode cX5_isTale 4 = .ok (.getfield 59, 3) := by decide +kernel
theorem dX5_isTale_7 : decode cX5_isTale 7 = .ok (.iload_n 1, 1) := by decide +kernel
theorem dX5_isTale_8 : decode cX5_isTale 8 = .ok (.invokevirtual 70, 3) := by decide +kernel
theorem dX5_isTale_11 : decode cX5_isTale 11 = .ok (.ifCond .eq 22, 3) := by decide +kernel
theorem dX5_isTale_14 : decode cX5_isTale 14 = .ok (.iload_n 2, 1) := by decide +kernel
theorem dX5_isTale_15 : decode cX5_isTale 15 = .ok (.invokestatic 98, 3) := by decide +kernel
theorem dX5_isTale_18 : decode cX5_isTale 18 = .ok (.ifCond .eq 15, 3) := by decide +kernel
theorem dX5_isTale_21 : decode cX5_isTale 21 = .ok (.iload_n 3, 1) := by decide +kernel
theorem dX5_isTale_22 : decode cX5_isTale 22 = .ok (.i2l, 1) := by decide +kernel
theorem dX5_isTale_23 : decode cX5_isTale 23 = .ok (.invokestatic 190, 3) := by decide +kernel
theorem dX5_isTale_26 : decode cX5_isTale 26 = .ok (.ifCond .eq 7, 3) := by decide +kernel
theorem dX5_isTale_29 : decode cX5_isTale 29 = .ok (.iconst 1, 1) := by decide +kernel
theorem dX5_isTale_30 : decode cX5_isTale 30 = .ok (.goto 4, 3) := by decide +kernel
theorem dX5_isTale_33 : decode cX5_isTale 33 = .ok (.iconst 0, 1) := by decide +kernel
theorem dX5_isTale_34 : decode cX5_isTale 34 = .ok (.ireturn, 1) := by decide +kernel
set_option maxRecDepth 20000 in
theorem ggX5_mostFrom_X1_observe : GoodIn wsX5_mostFrom wsX1_observe := goodIn_r _ [6, 7, 8, 9, 10, 11, 12, 13, 14, 15, 16, 17, 18, 19, 20, 21, 22, 23, 24, 94, 95, 96, 97, 98, 99, 100, 101, 102, 103, 104, 105, 106, 107, 108, 109, 110, 111, 112, 113, 114, 115, 116, 117, 118, 119] (by decide +kernel) (by decide +kernel)
set_option maxRecDepth 20000 in
theorem gX5_mostFrom_X1_observe_n177 : GoodIn wsX5_mostFrom (wsX1_observe) := ggX5_mostFrom_X1_observe
set_option maxRecDepth 20000 in
theorem ggX5_mostFrom_X1_mostIn : GoodIn wsX5_mostFrom wsX1_mostIn := goodIn_r _ [27, 28, 29, 30, 31, 32, 33, 13, 15, 34, 35, 36, 4, 37, 7, 8, 38, 14, 39, 40, 41, 42, 43, 9, 10, 11, 12, 44, 45, 46, 47, 48, 49, 50, 51, 52, 53, 54, 55, 56, 57, 58, 17, 59, 60, 61, 62, 63, 64, 65, 23, 66, 67, 68, 69, 24, 70, 71, 72, 73, 20, 74, 75, 76, 77, 78, 79, 80, 81, 82, 21, 83, 84, 85, 94, 95, 96, 97, 98, 99, 100, 101, 102, 115, 116, 117, 118, 119] (by decide +kernel) (by decide +kernel)
set_option maxRecDepth 20000 in
theorem gX5_mostFrom_X1_mostIn_n181 : GoodIn wsX5_mostFrom (wsX1_mostIn) := ggX5_mostFrom_X1_mostIn
theorem dX5_mostFrom_0 : decode cX5_mostFrom 0 = .ok (.aload_n 0, 1) := by decide +kernel
theorem dX5_mostFrom_1 : decode cX5_mostFrom 1 = .ok (.getfield 44, 3) := by decide +kernel
theorem dX5_mostFrom_4 : decode cX5_mostFrom 4 = .ok (.aload_n 0, 1) := by decide +kernel
theorem dX5_mostFrom_5 : decode cX5_mostFrom 5 = .ok (.getfield 12, 3) := by decide +kernel
theorem dX5_mostFrom_8 : decode cX5_mostFrom 8 = .ok (.invokevirtual 177, 3) := by decide +kernel
theorem dX5_mostFrom_11 : decode cX5_mostFrom 11 = .ok (.aload_n 0, 1) := by decide +kernel
theorem dX5_mostFrom_12 : decode cX5_mostFrom 12 = .ok (.getfield 44, 3) := by decide +kernel
theorem dX5_mostFrom_15 : decode cX5_mostFrom 15 = .ok (.iload_n 2, 1) := by decide +kernel
theorem dX5_mostFrom_16 : decode cX5_mostFrom 16 = .ok (.iload_n 1, 1) := by decide +kernel
theorem dX5_mostFrom_17 : decode cX5_mostFrom 17 = .ok (.invokevirtual 181, 3) := by decide +kernel
theorem dX5_mostFrom_20 : decode cX5_mostFrom 20 = .ok (.ireturn, 1) := by decide +kernel
set_option maxRecDepth 20000 in
theorem ggX5_mostInPeace_X0_makeFoes : GoodIn wsX5_mostInPeace wsX0_makeFoes := goodIn_r _ [6, 7, 8, 9, 10, 4, 11, 12, 111, 112, 113, 114, 115] (by decide +kernel) (by decide +kernel)
set_option maxRecDepth 20000 in
theorem gX5_mostInPeace_X0_makeFoes_n94 : GoodIn wsX5_mostInPeace (wsX0_makeFoes) := ggX5_mostInPeace_X0_makeFoes
set_option maxRecDepth 20000 in
theorem ggX5_mostInPeace_X1_mostIn : GoodIn wsX5_mostInPeace wsX1_mostIn := goodIn_r _ [16, 17, 18, 19, 20, 21, 22, 23, 24, 25, 26, 27, 14, 28, 29, 30, 31, 32, 33, 34, 35, 36, 37, 38, 39, 40, 41, 42, 43, 44, 45, 46, 47, 48, 49, 50, 51, 52, 53, 54, 55, 56, 4, 57, 58, 59, 60, 61, 62, 63, 7, 8, 9, 10, 11, 12, 64, 65, 66, 67, 68, 69, 70, 71, 72, 73, 74, 75, 76, 77, 78, 79, 80, 81, 90, 91, 92, 93, 94, 95, 96, 97, 98, 111, 112, 113, 114, 115] (by decide +kernel) (by decide +kernel)
set_option maxRecDepth 20000 in
theorem gX5_mostInPeace_X1_mostIn_n181 : GoodIn wsX5_mostInPeace (wsX1_mostIn) := ggX5_mostInPeace_X1_mostIn
theorem dX5_mostInPeace_0 : decode cX5_mostInPeace 0 = .ok (.aload_n 0, 1) := by decide +kernel
theorem dX5_mostInPeace_1 : decode cX5_mostInPeace 1 = .ok (.getfield 44, 3) := by decide +kernel
theorem dX5_mostInPeace_4 : decode cX5_mostInPeace 4 = .ok (.getfield 276, 3) := by decide +kernel
theorem dX5_mostInPeace_7 : decode cX5_mostInPeace 7 = .ok (.iload_n 1, 1) := by decide +kernel
theorem dX5_mostInPeace_8 : decode cX5_mostInPeace 8 = .ok (.iload_n 2, 1) := by decide +kernel
theorem dX5_mostInPeace_9 : decode cX5_mostInPeace 9 = .ok (.iconst 0, 1) := by decide +kernel
theorem dX5_mostInPeace_10 : decode cX5_mostInPeace 10 = .ok (.invokevirtual 94, 3) := by decide +kernel
theorem dX5_mostInPeace_13 : decode cX5_mostInPeace 13 = .ok (.aload_n 0, 1) := by decide +kernel
theorem dX5_mostInPeace_14 : decode cX5_mostInPeace 14 = .ok (.getfield 44, 3) := by decide +kernel
theorem dX5_mostInPeace_17 : decode cX5_mostInPeace 17 = .ok (.iconst 4, 1) := by decide +kernel
theorem dX5_mostInPeace_18 : decode cX5_mostInPeace 18 = .ok (.aload_n 0, 1) := by decide +kernel
theorem dX5_mostInPeace_19 : decode cX5_mostInPeace 19 = .ok (.getfield 12, 3) := by decide +kernel
theorem dX5_mostInPeace_22 : decode cX5_mostInPeace 22 = .ok (.getfield 101, 3) := by decide +kernel
theorem dX5_mostInPeace_25 : decode cX5_mostInPeace 25 = .ok (.invokevirtual 181, 3) := by decide +kernel
theorem dX5_mostInPeace_28 : decode cX5_mostInPeace 28 = .ok (.istore_n 3, 1) := by decide +kernel
theorem dX5_mostInPeace_29 : decode cX5_mostInPeace 29 = .ok (.aload_n 0, 1) := by decide +kernel
theorem dX5_mostInPeace_30 : decode cX5_mostInPeace 30 = .ok (.getfield 44, 3) := by decide +kernel
theorem dX5_mostInPeace_33 : decode cX5_mostInPeace 33 = .ok (.getfield 276, 3) := by decide +kernel
theorem dX5_mostInPeace_36 : decode cX5_mostInPeace 36 = .ok (.iload_n 1, 1) := by decide +kernel
theorem dX5_mostInPeace_37 : decode cX5_mostInPeace 37 = .ok (.iload_n 2, 1) := by decide +kernel
theorem dX5_mostInPeace_38 : decode cX5_mostInPeace 38 = .ok (.iconst 1, 1) := by decide +kernel
theorem dX5_mostInPeace_39 : decode cX5_mostInPeace 39 = .ok (.invokevirtual 94, 3) := by decide +kernel
theorem dX5_mostInPeace_42 : decode cX5_mostInPeace 42 = .ok (.iload_n 3, 1) := by decide +kernel
theorem dX5_mostInPeace_43 : decode cX5_mostInPeace 43 = .ok (.ireturn, 1) := by decide +kernel
set_option maxRecDepth 20000 in
theorem ggX5_refusal_X5_isSheet : GoodIn wsX5_refusal wsX5_isSheet := goodIn_r _ [5, 6, 7, 4, 8] (by decide +kernel) (by decide +kernel)
set_option maxRecDepth 20000 in
theorem gX5_refusal_X5_isSheet : GoodIn wsX5_refusal (va_wsS RX5 231 yX5_isSheet wsX5_isSheet) := goodIn_app (goodIn_of _ (by decide +kernel)) ggX5_refusal_X5_isSheet
set_option maxRecDepth 20000 in
theorem ggX5_refusal_X5_isLane : GoodIn wsX5_refusal wsX5_isLane := goodIn_r _ [11, 6, 7, 4, 8] (by decide +kernel) (by decide +kernel)
set_option maxRecDepth 20000 in
theorem gX5_refusal_X5_isLane : GoodIn wsX5_refusal (va_wsS RX5 234 yX5_isLane wsX5_isLane) := goodIn_app (goodIn_of _ (by decide +kernel)) ggX5_refusal_X5_isLane
set_option maxRecDepth 20000 in
theorem ggX5_refusal_X2_hasSpan : GoodIn wsX5_refusal wsX2_hasSpan := goodIn_r _ [15, 16, 25, 26, 27, 28] (by decide +kernel) (by decide +kernel)
set_option maxRecDepth 20000 in
theorem gX5_refusal_X2_hasSpan_n248 : GoodIn wsX5_refusal (wsX2_hasSpan) := ggX5_refusal_X2_hasSpan
theorem dX5_refusal_0 : decode cX5_refusal 0 = .ok (.iload_n 1, 1) := by decide +kernel
theorem dX5_refusal_1 : decode cX5_refusal 1 = .ok (.invokestatic 231, 3) := by decide +kernel
theorem dX5_refusal_4 : decode cX5_refusal 4 = .ok (.ifCond .eq 10, 3) := by decide +kernel
theorem dX5_refusal_7 : decode cX5_refusal 7 = .ok (.iload_n 2, 1) := by decide +kernel
theorem dX5_refusal_8 : decode cX5_refusal 8 = .ok (.invokestatic 234, 3) := by decide +kernel
theorem dX5_refusal_11 : decode cX5_refusal 11 = .ok (.ifCond .ne 5, 3) := by decide +kernel
theorem dX5_refusal_14 : decode cX5_refusal 14 = .ok (.iconst (-1), 1) := by decide +kernel
theorem dX5_refusal_15 : decode cX5_refusal 15 = .ok (.ireturn, 1) := by decide +kernel
theorem dX5_refusal_16 : decode cX5_refusal 16 = .ok (.aload_n 0, 1) := by decide +kernel
theorem dX5_refusal_17 : decode cX5_refusal 17 = .ok (.getfield 50, 3) := by decide +kernel
theorem dX5_refusal_20 : decode cX5_refusal 20 = .ok (.iload_n 1, 1) := by decide +kernel
theorem dX5_refusal_21 : decode cX5_refusal 21 = .ok (.aaload, 1) := by decide +kernel
theorem dX5_refusal_22 : decode cX5_refusal 22 = .ok (.getfield 241, 3) := by decide +kernel
theorem dX5_refusal_25 : decode cX5_refusal 25 = .ok (.ifCond .ne 6, 3) := by decide +kernel
theorem dX5_refusal_28 : decode cX5_refusal 28 = .ok (.bipush (-11), 2) := by decide +kernel
theorem dX5_refusal_30 : decode cX5_refusal 30 = .ok (.ireturn, 1) := by decide +kernel
theorem dX5_refusal_31 : decode cX5_refusal 31 = .ok (.aload_n 0, 1) := by decide +kernel
theorem dX5_refusal_32 : decode cX5_refusal 32 = .ok (.getfield 50, 3) := by decide +kernel
theorem dX5_refusal_35 : decode cX5_refusal 35 = .ok (.iload_n 1, 1) := by decide +kernel
theorem dX5_refusal_36 : decode cX5_refusal 36 = .ok (.aaload, 1) := by decide +kernel
theorem dX5_refusal_37 : decode cX5_refusal 37 = .ok (.getfield 245, 3) := by decide +kernel
theorem dX5_refusal_40 : decode cX5_refusal 40 = .ok (.iload_n 2, 1) := by decide +kernel
theorem dX5_refusal_41 : decode cX5_refusal 41 = .ok (.if_icmp .eq 6, 3) := by decide +kernel
theorem dX5_refusal_44 : decode cX5_refusal 44 = .ok (.bipush (-12), 2) := by decide +kernel
theorem dX5_refusal_46 : decode cX5_refusal 46 = .ok (.ireturn, 1) := by decide +kernel
theorem dX5_refusal_47 : decode cX5_refusal 47 = .ok (.aload_n 0, 1) := by decide +kernel
theorem dX5_refusal_48 : decode cX5_refusal 48 = .ok (.getfield 50, 3) := by decide +kernel
theorem dX5_refusal_51 : decode cX5_refusal 51 = .ok (.iload_n 1, 1) := by decide +kernel
theorem dX5_refusal_52 : decode cX5_refusal 52 = .ok (.aaload, 1) := by decide +kernel
theorem dX5_refusal_53 : decode cX5_refusal 53 = .ok (.iload_n 3, 1) := by decide +kernel
theorem dX5_refusal_54 : decode cX5_refusal 54 = .ok (.iload 4, 2) := by decide +kernel
theorem dX5_refusal_56 : decode cX5_refusal 56 = .ok (.invokevirtual 248, 3) := by decide +kernel
theorem dX5_refusal_59 : decode cX5_refusal 59 = .ok (.ifCond .eq 7, 3) := by decide +kernel
theorem dX5_refusal_62 : decode cX5_refusal 62 = .ok (.iconst 0, 1) := by decide +kernel
theorem dX5_refusal_63 : decode cX5_refusal 63 = .ok (.goto 5, 3) := by decide +kernel
theorem dX5_refusal_66 : decode cX5_refusal 66 = .ok (.bipush (-13), 2) := by decide +kernel
theorem dX5_refusal_68 : decode cX5_refusal 68 = .ok (.ireturn, 1) := by decide +kernel
set_option maxRecDepth 20000 in
theorem ggX5_areDrawings_X5_isPails : GoodIn wsX5_areDrawings wsX5_isPails := goodIn_r _ [5, 6] (by decide +kernel) (by decide +kernel)
set_option maxRecDepth 20000 in
theorem gX5_areDrawings_X5_isPails : GoodIn wsX5_areDrawings (va_wsS RX5 190 yX5_isPails wsX5_isPails) := goodIn_app (goodIn_of _ (by decide +kernel)) ggX5_areDrawings_X5_isPails
theorem dX5_areDrawings_0 : decode cX5_areDrawings 0 = .ok (.iconst 0, 1) := by decide +kernel
theorem dX5_areDrawings_1 : decode cX5_areDrawings 1 = .ok (.istore 4, 2) := by decide +kernel
theorem dX5_areDrawings_3 : decode cX5_areDrawings 3 = .ok (.iload 4, 2) := by decide +kernel
theorem dX5_areDrawings_5 : decode cX5_areDrawings 5 = .ok (.iload_n 3, 1) := by decide +kernel
theorem dX5_areDrawings_6 : decode cX5_areDrawings 6 = .ok (.if_icmp .ge 67, 3) := by decide +kernel
theorem dX5_areDrawings_9 : decode cX5_areDrawings 9 = .ok (.aload_n 1, 1) := by decide +kernel
theorem dX5_areDrawings_10 : decode cX5_areDrawings 10 = .ok (.getfield 251, 3) := by decide +kernel
theorem dX5_areDrawings_13 : decode cX5_areDrawings 13 = .ok (.iload_n 2, 1) := by decide +kernel
theorem dX5_areDrawings_14 : decode cX5_areDrawings 14 = .ok (.iconst 2, 1) := by decide +kernel
theorem dX5_areDrawings_15 : decode cX5_areDrawings 15 = .ok (.iload 4, 2) := by decide +kernel
theorem dX5_areDrawings_17 : decode cX5_areDrawings 17 = .ok (.imul, 1) := by decide +kernel
theorem dX5_areDrawings_18 : decode cX5_areDrawings 18 = .ok (.iadd, 1) := by decide +kernel
theorem dX5_areDrawings_19 : decode cX5_areDrawings 19 = .ok (.laload, 1) := by decide +kernel
theorem dX5_areDrawings_20 : decode cX5_areDrawings 20 = .ok (.lstore 5, 2) := by decide +kernel
theorem dX5_areDrawings_22 : decode cX5_areDrawings 22 = .ok (.lload 5, 2) := by decide +kernel
theorem dX5_areDrawings_24 : decode cX5_areDrawings 24 = .ok (.lconst 0, 1) := by decide +kernel
theorem dX5_areDrawings_25 : decode cX5_areDrawings 25 = .ok (.lcmp, 1) := by decide +kernel
theorem dX5_areDrawings_26 : decode cX5_areDrawings 26 = .ok (.ifCond .lt 39, 3) := by decide +kernel
theorem dX5_areDrawings_29 : decode cX5_areDrawings 29 = .ok (.lload 5, 2) := by decide +kernel
theorem dX5_areDrawings_31 : decode cX5_areDrawings 31 = .ok (.aload_n 0, 1) := by decide +kernel
theorem dX5_areDrawings_32 : decode cX5_areDrawings 32 = .ok (.getfield 12, 3) := by decide +kernel
theorem dX5_areDrawings_35 : decode cX5_areDrawings 35 = .ok (.getfield 59, 3) := by decide +kernel
theorem dX5_areDrawings_38 : decode cX5_areDrawings 38 = .ok (.getfield 62, 3) := by decide +kernel
theorem dX5_areDrawings_41 : decode cX5_areDrawings 41 = .ok (.i2l, 1) := by decide +kernel
theorem dX5_areDrawings_42 : decode cX5_areDrawings 42 = .ok (.lcmp, 1) := by decide +kernel
theorem dX5_areDrawings_43 : decode cX5_areDrawings 43 = .ok (.ifCond .ge 22, 3) := by decide +kernel
theorem dX5_areDrawings_46 : decode cX5_areDrawings 46 = .ok (.aload_n 1, 1) := by decide +kernel
theorem dX5_areDrawings_47 : decode cX5_areDrawings 47 = .ok (.getfield 251, 3) := by decide +kernel
theorem dX5_areDrawings_50 : decode cX5_areDrawings 50 = .ok (.iload_n 2, 1) := by decide +kernel
theorem dX5_areDrawings_51 : decode cX5_areDrawings 51 = .ok (.iconst 2, 1) := by decide +kernel
theorem dX5_areDrawings_52 : decode cX5_areDrawings 52 = .ok (.iload 4, 2) := by decide +kernel
theorem dX5_areDrawings_54 : decode cX5_areDrawings 54 = .ok (.imul, 1) := by decide +kernel
theorem dX5_areDrawings_55 : decode cX5_areDrawings 55 = .ok (.iadd, 1) := by decide +kernel
theorem dX5_areDrawings_56 : decode cX5_areDrawings 56 = .ok (.iconst 1, 1) := by decide +kernel
theorem dX5_areDrawings_57 : decode cX5_areDrawings 57 = .ok (.iadd, 1) := by decide +kernel
theorem dX5_areDrawings_58 : decode cX5_areDrawings 58 = .ok (.laload, 1) := by decide +kernel
theorem dX5_areDrawings_59 : decode cX5_areDrawings 59 = .ok (.invokestatic 190, 3) := by decide +kernel
theorem dX5_areDrawings_62 : decode cX5_areDrawings 62 = .ok (.ifCond .ne 5, 3) := by decide +kernel
theorem dX5_areDrawings_65 : decode cX5_areDrawings 65 = .ok (.iconst 0, 1) := by decide +kernel
theorem dX5_areDrawings_66 : decode cX5_areDrawings 66 = .ok (.ireturn, 1) := by decide +kernel
theorem dX5_areDrawings_67 : decode cX5_areDrawings 67 = .ok (.iinc 4 1, 3) := by decide +kernel
theorem dX5_areDrawings_70 : decode cX5_areDrawings 70 = .ok (.goto (-67), 3) := by decide +kernel
theorem dX5_areDrawings_73 : decode cX5_areDrawings 73 = .ok (.iconst 1, 1) := by decide +kernel
theorem dX5_areDrawings_74 : decode cX5_areDrawings 74 = .ok (.ireturn, 1) := by decide +kernel
set_option maxRecDepth 20000 in
theorem ggX5_fitsFrom_X0_pailsAt : GoodIn wsX5_fitsFrom wsX0_pailsAt := goodIn_r _ [5, 6, 7, 8, 9, 10, 11, 12, 13, 54, 55, 56, 57, 58] (by decide +kernel) (by decide +kernel)
set_option maxRecDepth 20000 in
theorem gX5_fitsFrom_X0_pailsAt_n200 : GoodIn wsX5_fitsFrom (wsX0_pailsAt) := ggX5_fitsFrom_X0_pailsAt
set_option maxRecDepth 20000 in
theorem ggX5_fitsFrom_X0_moodBehind : GoodIn wsX5_fitsFrom wsX0_moodBehind := goodIn_r _ [16, 6, 17, 18, 19, 20, 21, 8, 9, 10, 22, 12, 13, 54, 55, 56, 57, 58] (by decide +kernel) (by decide +kernel)
set_option maxRecDepth 20000 in
theorem gX5_fitsFrom_X0_moodBehind_n277 : GoodIn wsX5_fitsFrom (wsX0_moodBehind) := ggX5_fitsFrom_X0_moodBehind
set_option maxRecDepth 20000 in
theorem ggX5_fitsFrom_X5_waned : GoodIn wsX5_fitsFrom wsX5_waned := goodIn_r _ [25, 26, 27, 28, 29] (by decide +kernel) (by decide +kernel)
set_option maxRecDepth 20000 in
theorem gX5_fitsFrom_X5_waned : GoodIn wsX5_fitsFrom (va_wsS RX5 197 yX5_waned wsX5_waned) := goodIn_app (goodIn_of _ (by decide +kernel)) ggX5_fitsFrom_X5_waned
theorem dX5_fitsFrom_0 : decode cX5_fitsFrom 0 = .ok (.iload_n 1, 1) := by decide +kernel
theorem dX5_fitsFrom_1 : decode cX5_fitsFrom 1 = .ok (.istore 5, 2) := by decide +kernel
theorem dX5_fitsFrom_3 : decode cX5_fitsFrom 3 = .ok (.iconst 0, 1) := by decide +kernel
theorem dX5_fitsFrom_4 : decode cX5_fitsFrom 4 = .ok (.istore 6, 2) := by decide +kernel
theorem dX5_fitsFrom_6 : decode cX5_fitsFrom 6 = .ok (.iload 6, 2) := by decide +kernel
theorem dX5_fitsFrom_8 : decode cX5_fitsFrom 8 = .ok (.iload 4, 2) := by decide +kernel
theorem dX5_fitsFrom_10 : decode cX5_fitsFrom 10 = .ok (.if_icmp .ge 76, 3) := by decide +kernel
theorem dX5_fitsFrom_13 : decode cX5_fitsFrom 13 = .ok (.aload_n 2, 1) := by decide +kernel
theorem dX5_fitsFrom_14 : decode cX5_fitsFrom 14 = .ok (.getfield 251, 3) := by decide +kernel
theorem dX5_fitsFrom_17 : decode cX5_fitsFrom 17 = .ok (.iload_n 3, 1) := by decide +kernel
theorem dX5_fitsFrom_18 : decode cX5_fitsFrom 18 = .ok (.iconst 2, 1) := by decide +kernel
theorem dX5_fitsFrom_19 : decode cX5_fitsFrom 19 = .ok (.iload 6, 2) := by decide +kernel
theorem dX5_fitsFrom_21 : decode cX5_fitsFrom 21 = .ok (.imul, 1) := by decide +kernel
theorem dX5_fitsFrom_22 : decode cX5_fitsFrom 22 = .ok (.iadd, 1) := by decide +kernel
theorem dX5_fitsFrom_23 : decode cX5_fitsFrom 23 = .ok (.laload, 1) := by decide +kernel
theorem dX5_fitsFrom_24 : decode cX5_fitsFrom 24 = .ok (.l2i, 1) := by decide +kernel
theorem dX5_fitsFrom_25 : decode cX5_fitsFrom 25 = .ok (.istore 7, 2) := by decide +kernel
theorem dX5_fitsFrom_27 : decode cX5_fitsFrom 27 = .ok (.aload_n 0, 1) := by decide +kernel
theorem dX5_fitsFrom_28 : decode cX5_fitsFrom 28 = .ok (.getfield 12, 3) := by decide +kernel
theorem dX5_fitsFrom_31 : decode cX5_fitsFrom 31 = .ok (.getfield 59, 3) := by decide +kernel
theorem dX5_fitsFrom_34 : decode cX5_fitsFrom 34 = .ok (.iload 7, 2) := by decide +kernel
theorem dX5_fitsFrom_36 : decode cX5_fitsFrom 36 = .ok (.iload 5, 2) := by decide +kernel
theorem dX5_fitsFrom_38 : decode cX5_fitsFrom 38 = .ok (.invokevirtual 200, 3) := by decide +kernel
theorem dX5_fitsFrom_41 : decode cX5_fitsFrom 41 = .ok (.i2l, 1) := by decide +kernel
theorem dX5_fitsFrom_42 : decode cX5_fitsFrom 42 = .ok (.aload_n 2, 1) := by decide +kernel
theorem dX5_fitsFrom_43 : decode cX5_fitsFrom 43 = .ok (.getfield 251, 3) := by decide +kernel
theorem dX5_fitsFrom_46 : decode cX5_fitsFrom 46 = .ok (.iload_n 3, 1) := by decide +kernel
theorem dX5_fitsFrom_47 : decode cX5_fitsFrom 47 = .ok (.iconst 2, 1) := by decide +kernel
theorem dX5_fitsFrom_48 : decode cX5_fitsFrom 48 = .ok (.iload 6, 2) := by decide +kernel
theorem dX5_fitsFrom_50 : decode cX5_fitsFrom 50 = .ok (.imul, 1) := by decide +kernel
theorem dX5_fitsFrom_51 : decode cX5_fitsFrom 51 = .ok (.iadd, 1) := by decide +kernel
theorem dX5_fitsFrom_52 : decode cX5_fitsFrom 52 = .ok (.iconst 1, 1) := by decide +kernel
theorem dX5_fitsFrom_53 : decode cX5_fitsFrom 53 = .ok (.iadd, 1) := by decide +kernel
theorem dX5_fitsFrom_54 : decode cX5_fitsFrom 54 = .ok (.laload, 1) := by decide +kernel
theorem dX5_fitsFrom_55 : decode cX5_fitsFrom 55 = .ok (.lcmp, 1) := by decide +kernel
theorem dX5_fitsFrom_56 : decode cX5_fitsFrom 56 = .ok (.ifCond .eq 5, 3) := by decide +kernel
theorem dX5_fitsFrom_59 : decode cX5_fitsFrom 59 = .ok (.iconst 0, 1) := by decide +kernel
theorem dX5_fitsFrom_60 : decode cX5_fitsFrom 60 = .ok (.ireturn, 1) := by decide +kernel
theorem dX5_fitsFrom_61 : decode cX5_fitsFrom 61 = .ok (.aload_n 0, 1) := by decide +kernel
theorem dX5_fitsFrom_62 : decode cX5_fitsFrom 62 = .ok (.getfield 12, 3) := by decide +kernel
theorem dX5_fitsFrom_65 : decode cX5_fitsFrom 65 = .ok (.getfield 59, 3) := by decide +kernel
theorem dX5_fitsFrom_68 : decode cX5_fitsFrom 68 = .ok (.iload 7, 2) := by decide +kernel
theorem dX5_fitsFrom_70 : decode cX5_fitsFrom 70 = .ok (.iload 5, 2) := by decide +kernel
theorem dX5_fitsFrom_72 : decode cX5_fitsFrom 72 = .ok (.invokevirtual 277, 3) := by decide +kernel
theorem dX5_fitsFrom_75 : decode cX5_fitsFrom 75 = .ok (.invokestatic 197, 3) := by decide +kernel
theorem dX5_fitsFrom_78 : decode cX5_fitsFrom 78 = .ok (.istore 5, 2) := by decide +kernel
theorem dX5_fitsFrom_80 : decode cX5_fitsFrom 80 = .ok (.iinc 6 1, 3) := by decide +kernel
theorem dX5_fitsFrom_83 : decode cX5_fitsFrom 83 = .ok (.goto (-77), 3) := by decide +kernel
theorem dX5_fitsFrom_86 : decode cX5_fitsFrom 86 = .ok (.iconst 1, 1) := by decide +kernel
theorem dX5_fitsFrom_87 : decode cX5_fitsFrom 87 = .ok (.ireturn, 1) := by decide +kernel
end
section
theorem dX6_init_0 : decode cX6_init 0 = .ok (.aload_n 0, 1) := by decide +kernel
theorem dX6_init_1 : decode cX6_init 1 = .ok (.invokespecial 1, 3) := by decide +kernel
theorem dX6_init_4 : decode cX6_init 4 = .ok (.aload_n 0, 1) := by decide +kernel
theorem dX6_init_5 : decode cX6_init 5 = .ok (.bipush 6, 2) := by decide +kernel
theorem dX6_init_7 : decode cX6_init 7 = .ok (.newarray .int, 2) := by decide +kernel
theorem dX6_init_9 : decode cX6_init 9 = .ok (.putfield 7, 3) := by decide +kernel
theorem dX6_init_12 : decode cX6_init 12 = .ok (.aload_n 0, 1) := by decide +kernel
theorem dX6_init_13 : decode cX6_init 13 = .ok (.bipush 6, 2) := by decide +kernel
theorem dX6_init_15 : decode cX6_init 15 = .ok (.newarray .int, 2) := by decide +kernel
theorem dX6_init_17 : decode cX6_init 17 = .ok (.putfield 13, 3) := by decide +kernel
theorem dX6_init_20 : decode cX6_init 20 = .ok (.aload_n 0, 1) := by decide +kernel
theorem dX6_init_21 : decode cX6_init 21 = .ok (.bipush 6, 2) := by decide +kernel
theorem dX6_init_23 : decode cX6_init 23 = .ok (.newarray .int, 2) := by decide +kernel
theorem dX6_init_25 : decode cX6_init 25 = .ok (.putfield 16, 3) := by decide +kernel
theorem dX6_init_28 : decode cX6_init 28 = .ok (.aload_n 0, 1) := by decide +kernel
theorem dX6_init_29 : decode cX6_init 29 = .ok (.bipush 6, 2) := by decide +kernel
theorem dX6_init_31 : decode cX6_init 31 = .ok (.newarray .int, 2) := by decide +kernel
theorem dX6_init_33 : decode cX6_init 33 = .ok (.putfield 19, 3) := by decide +kernel
theorem dX6_init_36 : decode cX6_init 36 = .ok (.aload_n 0, 1) := by decide +kernel
theorem dX6_init_37 : decode cX6_init 37 = .ok (.bipush 6, 2) := by decide +kernel
theorem dX6_init_39 : decode cX6_init 39 = .ok (.newarray .int, 2) := by decide +kernel
theorem dX6_init_41 : decode cX6_init 41 = .ok (.putfield 22, 3) := by decide +kernel
theorem dX6_init_44 : decode cX6_init 44 = .ok (.aload_n 0, 1) := by decide +kernel
theorem dX6_init_45 : decode cX6_init 45 = .ok (.sipush 200, 3) := by decide +kernel
theorem dX6_init_48 : decode cX6_init 48 = .ok (.putfield 25, 3) := by decide +kernel
theorem dX6_init_51 : decode cX6_init 51 = .ok (.aload_n 0, 1) := by decide +kernel
theorem dX6_init_52 : decode cX6_init 52 = .ok (.iconst 1, 1) := by decide +kernel
theorem dX6_init_53 : decode cX6_init 53 = .ok (.putfield 29, 3) := by decide +kernel
theorem dX6_init_56 : decode cX6_init 56 = .ok (.aload_n 0, 1) := by decide +kernel
theorem dX6_init_57 : decode cX6_init 57 = .ok (.bipush 9, 2) := by decide +kernel
theorem dX6_init_59 : decode cX6_init 59 = .ok (.putfield 32, 3) := by decide +kernel
theorem dX6_init_62 : decode cX6_init 62 = .ok (.aload_n 0, 1) := by decide +kernel
theorem dX6_init_63 : decode cX6_init 63 = .ok (.bipush 24, 2) := by decide +kernel
theorem dX6_init_65 : decode cX6_init 65 = .ok (.newarray .int, 2) := by decide +kernel
theorem dX6_init_67 : decode cX6_init 67 = .ok (.putfield 35, 3) := by decide +kernel
theorem dX6_init_70 : decode cX6_init 70 = .ok (.aload_n 0, 1) := by decide +kernel
theorem dX6_init_71 : decode cX6_init 71 = .ok (.iconst 1, 1) := by decide +kernel
theorem dX6_init_72 : decode cX6_init 72 = .ok (.putfield 38, 3) := by decide +kernel
theorem dX6_init_75 : decode cX6_init 75 = .ok (.aload_n 0, 1) := by decide +kernel
theorem dX6_init_76 : decode cX6_init 76 = .ok (.bipush 60, 2) := by decide +kernel
theorem dX6_init_78 : decode cX6_init 78 = .ok (.newarray .int, 2) := by decide +kernel
theorem dX6_init_80 : decode cX6_init 80 = .ok (.putfield 41, 3) := by decide +kernel
theorem dX6_init_83 : decode cX6_init 83 = .ok (.aload_n 0, 1) := by decide +kernel
theorem dX6_init_84 : decode cX6_init 84 = .ok (.bipush 24, 2) := by decide +kernel
theorem dX6_init_86 : decode cX6_init 86 = .ok (.newarray .int, 2) := by decide +kernel
theorem dX6_init_88 : decode cX6_init 88 = .ok (.putfield 44, 3) := by decide +kernel
theorem dX6_init_91 : decode cX6_init 91 = .ok (.aload_n 0, 1) := by decide +kernel
theorem dX6_init_92 : decode cX6_init 92 = .ok (.bipush 6, 2) := by decide +kernel
theorem dX6_init_94 : decode cX6_init 94 = .ok (.newarray .int, 2) := by decide +kernel
theorem dX6_init_96 : decode cX6_init 96 = .ok (.putfield 47, 3) := by decide +kernel
theorem dX6_init_99 : decode cX6_init 99 = .ok (.aload_n 0, 1) := by decide +kernel
theorem dX6_init_100 : decode cX6_init 100 = .ok (.iconst 5, 1) := by decide +kernel
theorem dX6_init_101 : decode cX6_init 101 = .ok (.newarray .int, 2) := by decide +kernel
theorem dX6_init_103 : decode cX6_init 103 = .ok (.putfield 50, 3) := by decide +kernel
theorem dX6_init_106 : decode cX6_init 106 = .ok (.aload_n 0, 1) := by decide +kernel
theorem dX6_init_107 : decode cX6_init 107 = .ok (.iconst 5, 1) := by decide +kernel
theorem dX6_init_108 : decode cX6_init 108 = .ok (.newarray .int, 2) := by decide +kernel
theorem dX6_init_110 : decode cX6_init 110 = .ok (.putfield 53, 3) := by decide +kernel
theorem dX6_init_113 : decode cX6_init 113 = .ok (.aload_n 0, 1) := by decide +kernel
theorem dX6_init_114 : decode cX6_init 114 = .ok (.bipush 64, 2) := by decide +kernel
theorem dX6_init_116 : decode cX6_init 116 = .ok (.newarray .int, 2) := by decide +kernel
theorem dX6_init_118 : decode cX6_init 118 = .ok (.putfield 56, 3) := by decide +kernel
theorem dX6_init_121 : decode cX6_init 121 = .ok (.aload_n 0, 1) := by decide +kernel
theorem dX6_init_122 : decode cX6_init 122 = .ok (.iconst 4, 1) := by decide +kernel
theorem dX6_init_123 : decode cX6_init 123 = .ok (.newarray .int, 2) := by decide +kernel
theorem dX6_init_125 : decode cX6_init 125 = .ok (.putfield 59, 3) := by decide +kernel
theorem dX6_init_128 : decode cX6_init 128 = .ok (.aload_n 0, 1) := by decide +kernel
theorem dX6_init_129 : decode cX6_init 129 = .ok (.iconst 4, 1) := by decide +kernel
theorem dX6_init_130 : decode cX6_init 130 = .ok (.newarray .int, 2) := by decide +kernel
theorem dX6_init_132 : decode cX6_init 132 = .ok (.putfield 62, 3) := by decide +kernel
theorem dX6_init_135 : decode cX6_init 135 = .ok (.aload_n 0, 1) := by decide +kernel
theorem dX6_init_136 : decode cX6_init 136 = .ok (.bipush 96, 2) := by decide +kernel
theorem dX6_init_138 : decode cX6_init 138 = .ok (.newarray .long, 2) := by decide +kernel
theorem dX6_init_140 : decode cX6_init 140 = .ok (.putfield 65, 3) := by decide +kernel
theorem dX6_init_143 : decode cX6_init 143 = .ok (.aload_n 0, 1) := by decide +kernel
theorem dX6_init_144 : decode cX6_init 144 = .ok (.bipush 24, 2) := by decide +kernel
theorem dX6_init_146 : decode cX6_init 146 = .ok (.newarray .long, 2) := by decide +kernel
theorem dX6_init_148 : decode cX6_init 148 = .ok (.putfield 69, 3) := by decide +kernel
theorem dX6_init_151 : decode cX6_init 151 = .ok (.iconst 0, 1) := by decide +kernel
theorem dX6_init_152 : decode cX6_init 152 = .ok (.istore_n 1, 1) := by decide +kernel
theorem dX6_init_153 : decode cX6_init 153 = .ok (.iload_n 1, 1) := by decide +kernel
theorem dX6_init_154 : decode cX6_init 154 = .ok (.iconst 4, 1) := by decide +kernel
theorem dX6_init_155 : decode cX6_init 155 = .ok (.if_icmp .ge 16, 3) := by decide +kernel
theorem dX6_init_158 : decode cX6_init 158 = .ok (.aload_n 0, 1) := by decide +kernel
theorem dX6_init_159 : decode cX6_init 159 = .ok (.getfield 59, 3) := by decide +kernel
theorem dX6_init_162 : decode cX6_init 162 = .ok (.iload_n 1, 1) := by decide +kernel
theorem dX6_init_163 : decode cX6_init 163 = .ok (.iconst (-1), 1) := by decide +kernel
theorem dX6_init_164 : decode cX6_init 164 = .ok (.iastore, 1) := by decide +kernel
theorem dX6_init_165 : decode cX6_init 165 = .ok (.iinc 1 1, 3) := by decide +kernel
theorem dX6_init_168 : decode cX6_init 168 = .ok (.goto (-15), 3) := by decide +kernel
theorem dX6_init_171 : decode cX6_init 171 = .ok (.return_, 1) := by decide +kernel
theorem dX6_in_0 : decode cX6_in 0 = .ok (.lload_n 0, 1) := by decide +kernel
theorem dX6_in_1 : decode cX6_in 1 = .ok (.lload_n 2, 1) := by decide +kernel
theorem dX6_in_2 : decode cX6_in 2 = .ok (.lcmp, 1) := by decide +kernel
theorem dX6_in_3 : decode cX6_in 3 = .ok (.ifCond .lt 14, 3) := by decide +kernel
theorem dX6_in_6 : decode cX6_in 6 = .ok (.lload_n 0, 1) := by decide +kernel
theorem dX6_in_7 : decode cX6_in 7 = .ok (.lload 4, 2) := by decide +kernel
theorem dX6_in_9 : decode cX6_in 9 = .ok (.lcmp, 1) := by decide +kernel
theorem dX6_in_10 : decode cX6_in 10 = .ok (.ifCond .gt 7, 3) := by decide +kernel
theorem dX6_in_13 : decode cX6_in 13 = .ok (.iconst 1, 1) := by decide +kernel
theorem dX6_in_14 : decode cX6_in 14 = .ok (.goto 4, 3) := by decide +kernel
theorem dX6_in_17 : decode cX6_in 17 = .ok (.iconst 0, 1) := by decide +kernel
theorem dX6_in_18 : decode cX6_in 18 = .ok (.ireturn, 1) := by decide +kernel
theorem dX6_has_0 : decode cX6_has 0 = .ok (.iload_n 0, 1) := by decide +kernel
theorem dX6_has_1 : decode cX6_has 1 = .ok (.iload_n 1, 1) := by decide +kernel
theorem dX6_has_2 : decode cX6_has 2 = .ok (.ishr, 1) := by decide +kernel
theorem dX6_has_3 : decode cX6_has 3 = .ok (.iconst 1, 1) := by decide +kernel
theorem dX6_has_4 : decode cX6_has 4 = .ok (.iand, 1) := by decide +kernel
theorem dX6_has_5 : decode cX6_has 5 = .ok (.iconst 1, 1) := by decide +kernel
theorem dX6_has_6 : decode cX6_has 6 = .ok (.if_icmp .ne 7, 3) := by decide +kernel
theorem dX6_has_9 : decode cX6_has 9 = .ok (.iconst 1, 1) := by decide +kernel
theorem dX6_has_10 : decode cX6_has 10 = .ok (.goto 4, 3) := by decide +kernel
theorem dX6_has_13 : decode cX6_has 13 = .ok (.iconst 0, 1) := by decide +kernel
theorem dX6_has_14 : decode cX6_has 14 = .ok (.ireturn, 1) := by decide +kernel
set_option maxRecDepth 20000 in
theorem ggX6_isOne_X6_in : GoodIn wsX6_isOne wsX6_in := goodIn_r _ [5] (by decide +kernel) (by decide +kernel)
set_option maxRecDepth 20000 in
theorem gX6_isOne_X6_in : GoodIn wsX6_isOne (va_wsS RX6 75 yX6_in wsX6_in) := goodIn_app (goodIn_of _ (by decide +kernel)) ggX6_isOne_X6_in
theorem dX6_isOne_0 : decode cX6_isOne 0 = .ok (.iload_n 1, 1) := by decide +kernel
theorem dX6_isOne_1 : decode cX6_isOne 1 = .ok (.i2l, 1) := by decide +kernel
theorem dX6_isOne_2 : decode cX6_isOne 2 = .ok (.lconst 0, 1) := by decide +kernel
theorem dX6_isOne_3 : decode cX6_isOne 3 = .ok (.aload_n 0, 1) := by decide +kernel
theorem dX6_isOne_4 : decode cX6_isOne 4 = .ok (.getfield 72, 3) := by decide +kernel
theorem dX6_isOne_7 : decode cX6_isOne 7 = .ok (.iconst 1, 1) := by decide +kernel
theorem dX6_isOne_8 : decode cX6_isOne 8 = .ok (.isub, 1) := by decide +kernel
theorem dX6_isOne_9 : decode cX6_isOne 9 = .ok (.i2l, 1) := by decide +kernel
theorem dX6_isOne_10 : decode cX6_isOne 10 = .ok (.invokestatic 75, 3) := by decide +kernel
theorem dX6_isOne_13 : decode cX6_isOne 13 = .ok (.ireturn, 1) := by decide +kernel
set_option maxRecDepth 20000 in
theorem ggX6_isMood_X6_in : GoodIn wsX6_isMood wsX6_in := goodIn_r _ [6] (by decide +kernel) (by decide +kernel)
set_option maxRecDepth 20000 in
theorem gX6_isMood_X6_in : GoodIn wsX6_isMood (va_wsS RX6 75 yX6_in wsX6_in) := goodIn_app (goodIn_of _ (by decide +kernel)) ggX6_isMood_X6_in
theorem dX6_isMood_0 : decode cX6_isMood 0 = .ok (.iload_n 0, 1) := by decide +kernel
theorem dX6_isMood_1 : decode cX6_isMood 1 = .ok (.i2l, 1) := by decide +kernel
theorem dX6_isMood_2 : decode cX6_isMood 2 = .ok (.ldc2_w 79, 3) := by decide +kernel
theorem dX6_isMood_5 : decode cX6_isMood 5 = .ok (.ldc2_w 81, 3) := by decide +kernel
theorem dX6_isMood_8 : decode cX6_isMood 8 = .ok (.invokestatic 75, 3) := by decide +kernel
theorem dX6_isMood_11 : decode cX6_isMood 11 = .ok (.ireturn, 1) := by decide +kernel
theorem dX6_add_0 : decode cX6_add 0 = .ok (.aload_n 0, 1) := by decide +kernel
theorem dX6_add_1 : decode cX6_add 1 = .ok (.getfield 7, 3) := by decide +kernel
theorem dX6_add_4 : decode cX6_add 4 = .ok (.aload_n 0, 1) := by decide +kernel
theorem dX6_add_5 : decode cX6_add 5 = .ok (.getfield 72, 3) := by decide +kernel
theorem dX6_add_8 : decode cX6_add 8 = .ok (.iload_n 1, 1) := by decide +kernel
theorem dX6_add_9 : decode cX6_add 9 = .ok (.iastore, 1) := by decide +kernel
theorem dX6_add_10 : decode cX6_add 10 = .ok (.aload_n 0, 1) := by decide +kernel
theorem dX6_add_11 : decode cX6_add 11 = .ok (.getfield 13, 3) := by decide +kernel
theorem dX6_add_14 : decode cX6_add 14 = .ok (.aload_n 0, 1) := by decide +kernel
theorem dX6_add_15 : decode cX6_add 15 = .ok (.getfield 72, 3) := by decide +kernel
theorem dX6_add_18 : decode cX6_add 18 = .ok (.iload_n 2, 1) := by decide +kernel
theorem dX6_add_19 : decode cX6_add 19 = .ok (.iastore, 1) := by decide +kernel
theorem dX6_add_20 : decode cX6_add 20 = .ok (.aload_n 0, 1) := by decide +kernel
theorem dX6_add_21 : decode cX6_add 21 = .ok (.getfield 16, 3) := by decide +kernel
theorem dX6_add_24 : decode cX6_add 24 = .ok (.aload_n 0, 1) := by decide +kernel
theorem dX6_add_25 : decode cX6_add 25 = .ok (.getfield 72, 3) := by decide +kernel
theorem dX6_add_28 : decode cX6_add 28 = .ok (.iload_n 3, 1) := by decide +kernel
theorem dX6_add_29 : decode cX6_add 29 = .ok (.iastore, 1) := by decide +kernel
theorem dX6_add_30 : decode cX6_add 30 = .ok (.aload_n 0, 1) := by decide +kernel
theorem dX6_add_31 : decode cX6_add 31 = .ok (.getfield 19, 3) := by decide +kernel
theorem dX6_add_34 : decode cX6_add 34 = .ok (.aload_n 0, 1) := by decide +kernel
theorem dX6_add_35 : decode cX6_add 35 = .ok (.getfield 72, 3) := by decide +kernel
theorem dX6_add_38 : decode cX6_add 38 = .ok (.iconst 0, 1) := by decide +kernel
theorem dX6_add_39 : decode cX6_add 39 = .ok (.iastore, 1) := by decide +kernel
theorem dX6_add_40 : decode cX6_add 40 = .ok (.aload_n 0, 1) := by decide +kernel
theorem dX6_add_41 : decode cX6_add 41 = .ok (.getfield 22, 3) := by decide +kernel
theorem dX6_add_44 : decode cX6_add 44 = .ok (.aload_n 0, 1) := by decide +kernel
theorem dX6_add_45 : decode cX6_add 45 = .ok (.getfield 72, 3) := by decide +kernel
theorem dX6_add_48 : decode cX6_add 48 = .ok (.iconst 0, 1) := by decide +kernel
theorem dX6_add_49 : decode cX6_add 49 = .ok (.iastore, 1) := by decide +kernel
theorem dX6_add_50 : decode cX6_add 50 = .ok (.aload_n 0, 1) := by decide +kernel
theorem dX6_add_51 : decode cX6_add 51 = .ok (.dup, 1) := by decide +kernel
theorem dX6_add_52 : decode cX6_add 52 = .ok (.getfield 72, 3) := by decide +kernel
theorem dX6_add_55 : decode cX6_add 55 = .ok (.iconst 1, 1) := by decide +kernel
theorem dX6_add_56 : decode cX6_add 56 = .ok (.iadd, 1) := by decide +kernel
theorem dX6_add_57 : decode cX6_add 57 = .ok (.putfield 72, 3) := by decide +kernel
theorem dX6_add_60 : decode cX6_add 60 = .ok (.return_, 1) := by decide +kernel
set_option maxRecDepth 20000 in
theorem ggX6_folk_X6_in : GoodIn wsX6_folk wsX6_in := goodIn_r _ [8] (by decide +kernel) (by decide +kernel)
set_option maxRecDepth 20000 in
theorem gX6_folk_X6_in : GoodIn wsX6_folk (va_wsS RX6 75 yX6_in wsX6_in) := goodIn_app (goodIn_of _ (by decide +kernel)) ggX6_folk_X6_in
set_option maxRecDepth 20000 in
theorem ggX6_folk_X6_add : GoodIn wsX6_folk wsX6_add := goodIn_r _ [12, 13, 4, 14, 15, 16, 17, 18, 19, 20, 21, 22, 23, 24, 25, 26, 27, 28, 29, 30, 31, 32, 33, 34, 35, 36, 37, 38, 39, 40, 41, 42, 43, 44, 45, 46, 47, 48, 49, 50, 51, 52, 53] (by decide +kernel) (by decide +kernel)
set_option maxRecDepth 20000 in
theorem gX6_folk_X6_add : GoodIn wsX6_folk (wsV RX6 87 RX6 yX6_add wsX6_add) := goodIn_app (goodIn_of _ (by decide +kernel)) ggX6_folk_X6_add
theorem dX6_folk_0 : decode cX6_folk 0 = .ok (.iload_n 1, 1) := by decide +kernel
theorem dX6_folk_1 : decode cX6_folk 1 = .ok (.i2l, 1) := by decide +kernel
theorem dX6_folk_2 : decode cX6_folk 2 = .ok (.lconst 0, 1) := by decide +kernel
theorem dX6_folk_3 : decode cX6_folk 3 = .ok (.ldc2_w 83, 3) := by decide +kernel
theorem dX6_folk_6 : decode cX6_folk 6 = .ok (.invokestatic 75, 3) := by decide +kernel
theorem dX6_folk_9 : decode cX6_folk 9 = .ok (.ifCond .eq 29, 3) := by decide +kernel
theorem dX6_folk_12 : decode cX6_folk 12 = .ok (.iload_n 2, 1) := by decide +kernel
theorem dX6_folk_13 : decode cX6_folk 13 = .ok (.i2l, 1) := by decide +kernel
theorem dX6_folk_14 : decode cX6_folk 14 = .ok (.ldc2_w 85, 3) := by decide +kernel
theorem dX6_folk_17 : decode cX6_folk 17 = .ok (.ldc2_w 83, 3) := by decide +kernel
theorem dX6_folk_20 : decode cX6_folk 20 = .ok (.invokestatic 75, 3) := by decide +kernel
theorem dX6_folk_23 : decode cX6_folk 23 = .ok (.ifCond .eq 15, 3) := by decide +kernel
theorem dX6_folk_26 : decode cX6_folk 26 = .ok (.iload_n 3, 1) := by decide +kernel
theorem dX6_folk_27 : decode cX6_folk 27 = .ok (.i2l, 1) := by decide +kernel
theorem dX6_folk_28 : decode cX6_folk 28 = .ok (.lconst 1, 1) := by decide +kernel
theorem dX6_folk_29 : decode cX6_folk 29 = .ok (.ldc2_w 81, 3) := by decide +kernel
theorem dX6_folk_32 : decode cX6_folk 32 = .ok (.invokestatic 75, 3) := by decide +kernel
theorem dX6_folk_35 : decode cX6_folk 35 = .ok (.ifCond .ne 5, 3) := by decide +kernel
theorem dX6_folk_38 : decode cX6_folk 38 = .ok (.iconst (-1), 1) := by decide +kernel
theorem dX6_folk_39 : decode cX6_folk 39 = .ok (.ireturn, 1) := by decide +kernel
theorem dX6_folk_40 : decode cX6_folk 40 = .ok (.aload_n 0, 1) := by decide +kernel
theorem dX6_folk_41 : decode cX6_folk 41 = .ok (.getfield 72, 3) := by decide +kernel
theorem dX6_folk_44 : decode cX6_folk 44 = .ok (.bipush 6, 2) := by decide +kernel
theorem dX6_folk_46 : decode cX6_folk 46 = .ok (.if_icmp .ne 6, 3) := by decide +kernel
theorem dX6_folk_49 : decode cX6_folk 49 = .ok (.bipush (-3), 2) := by decide +kernel
theorem dX6_folk_51 : decode cX6_folk 51 = .ok (.ireturn, 1) := by decide +kernel
theorem dX6_folk_52 : decode cX6_folk 52 = .ok (.aload_n 0, 1) := by decide +kernel
theorem dX6_folk_53 : decode cX6_folk 53 = .ok (.iload_n 1, 1) := by decide +kernel
theorem dX6_folk_54 : decode cX6_folk 54 = .ok (.iload_n 2, 1) := by decide +kernel
theorem dX6_folk_55 : decode cX6_folk 55 = .ok (.iload_n 3, 1) := by decide +kernel
theorem dX6_folk_56 : decode cX6_folk 56 = .ok (.invokevirtual 87, 3) := by decide +kernel
theorem dX6_folk_59 : decode cX6_folk 59 = .ok (.aload_n 0, 1) := by decide +kernel
theorem dX6_folk_60 : decode cX6_folk 60 = .ok (.getfield 72, 3) := by decide +kernel
theorem dX6_folk_63 : decode cX6_folk 63 = .ok (.iconst 1, 1) := by decide +kernel
theorem dX6_folk_64 : decode cX6_folk 64 = .ok (.isub, 1) := by decide +kernel
theorem dX6_folk_65 : decode cX6_folk 65 = .ok (.ireturn, 1) := by decide +kernel
set_option maxRecDepth 20000 in
theorem ggX6_told_X6_isOne : GoodIn wsX6_told wsX6_isOne := goodIn_r _ [13, 14, 15, 16, 12, 17, 18, 19, 20, 21, 22, 23, 24, 25, 26, 27, 28, 29, 30, 31, 32, 33, 34, 35, 36, 37, 38, 39, 40, 41, 42, 43, 44, 45, 46, 47, 48, 49, 50, 51, 52, 53] (by decide +kernel) (by decide +kernel)
set_option maxRecDepth 20000 in
theorem gX6_told_X6_isOne : GoodIn wsX6_told (wsV RX6 91 RX6 yX6_isOne wsX6_isOne) := goodIn_app (goodIn_of _ (by decide +kernel)) ggX6_told_X6_isOne
set_option maxRecDepth 20000 in
theorem ggX6_told_X6_in : GoodIn wsX6_told wsX6_in := goodIn_r _ [17] (by decide +kernel) (by decide +kernel)
set_option maxRecDepth 20000 in
theorem gX6_told_X6_in : GoodIn wsX6_told (va_wsS RX6 75 yX6_in wsX6_in) := goodIn_app (goodIn_of _ (by decide +kernel)) ggX6_told_X6_in
theorem dX6_told_0 : decode cX6_told 0 = .ok (.aload_n 0, 1) := by decide +kernel
theorem dX6_told_1 : decode cX6_told 1 = .ok (.iload_n 1, 1) := by decide +kernel
theorem dX6_told_2 : decode cX6_told 2 = .ok (.invokevirtual 91, 3) := by decide +kernel
theorem dX6_told_5 : decode cX6_told 5 = .ok (.ifCond .eq 15, 3) := by decide +kernel
theorem dX6_told_8 : decode cX6_told 8 = .ok (.iload_n 2, 1) := by decide +kernel
theorem dX6_told_9 : decode cX6_told 9 = .ok (.i2l, 1) := by decide +kernel
theorem dX6_told_10 : decode cX6_told 10 = .ok (.lconst 0, 1) := by decide +kernel
theorem dX6_told_11 : decode cX6_told 11 = .ok (.ldc2_w 95, 3) := by decide +kernel
theorem dX6_told_14 : decode cX6_told 14 = .ok (.invokestatic 75, 3) := by decide +kernel
theorem dX6_told_17 : decode cX6_told 17 = .ok (.ifCond .ne 6, 3) := by decide +kernel
theorem dX6_told_20 : decode cX6_told 20 = .ok (.ldc 97, 2) := by decide +kernel
theorem dX6_told_22 : decode cX6_told 22 = .ok (.ireturn, 1) := by decide +kernel
theorem dX6_told_23 : decode cX6_told 23 = .ok (.aload_n 0, 1) := by decide +kernel
theorem dX6_told_24 : decode cX6_told 24 = .ok (.getfield 22, 3) := by decide +kernel
theorem dX6_told_27 : decode cX6_told 27 = .ok (.iload_n 1, 1) := by decide +kernel
theorem dX6_told_28 : decode cX6_told 28 = .ok (.iaload, 1) := by decide +kernel
theorem dX6_told_29 : decode cX6_told 29 = .ok (.aload_n 0, 1) := by decide +kernel
theorem dX6_told_30 : decode cX6_told 30 = .ok (.getfield 98, 3) := by decide +kernel
theorem dX6_told_33 : decode cX6_told 33 = .ok (.if_icmp .le 17, 3) := by decide +kernel
theorem dX6_told_36 : decode cX6_told 36 = .ok (.aload_n 0, 1) := by decide +kernel
theorem dX6_told_37 : decode cX6_told 37 = .ok (.getfield 22, 3) := by decide +kernel
theorem dX6_told_40 : decode cX6_told 40 = .ok (.iload_n 1, 1) := by decide +kernel
theorem dX6_told_41 : decode cX6_told 41 = .ok (.iaload, 1) := by decide +kernel
theorem dX6_told_42 : decode cX6_told 42 = .ok (.aload_n 0, 1) := by decide +kernel
theorem dX6_told_43 : decode cX6_told 43 = .ok (.getfield 98, 3) := by decide +kernel
theorem dX6_told_46 : decode cX6_told 46 = .ok (.isub, 1) := by decide +kernel
theorem dX6_told_47 : decode cX6_told 47 = .ok (.goto 4, 3) := by decide +kernel
theorem dX6_told_50 : decode cX6_told 50 = .ok (.iconst 0, 1) := by decide +kernel
theorem dX6_told_51 : decode cX6_told 51 = .ok (.istore_n 3, 1) := by decide +kernel
theorem dX6_told_52 : decode cX6_told 52 = .ok (.iload_n 2, 1) := by decide +kernel
theorem dX6_told_53 : decode cX6_told 53 = .ok (.ifCond .ne 12, 3) := by decide +kernel
theorem dX6_told_56 : decode cX6_told 56 = .ok (.aload_n 0, 1) := by decide +kernel
theorem dX6_told_57 : decode cX6_told 57 = .ok (.getfield 7, 3) := by decide +kernel
theorem dX6_told_60 : decode cX6_told 60 = .ok (.iload_n 1, 1) := by decide +kernel
theorem dX6_told_61 : decode cX6_told 61 = .ok (.iaload, 1) := by decide +kernel
theorem dX6_told_62 : decode cX6_told 62 = .ok (.goto 46, 3) := by decide +kernel
theorem dX6_told_65 : decode cX6_told 65 = .ok (.iload_n 2, 1) := by decide +kernel
theorem dX6_told_66 : decode cX6_told 66 = .ok (.iconst 1, 1) := by decide +kernel
theorem dX6_told_67 : decode cX6_told 67 = .ok (.if_icmp .ne 12, 3) := by decide +kernel
theorem dX6_told_70 : decode cX6_told 70 = .ok (.aload_n 0, 1) := by decide +kernel
theorem dX6_told_71 : decode cX6_told 71 = .ok (.getfield 13, 3) := by decide +kernel
theorem dX6_told_74 : decode cX6_told 74 = .ok (.iload_n 1, 1) := by decide +kernel
theorem dX6_told_75 : decode cX6_told 75 = .ok (.iaload, 1) := by decide +kernel
theorem dX6_told_76 : decode cX6_told 76 = .ok (.goto 32, 3) := by decide +kernel
theorem dX6_told_79 : decode cX6_told 79 = .ok (.iload_n 2, 1) := by decide +kernel
theorem dX6_told_80 : decode cX6_told 80 = .ok (.iconst 2, 1) := by decide +kernel
theorem dX6_told_81 : decode cX6_told 81 = .ok (.if_icmp .ne 12, 3) := by decide +kernel
theorem dX6_told_84 : decode cX6_told 84 = .ok (.aload_n 0, 1) := by decide +kernel
theorem dX6_told_85 : decode cX6_told 85 = .ok (.getfield 16, 3) := by decide +kernel
theorem dX6_told_88 : decode cX6_told 88 = .ok (.iload_n 1, 1) := by decide +kernel
theorem dX6_told_89 : decode cX6_told 89 = .ok (.iaload, 1) := by decide +kernel
theorem dX6_told_90 : decode cX6_told 90 = .ok (.goto 18, 3) := by decide +kernel
theorem dX6_told_93 : decode cX6_told 93 = .ok (.iload_n 2, 1) := by decide +kernel
theorem dX6_told_94 : decode cX6_told 94 = .ok (.iconst 3, 1) := by decide +kernel
theorem dX6_told_95 : decode cX6_told 95 = .ok (.if_icmp .ne 7, 3) := by decide +kernel
theorem dX6_told_98 : decode cX6_told 98 = .ok (.iload_n 3, 1) := by decide +kernel
theorem dX6_told_99 : decode cX6_told 99 = .ok (.goto 9, 3) := by decide +kernel
theorem dX6_told_102 : decode cX6_told 102 = .ok (.aload_n 0, 1) := by decide +kernel
theorem dX6_told_103 : decode cX6_told 103 = .ok (.getfield 19, 3) := by decide +kernel
theorem dX6_told_106 : decode cX6_told 106 = .ok (.iload_n 1, 1) := by decide +kernel
theorem dX6_told_107 : decode cX6_told 107 = .ok (.iaload, 1) := by decide +kernel
theorem dX6_told_108 : decode cX6_told 108 = .ok (.ireturn, 1) := by decide +kernel
theorem dX6_setQuarrel_0 : decode cX6_setQuarrel 0 = .ok (.aload_n 0, 1) := by decide +kernel
theorem dX6_setQuarrel_1 : decode cX6_setQuarrel 1 = .ok (.getfield 19, 3) := by decide +kernel
theorem dX6_setQuarrel_4 : decode cX6_setQuarrel 4 = .ok (.iload_n 1, 1) := by decide +kernel
theorem dX6_setQuarrel_5 : decode cX6_setQuarrel 5 = .ok (.iload_n 3, 1) := by decide +kernel
theorem dX6_setQuarrel_6 : decode cX6_setQuarrel 6 = .ok (.ifCond .eq 16, 3) := by decide +kernel
theorem dX6_setQuarrel_9 : decode cX6_setQuarrel 9 = .ok (.aload_n 0, 1) := by decide +kernel
theorem dX6_setQuarrel_10 : decode cX6_setQuarrel 10 = .ok (.getfield 19, 3) := by decide +kernel
theorem dX6_setQuarrel_13 : decode cX6_setQuarrel 13 = .ok (.iload_n 1, 1) := by decide +kernel
theorem dX6_setQuarrel_14 : decode cX6_setQuarrel 14 = .ok (.iaload, 1) := by decide +kernel
theorem dX6_setQuarrel_15 : decode cX6_setQuarrel 15 = .ok (.iconst 1, 1) := by decide +kernel
theorem dX6_setQuarrel_16 : decode cX6_setQuarrel 16 = .ok (.iload_n 2, 1) := by decide +kernel
theorem dX6_setQuarrel_17 : decode cX6_setQuarrel 17 = .ok (.ishl, 1) := by decide +kernel
theorem dX6_setQuarrel_18 : decode cX6_setQuarrel 18 = .ok (.ior, 1) := by decide +kernel
theorem dX6_setQuarrel_19 : decode cX6_setQuarrel 19 = .ok (.goto 15, 3) := by decide +kernel
theorem dX6_setQuarrel_22 : decode cX6_setQuarrel 22 = .ok (.aload_n 0, 1) := by decide +kernel
theorem dX6_setQuarrel_23 : decode cX6_setQuarrel 23 = .ok (.getfield 19, 3) := by decide +kernel
theorem dX6_setQuarrel_26 : decode cX6_setQuarrel 26 = .ok (.iload_n 1, 1) := by decide +kernel
theorem dX6_setQuarrel_27 : decode cX6_setQuarrel 27 = .ok (.iaload, 1) := by decide +kernel
theorem dX6_setQuarrel_28 : decode cX6_setQuarrel 28 = .ok (.iconst 1, 1) := by decide +kernel
theorem dX6_setQuarrel_29 : decode cX6_setQuarrel 29 = .ok (.iload_n 2, 1) := by decide +kernel
theorem dX6_setQuarrel_30 : decode cX6_setQuarrel 30 = .ok (.ishl, 1) := by decide +kernel
theorem dX6_setQuarrel_31 : decode cX6_setQuarrel 31 = .ok (.iconst (-1), 1) := by decide +kernel
theorem dX6_setQuarrel_32 : decode cX6_setQuarrel 32 = .ok (.ixor, 1) := by decide +kernel
theorem dX6_setQuarrel_33 : decode cX6_setQuarrel 33 = .ok (.iand, 1) := by decide +kernel
theorem dX6_setQuarrel_34 : decode cX6_setQuarrel 34 = .ok (.iastore, 1) := by decide +kernel
theorem dX6_setQuarrel_35 : decode cX6_setQuarrel 35 = .ok (.aload_n 0, 1) := by decide +kernel
theorem dX6_setQuarrel_36 : decode cX6_setQuarrel 36 = .ok (.getfield 19, 3) := by decide +kernel
theorem dX6_setQuarrel_39 : decode cX6_setQuarrel 39 = .ok (.iload_n 2, 1) := by decide +kernel
theorem dX6_setQuarrel_40 : decode cX6_setQuarrel 40 = .ok (.iload_n 3, 1) := by decide +kernel
theorem dX6_setQuarrel_41 : decode cX6_setQuarrel 41 = .ok (.ifCond .eq 16, 3) := by decide +kernel
theorem dX6_setQuarrel_44 : decode cX6_setQuarrel 44 = .ok (.aload_n 0, 1) := by decide +kernel
theorem dX6_setQuarrel_45 : decode cX6_setQuarrel 45 = .ok (.getfield 19, 3) := by decide +kernel
theorem dX6_setQuarrel_48 : decode cX6_setQuarrel 48 = .ok (.iload_n 2, 1) := by decide +kernel
theorem dX6_setQuarrel_49 : decode cX6_setQuarrel 49 = .ok (.iaload, 1) := by decide +kernel
theorem dX6_setQuarrel_50 : decode cX6_setQuarrel 50 = .ok (.iconst 1, 1) := by decide +kernel
theorem dX6_setQuarrel_51 : decode cX6_setQuarrel 51 = .ok (.iload_n 1, 1) := by decide +kernel
theorem dX6_setQuarrel_52 : decode cX6_setQuarrel 52 = .ok (.ishl, 1) := by decide +kernel
theorem dX6_setQuarrel_53 : decode cX6_setQuarrel 53 = .ok (.ior, 1) := by decide +kernel
theorem dX6_setQuarrel_54 : decode cX6_setQuarrel 54 = .ok (.goto 15, 3) := by decide +kernel
theorem dX6_setQuarrel_57 : decode cX6_setQuarrel 57 = .ok (.aload_n 0, 1) := by decide +kernel
theorem dX6_setQuarrel_58 : decode cX6_setQuarrel 58 = .ok (.getfield 19, 3) := by decide +kernel
theorem dX6_setQuarrel_61 : decode cX6_setQuarrel 61 = .ok (.iload_n 2, 1) := by decide +kernel
theorem dX6_setQuarrel_62 : decode cX6_setQuarrel 62 = .ok (.iaload, 1) := by decide +kernel
theorem dX6_setQuarrel_63 : decode cX6_setQuarrel 63 = .ok (.iconst 1, 1) := by decide +kernel
theorem dX6_setQuarrel_64 : decode cX6_setQuarrel 64 = .ok (.iload_n 1, 1) := by decide +kernel
theorem dX6_setQuarrel_65 : decode cX6_setQuarrel 65 = .ok (.ishl, 1) := by decide +kernel
theorem dX6_setQuarrel_66 : decode cX6_setQuarrel 66 = .ok (.iconst (-1), 1) := by decide +kernel
theorem dX6_setQuarrel_67 : decode cX6_setQuarrel 67 = .ok (.ixor, 1) := by decide +kernel
theorem dX6_setQuarrel_68 : decode cX6_setQuarrel 68 = .ok (.iand, 1) := by decide +kernel
theorem dX6_setQuarrel_69 : decode cX6_setQuarrel 69 = .ok (.iastore, 1) := by decide +kernel
theorem dX6_setQuarrel_70 : decode cX6_setQuarrel 70 = .ok (.return_, 1) := by decide +kernel
set_option maxRecDepth 20000 in
theorem ggX6_quarrel_X6_isOne : GoodIn wsX6_quarrel wsX6_isOne := goodIn_r _ [6, 7, 8, 9, 5, 10, 15, 16, 17, 18, 19, 20, 21, 22, 23, 24, 25, 26, 27, 28, 29, 30, 31, 32, 33, 34, 35, 36, 37, 38, 39, 40, 41, 42, 43, 44, 45, 46, 47, 48, 49, 50] (by decide +kernel) (by decide +kernel)
set_option maxRecDepth 20000 in
theorem gX6_quarrel_X6_isOne : GoodIn wsX6_quarrel (wsV RX6 91 RX6 yX6_isOne wsX6_isOne) := goodIn_app (goodIn_of _ (by decide +kernel)) ggX6_quarrel_X6_isOne
set_option maxRecDepth 20000 in
theorem ggX6_quarrel_X6_setQuarrel : GoodIn wsX6_quarrel wsX6_setQuarrel := goodIn_r _ [14, 1, 15, 16, 17, 18, 19, 20, 21, 22, 23, 24, 25, 26, 27, 28, 29, 30, 31, 32, 33, 34, 35, 36, 37, 38, 39, 40, 41, 42, 43, 44, 45, 46, 47, 48, 49, 50] (by decide +kernel) (by decide +kernel)
set_option maxRecDepth 20000 in
theorem gX6_quarrel_X6_setQuarrel : GoodIn wsX6_quarrel (wsV RX6 101 RX6 yX6_setQuarrel wsX6_setQuarrel) := goodIn_app (goodIn_of _ (by decide +kernel)) ggX6_quarrel_X6_setQuarrel
theorem dX6_quarrel_0 : decode cX6_quarrel 0 = .ok (.aload_n 0, 1) := by decide +kernel
theorem dX6_quarrel_1 : decode cX6_quarrel 1 = .ok (.iload_n 1, 1) := by decide +kernel
theorem dX6_quarrel_2 : decode cX6_quarrel 2 = .ok (.invokevirtual 91, 3) := by decide +kernel
theorem dX6_quarrel_5 : decode cX6_quarrel 5 = .ok (.ifCond .eq 16, 3) := by decide +kernel
theorem dX6_quarrel_8 : decode cX6_quarrel 8 = .ok (.aload_n 0, 1) := by decide +kernel
theorem dX6_quarrel_9 : decode cX6_quarrel 9 = .ok (.iload_n 2, 1) := by decide +kernel
theorem dX6_quarrel_10 : decode cX6_quarrel 10 = .ok (.invokevirtual 91, 3) := by decide +kernel
theorem dX6_quarrel_13 : decode cX6_quarrel 13 = .ok (.ifCond .eq 8, 3) := by decide +kernel
theorem dX6_quarrel_16 : decode cX6_quarrel 16 = .ok (.iload_n 1, 1) := by decide +kernel
theorem dX6_quarrel_17 : decode cX6_quarrel 17 = .ok (.iload_n 2, 1) := by decide +kernel
theorem dX6_quarrel_18 : decode cX6_quarrel 18 = .ok (.if_icmp .ne 5, 3) := by decide +kernel
theorem dX6_quarrel_21 : decode cX6_quarrel 21 = .ok (.iconst (-1), 1) := by decide +kernel
theorem dX6_quarrel_22 : decode cX6_quarrel 22 = .ok (.ireturn, 1) := by decide +kernel
theorem dX6_quarrel_23 : decode cX6_quarrel 23 = .ok (.aload_n 0, 1) := by decide +kernel
theorem dX6_quarrel_24 : decode cX6_quarrel 24 = .ok (.getfield 19, 3) := by decide +kernel
theorem dX6_quarrel_27 : decode cX6_quarrel 27 = .ok (.iload_n 1, 1) := by decide +kernel
theorem dX6_quarrel_28 : decode cX6_quarrel 28 = .ok (.iaload, 1) := by decide +kernel
theorem dX6_quarrel_29 : decode cX6_quarrel 29 = .ok (.iload_n 2, 1) := by decide +kernel
theorem dX6_quarrel_30 : decode cX6_quarrel 30 = .ok (.ishr, 1) := by decide +kernel
theorem dX6_quarrel_31 : decode cX6_quarrel 31 = .ok (.iconst 1, 1) := by decide +kernel
theorem dX6_quarrel_32 : decode cX6_quarrel 32 = .ok (.iand, 1) := by decide +kernel
theorem dX6_quarrel_33 : decode cX6_quarrel 33 = .ok (.istore 4, 2) := by decide +kernel
theorem dX6_quarrel_35 : decode cX6_quarrel 35 = .ok (.aload_n 0, 1) := by decide +kernel
theorem dX6_quarrel_36 : decode cX6_quarrel 36 = .ok (.iload_n 1, 1) := by decide +kernel
theorem dX6_quarrel_37 : decode cX6_quarrel 37 = .ok (.iload_n 2, 1) := by decide +kernel
theorem dX6_quarrel_38 : decode cX6_quarrel 38 = .ok (.iload_n 3, 1) := by decide +kernel
theorem dX6_quarrel_39 : decode cX6_quarrel 39 = .ok (.invokevirtual 101, 3) := by decide +kernel
theorem dX6_quarrel_42 : decode cX6_quarrel 42 = .ok (.iload 4, 2) := by decide +kernel
theorem dX6_quarrel_44 : decode cX6_quarrel 44 = .ok (.ireturn, 1) := by decide +kernel
set_option maxRecDepth 20000 in
theorem ggX6_set_X6_in : GoodIn wsX6_set wsX6_in := goodIn_r _ [11] (by decide +kernel) (by decide +kernel)
set_option maxRecDepth 20000 in
theorem gX6_set_X6_in : GoodIn wsX6_set (va_wsS RX6 75 yX6_in wsX6_in) := goodIn_app (goodIn_of _ (by decide +kernel)) ggX6_set_X6_in
set_option maxRecDepth 20000 in
theorem ggX6_set_X6_isMood : GoodIn wsX6_set wsX6_isMood := goodIn_r _ [14, 15, 3, 8, 9, 10, 11] (by decide +kernel) (by decide +kernel)
set_option maxRecDepth 20000 in
theorem gX6_set_X6_isMood : GoodIn wsX6_set (va_wsS RX6 107 yX6_isMood wsX6_isMood) := goodIn_app (goodIn_of _ (by decide +kernel)) ggX6_set_X6_isMood
theorem dX6_set_0 : decode cX6_set 0 = .ok (.iload_n 1, 1) := by decide +kernel
theorem dX6_set_1 : decode cX6_set 1 = .ok (.i2l, 1) := by decide +kernel
theorem dX6_set_2 : decode cX6_set 2 = .ok (.lconst 0, 1) := by decide +kernel
theorem dX6_set_3 : decode cX6_set 3 = .ok (.ldc2_w 105, 3) := by decide +kernel
theorem dX6_set_6 : decode cX6_set 6 = .ok (.invokestatic 75, 3) := by decide +kernel
theorem dX6_set_9 : decode cX6_set 9 = .ok (.ifCond .eq 40, 3) := by decide +kernel
theorem dX6_set_12 : decode cX6_set 12 = .ok (.iload_n 1, 1) := by decide +kernel
theorem dX6_set_13 : decode cX6_set 13 = .ok (.ifCond .ne 13, 3) := by decide +kernel
theorem dX6_set_16 : decode cX6_set 16 = .ok (.iload_n 2, 1) := by decide +kernel
theorem dX6_set_17 : decode cX6_set 17 = .ok (.invokestatic 107, 3) := by decide +kernel
theorem dX6_set_20 : decode cX6_set 20 = .ok (.ifCond .eq 29, 3) := by decide +kernel
theorem dX6_set_23 : decode cX6_set 23 = .ok (.goto 29, 3) := by decide +kernel
theorem dX6_set_26 : decode cX6_set 26 = .ok (.iload_n 2, 1) := by decide +kernel
theorem dX6_set_27 : decode cX6_set 27 = .ok (.i2l, 1) := by decide +kernel
theorem dX6_set_28 : decode cX6_set 28 = .ok (.lconst 0, 1) := by decide +kernel
theorem dX6_set_29 : decode cX6_set 29 = .ok (.iload_n 1, 1) := by decide +kernel
theorem dX6_set_30 : decode cX6_set 30 = .ok (.iconst 1, 1) := by decide +kernel
theorem dX6_set_31 : decode cX6_set 31 = .ok (.if_icmp .ne 9, 3) := by decide +kernel
theorem dX6_set_34 : decode cX6_set 34 = .ok (.ldc2_w 110, 3) := by decide +kernel
theorem dX6_set_37 : decode cX6_set 37 = .ok (.goto 6, 3) := by decide +kernel
theorem dX6_set_40 : decode cX6_set 40 = .ok (.ldc2_w 81, 3) := by decide +kernel
theorem dX6_set_43 : decode cX6_set 43 = .ok (.invokestatic 75, 3) := by decide +kernel
theorem dX6_set_46 : decode cX6_set 46 = .ok (.ifCond .ne 6, 3) := by decide +kernel
theorem dX6_set_49 : decode cX6_set 49 = .ok (.ldc 97, 2) := by decide +kernel
theorem dX6_set_51 : decode cX6_set 51 = .ok (.ireturn, 1) := by decide +kernel
theorem dX6_set_52 : decode cX6_set 52 = .ok (.iload_n 1, 1) := by decide +kernel
theorem dX6_set_53 : decode cX6_set 53 = .ok (.ifCond .ne 10, 3) := by decide +kernel
theorem dX6_set_56 : decode cX6_set 56 = .ok (.aload_n 0, 1) := by decide +kernel
theorem dX6_set_57 : decode cX6_set 57 = .ok (.getfield 112, 3) := by decide +kernel
theorem dX6_set_60 : decode cX6_set 60 = .ok (.goto 19, 3) := by decide +kernel
theorem dX6_set_63 : decode cX6_set 63 = .ok (.iload_n 1, 1) := by decide +kernel
theorem dX6_set_64 : decode cX6_set 64 = .ok (.iconst 1, 1) := by decide +kernel
theorem dX6_set_65 : decode cX6_set 65 = .ok (.if_icmp .ne 10, 3) := by decide +kernel
theorem dX6_set_68 : decode cX6_set 68 = .ok (.aload_n 0, 1) := by decide +kernel
theorem dX6_set_69 : decode cX6_set 69 = .ok (.getfield 25, 3) := by decide +kernel
theorem dX6_set_72 : decode cX6_set 72 = .ok (.goto 7, 3) := by decide +kernel
theorem dX6_set_75 : decode cX6_set 75 = .ok (.aload_n 0, 1) := by decide +kernel
theorem dX6_set_76 : decode cX6_set 76 = .ok (.getfield 29, 3) := by decide +kernel
theorem dX6_set_79 : decode cX6_set 79 = .ok (.istore_n 3, 1) := by decide +kernel
theorem dX6_set_80 : decode cX6_set 80 = .ok (.aload_n 0, 1) := by decide +kernel
theorem dX6_set_81 : decode cX6_set 81 = .ok (.iload_n 1, 1) := by decide +kernel
theorem dX6_set_82 : decode cX6_set 82 = .ok (.ifCond .ne 7, 3) := by decide +kernel
theorem dX6_set_85 : decode cX6_set 85 = .ok (.iload_n 2, 1) := by decide +kernel
theorem dX6_set_86 : decode cX6_set 86 = .ok (.goto 7, 3) := by decide +kernel
theorem dX6_set_89 : decode cX6_set 89 = .ok (.aload_n 0, 1) := by decide +kernel
theorem dX6_set_90 : decode cX6_set 90 = .ok (.getfield 112, 3) := by decide +kernel
theorem dX6_set_93 : decode cX6_set 93 = .ok (.putfield 112, 3) := by decide +kernel
theorem dX6_set_96 : decode cX6_set 96 = .ok (.aload_n 0, 1) := by decide +kernel
theorem dX6_set_97 : decode cX6_set 97 = .ok (.iload_n 1, 1) := by decide +kernel
theorem dX6_set_98 : decode cX6_set 98 = .ok (.iconst 1, 1) := by decide +kernel
theorem dX6_set_99 : decode cX6_set 99 = .ok (.if_icmp .ne 7, 3) := by decide +kernel
theorem dX6_set_102 : decode cX6_set 102 = .ok (.iload_n 2, 1) := by decide +kernel
theorem dX6_set_103 : decode cX6_set 103 = .ok (.goto 7, 3) := by decide +kernel
theorem dX6_set_106 : decode cX6_set 106 = .ok (.aload_n 0, 1) := by decide +kernel
theorem dX6_set_107 : decode cX6_set 107 = .ok (.getfield 25, 3) := by decide +kernel
theorem dX6_set_110 : decode cX6_set 110 = .ok (.putfield 25, 3) := by decide +kernel
theorem dX6_set_113 : decode cX6_set 113 = .ok (.aload_n 0, 1) := by decide +kernel
theorem dX6_set_114 : decode cX6_set 114 = .ok (.iload_n 1, 1) := by decide +kernel
theorem dX6_set_115 : decode cX6_set 115 = .ok (.iconst 2, 1) := by decide +kernel
theorem dX6_set_116 : decode cX6_set 116 = .ok (.if_icmp .ne 7, 3) := by decide +kernel
theorem dX6_set_119 : decode cX6_set 119 = .ok (.iload_n 2, 1) := by decide +kernel
theorem dX6_set_120 : decode cX6_set 120 = .ok (.goto 7, 3) := by decide +kernel
theorem dX6_set_123 : decode cX6_set 123 = .ok (.aload_n 0, 1) := by decide +kernel
theorem dX6_set_124 : decode cX6_set 124 = .ok (.getfield 29, 3) := by decide +kernel
theorem dX6_set_127 : decode cX6_set 127 = .ok (.putfield 29, 3) := by decide +kernel
theorem dX6_set_130 : decode cX6_set 130 = .ok (.iload_n 3, 1) := by decide +kernel
theorem dX6_set_131 : decode cX6_set 131 = .ok (.ireturn, 1) := by decide +kernel
theorem dX6_is_0 : decode cX6_is 0 = .ok (.iload_n 1, 1) := by decide +kernel
theorem dX6_is_1 : decode cX6_is 1 = .ok (.tableswitch 96 0 8 #[51, 56, 61, 66, 71, 76, 81, 86, 91], 51) := by decide +kernel
theorem dX6_is_52 : decode cX6_is 52 = .ok (.aload_n 0, 1) := by decide +kernel
theorem dX6_is_53 : decode cX6_is 53 = .ok (.getfield 112, 3) := by decide +kernel
theorem dX6_is_56 : decode cX6_is 56 = .ok (.ireturn, 1) := by decide +kernel
theorem dX6_is_57 : decode cX6_is 57 = .ok (.aload_n 0, 1) := by decide +kernel
theorem dX6_is_58 : decode cX6_is 58 = .ok (.getfield 25, 3) := by decide +kernel
theorem dX6_is_61 : decode cX6_is 61 = .ok (.ireturn, 1) := by decide +kernel
theorem dX6_is_62 : decode cX6_is 62 = .ok (.aload_n 0, 1) := by decide +kernel
theorem dX6_is_63 : decode cX6_is 63 = .ok (.getfield 29, 3) := by decide +kernel
theorem dX6_is_66 : decode cX6_is 66 = .ok (.ireturn, 1) := by decide +kernel
theorem dX6_is_67 : decode cX6_is 67 = .ok (.aload_n 0, 1) := by decide +kernel
theorem dX6_is_68 : decode cX6_is 68 = .ok (.getfield 115, 3) := by decide +kernel
theorem dX6_is_71 : decode cX6_is 71 = .ok (.ireturn, 1) := by decide +kernel
theorem dX6_is_72 : decode cX6_is 72 = .ok (.aload_n 0, 1) := by decide +kernel
theorem dX6_is_73 : decode cX6_is 73 = .ok (.getfield 118, 3) := by decide +kernel
theorem dX6_is_76 : decode cX6_is 76 = .ok (.ireturn, 1) := by decide +kernel
theorem dX6_is_77 : decode cX6_is 77 = .ok (.aload_n 0, 1) := by decide +kernel
theorem dX6_is_78 : decode cX6_is 78 = .ok (.getfield 98, 3) := by decide +kernel
theorem dX6_is_81 : decode cX6_is 81 = .ok (.ireturn, 1) := by decide +kernel
theorem dX6_is_82 : decode cX6_is 82 = .ok (.aload_n 0, 1) := by decide +kernel
theorem dX6_is_83 : decode cX6_is 83 = .ok (.getfield 72, 3) := by decide +kernel
theorem dX6_is_86 : decode cX6_is 86 = .ok (.ireturn, 1) := by decide +kernel
theorem dX6_is_87 : decode cX6_is 87 = .ok (.aload_n 0, 1) := by decide +kernel
theorem dX6_is_88 : decode cX6_is 88 = .ok (.getfield 121, 3) := by decide +kernel
theorem dX6_is_91 : decode cX6_is 91 = .ok (.ireturn, 1) := by decide +kernel
theorem dX6_is_92 : decode cX6_is 92 = .ok (.aload_n 0, 1) := by decide +kernel
theorem dX6_is_93 : decode cX6_is 93 = .ok (.getfield 32, 3) := by decide +kernel
theorem dX6_is_96 : decode cX6_is 96 = .ok (.ireturn, 1) := by decide +kernel
theorem dX6_is_97 : decode cX6_is 97 = .ok (.ldc 97, 2) := by decide +kernel
theorem dX6_is_99 : decode cX6_is 99 = .ok (.ireturn, 1) := by decide +kernel
set_option maxRecDepth 20000 in
theorem ggX6_type_X6_in : GoodIn wsX6_type wsX6_in := goodIn_r _ [10] (by decide +kernel) (by decide +kernel)
set_option maxRecDepth 20000 in
theorem gX6_type_X6_in : GoodIn wsX6_type (va_wsS RX6 75 yX6_in wsX6_in) := goodIn_app (goodIn_of _ (by decide +kernel)) ggX6_type_X6_in
theorem dX6_type_0 : decode cX6_type 0 = .ok (.iload_n 3, 1) := by decide +kernel
theorem dX6_type_1 : decode cX6_type 1 = .ok (.i2l, 1) := by decide +kernel
theorem dX6_type_2 : decode cX6_type 2 = .ok (.lconst 1, 1) := by decide +kernel
theorem dX6_type_3 : decode cX6_type 3 = .ok (.ldc2_w 124, 3) := by decide +kernel
theorem dX6_type_6 : decode cX6_type 6 = .ok (.invokestatic 75, 3) := by decide +kernel
theorem dX6_type_9 : decode cX6_type 9 = .ok (.ifCond .ne 5, 3) := by decide +kernel
theorem dX6_type_12 : decode cX6_type 12 = .ok (.iconst (-1), 1) := by decide +kernel
theorem dX6_type_13 : decode cX6_type 13 = .ok (.ireturn, 1) := by decide +kernel
theorem dX6_type_14 : decode cX6_type 14 = .ok (.iload_n 3, 1) := by decide +kernel
theorem dX6_type_15 : decode cX6_type 15 = .ok (.iconst 1, 1) := by decide +kernel
theorem dX6_type_16 : decode cX6_type 16 = .ok (.isub, 1) := by decide +kernel
theorem dX6_type_17 : decode cX6_type 17 = .ok (.istore 4, 2) := by decide +kernel
theorem dX6_type_19 : decode cX6_type 19 = .ok (.iload 4, 2) := by decide +kernel
theorem dX6_type_21 : decode cX6_type 21 = .ok (.ifCond .lt 34, 3) := by decide +kernel
theorem dX6_type_24 : decode cX6_type 24 = .ok (.lload_n 1, 1) := by decide +kernel
theorem dX6_type_25 : decode cX6_type 25 = .ok (.bipush 8, 2) := by decide +kernel
theorem dX6_type_27 : decode cX6_type 27 = .ok (.iload 4, 2) := by decide +kernel
theorem dX6_type_29 : decode cX6_type 29 = .ok (.imul, 1) := by decide +kernel
theorem dX6_type_30 : decode cX6_type 30 = .ok (.lshr, 1) := by decide +kernel
theorem dX6_type_31 : decode cX6_type 31 = .ok (.ldc2_w 126, 3) := by decide +kernel
theorem dX6_type_34 : decode cX6_type 34 = .ok (.land, 1) := by decide +kernel
theorem dX6_type_35 : decode cX6_type 35 = .ok (.ldc2_w 128, 3) := by decide +kernel
theorem dX6_type_38 : decode cX6_type 38 = .ok (.ldc2_w 130, 3) := by decide +kernel
theorem dX6_type_41 : decode cX6_type 41 = .ok (.invokestatic 75, 3) := by decide +kernel
theorem dX6_type_44 : decode cX6_type 44 = .ok (.ifCond .ne 5, 3) := by decide +kernel
theorem dX6_type_47 : decode cX6_type 47 = .ok (.iconst (-1), 1) := by decide +kernel
theorem dX6_type_48 : decode cX6_type 48 = .ok (.ireturn, 1) := by decide +kernel
theorem dX6_type_49 : decode cX6_type 49 = .ok (.iinc 4 (-1), 3) := by decide +kernel
theorem dX6_type_52 : decode cX6_type 52 = .ok (.goto (-33), 3) := by decide +kernel
theorem dX6_type_55 : decode cX6_type 55 = .ok (.aload_n 0, 1) := by decide +kernel
theorem dX6_type_56 : decode cX6_type 56 = .ok (.getfield 132, 3) := by decide +kernel
theorem dX6_type_59 : decode cX6_type 59 = .ok (.iload_n 3, 1) := by decide +kernel
theorem dX6_type_60 : decode cX6_type 60 = .ok (.iadd, 1) := by decide +kernel
theorem dX6_type_61 : decode cX6_type 61 = .ok (.bipush 60, 2) := by decide +kernel
theorem dX6_type_63 : decode cX6_type 63 = .ok (.if_icmp .le 6, 3) := by decide +kernel
theorem dX6_type_66 : decode cX6_type 66 = .ok (.bipush (-3), 2) := by decide +kernel
theorem dX6_type_68 : decode cX6_type 68 = .ok (.ireturn, 1) := by decide +kernel
theorem dX6_type_69 : decode cX6_type 69 = .ok (.iload_n 3, 1) := by decide +kernel
theorem dX6_type_70 : decode cX6_type 70 = .ok (.iconst 1, 1) := by decide +kernel
theorem dX6_type_71 : decode cX6_type 71 = .ok (.isub, 1) := by decide +kernel
theorem dX6_type_72 : decode cX6_type 72 = .ok (.istore 4, 2) := by decide +kernel
theorem dX6_type_74 : decode cX6_type 74 = .ok (.iload 4, 2) := by decide +kernel
theorem dX6_type_76 : decode cX6_type 76 = .ok (.ifCond .lt 40, 3) := by decide +kernel
theorem dX6_type_79 : decode cX6_type 79 = .ok (.aload_n 0, 1) := by decide +kernel
theorem dX6_type_80 : decode cX6_type 80 = .ok (.getfield 41, 3) := by decide +kernel
theorem dX6_type_83 : decode cX6_type 83 = .ok (.aload_n 0, 1) := by decide +kernel
theorem dX6_type_84 : decode cX6_type 84 = .ok (.getfield 132, 3) := by decide +kernel
theorem dX6_type_87 : decode cX6_type 87 = .ok (.lload_n 1, 1) := by decide +kernel
theorem dX6_type_88 : decode cX6_type 88 = .ok (.bipush 8, 2) := by decide +kernel
theorem dX6_type_90 : decode cX6_type 90 = .ok (.iload 4, 2) := by decide +kernel
theorem dX6_type_92 : decode cX6_type 92 = .ok (.imul, 1) := by decide +kernel
theorem dX6_type_93 : decode cX6_type 93 = .ok (.lshr, 1) := by decide +kernel
theorem dX6_type_94 : decode cX6_type 94 = .ok (.ldc2_w 126, 3) := by decide +kernel
theorem dX6_type_97 : decode cX6_type 97 = .ok (.land, 1) := by decide +kernel
theorem dX6_type_98 : decode cX6_type 98 = .ok (.l2i, 1) := by decide +kernel
theorem dX6_type_99 : decode cX6_type 99 = .ok (.iastore, 1) := by decide +kernel
theorem dX6_type_100 : decode cX6_type 100 = .ok (.aload_n 0, 1) := by decide +kernel
theorem dX6_type_101 : decode cX6_type 101 = .ok (.dup, 1) := by decide +kernel
theorem dX6_type_102 : decode cX6_type 102 = .ok (.getfield 132, 3) := by decide +kernel
theorem dX6_type_105 : decode cX6_type 105 = .ok (.iconst 1, 1) := by decide +kernel
theorem dX6_type_106 : decode cX6_type 106 = .ok (.iadd, 1) := by decide +kernel
theorem dX6_type_107 : decode cX6_type 107 = .ok (.putfield 132, 3) := by decide +kernel
theorem dX6_type_110 : decode cX6_type 110 = .ok (.iinc 4 (-1), 3) := by decide +kernel
theorem dX6_type_113 : decode cX6_type 113 = .ok (.goto (-39), 3) := by decide +kernel
theorem dX6_type_116 : decode cX6_type 116 = .ok (.aload_n 0, 1) := by decide +kernel
theorem dX6_type_117 : decode cX6_type 117 = .ok (.getfield 132, 3) := by decide +kernel
theorem dX6_type_120 : decode cX6_type 120 = .ok (.ireturn, 1) := by decide +kernel
theorem dX6_nextByte_0 : decode cX6_nextByte 0 = .ok (.aload_n 0, 1) := by decide +kernel
theorem dX6_nextByte_1 : decode cX6_nextByte 1 = .ok (.getfield 135, 3) := by decide +kernel
theorem dX6_nextByte_4 : decode cX6_nextByte 4 = .ok (.aload_n 0, 1) := by decide +kernel
theorem dX6_nextByte_5 : decode cX6_nextByte 5 = .ok (.getfield 132, 3) := by decide +kernel
theorem dX6_nextByte_8 : decode cX6_nextByte 8 = .ok (.if_icmp .ge 30, 3) := by decide +kernel
theorem dX6_nextByte_11 : decode cX6_nextByte 11 = .ok (.aload_n 0, 1) := by decide +kernel
theorem dX6_nextByte_12 : decode cX6_nextByte 12 = .ok (.getfield 41, 3) := by decide +kernel
theorem dX6_nextByte_15 : decode cX6_nextByte 15 = .ok (.aload_n 0, 1) := by decide +kernel
theorem dX6_nextByte_16 : decode cX6_nextByte 16 = .ok (.getfield 135, 3) := by decide +kernel
theorem dX6_nextByte_19 : decode cX6_nextByte 19 = .ok (.iaload, 1) := by decide +kernel
theorem dX6_nextByte_20 : decode cX6_nextByte 20 = .ok (.bipush 32, 2) := by decide +kernel
theorem dX6_nextByte_22 : decode cX6_nextByte 22 = .ok (.if_icmp .ne 16, 3) := by decide +kernel
theorem dX6_nextByte_25 : decode cX6_nextByte 25 = .ok (.aload_n 0, 1) := by decide +kernel
theorem dX6_nextByte_26 : decode cX6_nextByte 26 = .ok (.dup, 1) := by decide +kernel
theorem dX6_nextByte_27 : decode cX6_nextByte 27 = .ok (.getfield 135, 3) := by decide +kernel
theorem dX6_nextByte_30 : decode cX6_nextByte 30 = .ok (.iconst 1, 1) := by decide +kernel
theorem dX6_nextByte_31 : decode cX6_nextByte 31 = .ok (.iadd, 1) := by decide +kernel
theorem dX6_nextByte_32 : decode cX6_nextByte 32 = .ok (.putfield 135, 3) := by decide +kernel
theorem dX6_nextByte_35 : decode cX6_nextByte 35 = .ok (.goto (-35), 3) := by decide +kernel
theorem dX6_nextByte_38 : decode cX6_nextByte 38 = .ok (.aload_n 0, 1) := by decide +kernel
theorem dX6_nextByte_39 : decode cX6_nextByte 39 = .ok (.getfield 135, 3) := by decide +kernel
theorem dX6_nextByte_42 : decode cX6_nextByte 42 = .ok (.aload_n 0, 1) := by decide +kernel
theorem dX6_nextByte_43 : decode cX6_nextByte 43 = .ok (.getfield 132, 3) := by decide +kernel
theorem dX6_nextByte_46 : decode cX6_nextByte 46 = .ok (.if_icmp .ge 15, 3) := by decide +kernel
theorem dX6_nextByte_49 : decode cX6_nextByte 49 = .ok (.aload_n 0, 1) := by decide +kernel
theorem dX6_nextByte_50 : decode cX6_nextByte 50 = .ok (.getfield 41, 3) := by decide +kernel
theorem dX6_nextByte_53 : decode cX6_nextByte 53 = .ok (.aload_n 0, 1) := by decide +kernel
theorem dX6_nextByte_54 : decode cX6_nextByte 54 = .ok (.getfield 135, 3) := by decide +kernel
theorem dX6_nextByte_57 : decode cX6_nextByte 57 = .ok (.iaload, 1) := by decide +kernel
theorem dX6_nextByte_58 : decode cX6_nextByte 58 = .ok (.goto 4, 3) := by decide +kernel
theorem dX6_nextByte_61 : decode cX6_nextByte 61 = .ok (.iconst (-1), 1) := by decide +kernel
theorem dX6_nextByte_62 : decode cX6_nextByte 62 = .ok (.ireturn, 1) := by decide +kernel
set_option maxRecDepth 20000 in
theorem ggX6_readDigit_X6_nextByte : GoodIn wsX6_readDigit wsX6_nextByte := goodIn_r _ [6, 1, 7, 8, 12, 13, 14, 15, 16, 17, 18, 19, 20, 21, 22, 23, 24, 25, 26, 27, 28, 29, 30, 31, 32, 33, 34, 35, 36, 37, 38, 39, 40, 41, 42, 43, 44, 45, 46, 47] (by decide +kernel) (by decide +kernel)
set_option maxRecDepth 20000 in
theorem gX6_readDigit_X6_nextByte : GoodIn wsX6_readDigit (wsV RX6 138 RX6 yX6_nextByte wsX6_nextByte) := goodIn_app (goodIn_of _ (by decide +kernel)) ggX6_readDigit_X6_nextByte
set_option maxRecDepth 20000 in
theorem ggX6_readDigit_X6_in : GoodIn wsX6_readDigit wsX6_in := goodIn_r _ [11] (by decide +kernel) (by decide +kernel)
set_option maxRecDepth 20000 in
theorem gX6_readDigit_X6_in : GoodIn wsX6_readDigit (va_wsS RX6 75 yX6_in wsX6_in) := goodIn_app (goodIn_of _ (by decide +kernel)) ggX6_readDigit_X6_in
theorem dX6_readDigit_0 : decode cX6_readDigit 0 = .ok (.aload_n 0, 1) := by decide +kernel
theorem dX6_readDigit_1 : decode cX6_readDigit 1 = .ok (.invokevirtual 138, 3) := by decide +kernel
theorem dX6_readDigit_4 : decode cX6_readDigit 4 = .ok (.bipush 48, 2) := by decide +kernel
theorem dX6_readDigit_6 : decode cX6_readDigit 6 = .ok (.isub, 1) := by decide +kernel
theorem dX6_readDigit_7 : decode cX6_readDigit 7 = .ok (.istore_n 3, 1) := by decide +kernel
theorem dX6_readDigit_8 : decode cX6_readDigit 8 = .ok (.iload_n 3, 1) := by decide +kernel
theorem dX6_readDigit_9 : decode cX6_readDigit 9 = .ok (.i2l, 1) := by decide +kernel
theorem dX6_readDigit_10 : decode cX6_readDigit 10 = .ok (.iload_n 1, 1) := by decide +kernel
theorem dX6_readDigit_11 : decode cX6_readDigit 11 = .ok (.i2l, 1) := by decide +kernel
theorem dX6_readDigit_12 : decode cX6_readDigit 12 = .ok (.iload_n 2, 1) := by decide +kernel
theorem dX6_readDigit_13 : decode cX6_readDigit 13 = .ok (.i2l, 1) := by decide +kernel
theorem dX6_readDigit_14 : decode cX6_readDigit 14 = .ok (.invokestatic 75, 3) := by decide +kernel
theorem dX6_readDigit_17 : decode cX6_readDigit 17 = .ok (.ifCond .ne 5, 3) := by decide +kernel
theorem dX6_readDigit_20 : decode cX6_readDigit 20 = .ok (.iconst (-1), 1) := by decide +kernel
theorem dX6_readDigit_21 : decode cX6_readDigit 21 = .ok (.ireturn, 1) := by decide +kernel
theorem dX6_readDigit_22 : decode cX6_readDigit 22 = .ok (.aload_n 0, 1) := by decide +kernel
theorem dX6_readDigit_23 : decode cX6_readDigit 23 = .ok (.dup, 1) := by decide +kernel
theorem dX6_readDigit_24 : decode cX6_readDigit 24 = .ok (.getfield 135, 3) := by decide +kernel
theorem dX6_readDigit_27 : decode cX6_readDigit 27 = .ok (.iconst 1, 1) := by decide +kernel
theorem dX6_readDigit_28 : decode cX6_readDigit 28 = .ok (.iadd, 1) := by decide +kernel
theorem dX6_readDigit_29 : decode cX6_readDigit 29 = .ok (.putfield 135, 3) := by decide +kernel
theorem dX6_readDigit_32 : decode cX6_readDigit 32 = .ok (.iload_n 3, 1) := by decide +kernel
theorem dX6_readDigit_33 : decode cX6_readDigit 33 = .ok (.ireturn, 1) := by decide +kernel
set_option maxRecDepth 20000 in
theorem ggX6_readOne_X6_nextByte : GoodIn wsX6_readOne wsX6_nextByte := goodIn_r _ [7, 2, 8, 9, 17, 18, 19, 20, 21, 22, 23, 24, 25, 26, 27, 28, 29, 30, 31, 32, 33, 34, 35, 36, 37, 38, 39, 40, 41, 42, 43, 44, 45, 46, 47, 48, 49, 50, 51, 52] (by decide +kernel) (by decide +kernel)
set_option maxRecDepth 20000 in
theorem gX6_readOne_X6_nextByte : GoodIn wsX6_readOne (wsV RX6 138 RX6 yX6_nextByte wsX6_nextByte) := goodIn_app (goodIn_of _ (by decide +kernel)) ggX6_readOne_X6_nextByte
set_option maxRecDepth 20000 in
theorem ggX6_readOne_X6_readDigit : GoodIn wsX6_readOne wsX6_readDigit := goodIn_r _ [13, 2, 3, 4, 5, 6, 7, 8, 9, 14, 15, 16, 17, 18, 19, 20, 21, 22, 23, 24, 25, 26, 27, 28, 29, 30, 31, 32, 33, 34, 35, 36, 37, 38, 39, 40, 41, 42, 43, 44, 45, 46, 47, 48, 49, 50, 51, 52] (by decide +kernel) (by decide +kernel)
set_option maxRecDepth 20000 in
theorem gX6_readOne_X6_readDigit : GoodIn wsX6_readOne (wsV RX6 142 RX6 yX6_readDigit wsX6_readDigit) := goodIn_app (goodIn_of _ (by decide +kernel)) ggX6_readOne_X6_readDigit
theorem dX6_readOne_0 : decode cX6_readOne 0 = .ok (.aload_n 0, 1) := by decide +kernel
theorem dX6_readOne_1 : decode cX6_readOne 1 = .ok (.invokevirtual 138, 3) := by decide +kernel
theorem dX6_readOne_4 : decode cX6_readOne 4 = .ok (.istore_n 2, 1) := by decide +kernel
theorem dX6_readOne_5 : decode cX6_readOne 5 = .ok (.aload_n 0, 1) := by decide +kernel
theorem dX6_readOne_6 : decode cX6_readOne 6 = .ok (.getfield 44, 3) := by decide +kernel
theorem dX6_readOne_9 : decode cX6_readOne 9 = .ok (.iload_n 1, 1) := by decide +kernel
theorem dX6_readOne_10 : decode cX6_readOne 10 = .ok (.iload_n 2, 1) := by decide +kernel
theorem dX6_readOne_11 : decode cX6_readOne 11 = .ok (.bipush 112, 2) := by decide +kernel
theorem dX6_readOne_13 : decode cX6_readOne 13 = .ok (.if_icmp .ne 7, 3) := by decide +kernel
theorem dX6_readOne_16 : decode cX6_readOne 16 = .ok (.iconst 0, 1) := by decide +kernel
theorem dX6_readOne_17 : decode cX6_readOne 17 = .ok (.goto 34, 3) := by decide +kernel
theorem dX6_readOne_20 : decode cX6_readOne 20 = .ok (.iload_n 2, 1) := by decide +kernel
theorem dX6_readOne_21 : decode cX6_readOne 21 = .ok (.bipush 115, 2) := by decide +kernel
theorem dX6_readOne_23 : decode cX6_readOne 23 = .ok (.if_icmp .ne 7, 3) := by decide +kernel
theorem dX6_readOne_26 : decode cX6_readOne 26 = .ok (.iconst 1, 1) := by decide +kernel
theorem dX6_readOne_27 : decode cX6_readOne 27 = .ok (.goto 24, 3) := by decide +kernel
theorem dX6_readOne_30 : decode cX6_readOne 30 = .ok (.iload_n 2, 1) := by decide +kernel
theorem dX6_readOne_31 : decode cX6_readOne 31 = .ok (.bipush 118, 2) := by decide +kernel
theorem dX6_readOne_33 : decode cX6_readOne 33 = .ok (.if_icmp .ne 7, 3) := by decide +kernel
theorem dX6_readOne_36 : decode cX6_readOne 36 = .ok (.iconst 2, 1) := by decide +kernel
theorem dX6_readOne_37 : decode cX6_readOne 37 = .ok (.goto 14, 3) := by decide +kernel
theorem dX6_readOne_40 : decode cX6_readOne 40 = .ok (.iload_n 2, 1) := by decide +kernel
theorem dX6_readOne_41 : decode cX6_readOne 41 = .ok (.bipush 109, 2) := by decide +kernel
theorem dX6_readOne_43 : decode cX6_readOne 43 = .ok (.if_icmp .ne 7, 3) := by decide +kernel
theorem dX6_readOne_46 : decode cX6_readOne 46 = .ok (.iconst 3, 1) := by decide +kernel
theorem dX6_readOne_47 : decode cX6_readOne 47 = .ok (.goto 4, 3) := by decide +kernel
theorem dX6_readOne_50 : decode cX6_readOne 50 = .ok (.iconst (-1), 1) := by decide +kernel
theorem dX6_readOne_51 : decode cX6_readOne 51 = .ok (.iastore, 1) := by decide +kernel
theorem dX6_readOne_52 : decode cX6_readOne 52 = .ok (.aload_n 0, 1) := by decide +kernel
theorem dX6_readOne_53 : decode cX6_readOne 53 = .ok (.getfield 44, 3) := by decide +kernel
theorem dX6_readOne_56 : decode cX6_readOne 56 = .ok (.iload_n 1, 1) := by decide +kernel
theorem dX6_readOne_57 : decode cX6_readOne 57 = .ok (.iaload, 1) := by decide +kernel
theorem dX6_readOne_58 : decode cX6_readOne 58 = .ok (.ifCond .ge 5, 3) := by decide +kernel
theorem dX6_readOne_61 : decode cX6_readOne 61 = .ok (.iconst 0, 1) := by decide +kernel
theorem dX6_readOne_62 : decode cX6_readOne 62 = .ok (.ireturn, 1) := by decide +kernel
theorem dX6_readOne_63 : decode cX6_readOne 63 = .ok (.aload_n 0, 1) := by decide +kernel
theorem dX6_readOne_64 : decode cX6_readOne 64 = .ok (.dup, 1) := by decide +kernel
theorem dX6_readOne_65 : decode cX6_readOne 65 = .ok (.getfield 135, 3) := by decide +kernel
theorem dX6_readOne_68 : decode cX6_readOne 68 = .ok (.iconst 1, 1) := by decide +kernel
theorem dX6_readOne_69 : decode cX6_readOne 69 = .ok (.iadd, 1) := by decide +kernel
theorem dX6_readOne_70 : decode cX6_readOne 70 = .ok (.putfield 135, 3) := by decide +kernel
theorem dX6_readOne_73 : decode cX6_readOne 73 = .ok (.aload_n 0, 1) := by decide +kernel
theorem dX6_readOne_74 : decode cX6_readOne 74 = .ok (.getfield 44, 3) := by decide +kernel
theorem dX6_readOne_77 : decode cX6_readOne 77 = .ok (.iload_n 1, 1) := by decide +kernel
theorem dX6_readOne_78 : decode cX6_readOne 78 = .ok (.iconst 1, 1) := by decide +kernel
theorem dX6_readOne_79 : decode cX6_readOne 79 = .ok (.iadd, 1) := by decide +kernel
theorem dX6_readOne_80 : decode cX6_readOne 80 = .ok (.iconst 0, 1) := by decide +kernel
theorem dX6_readOne_81 : decode cX6_readOne 81 = .ok (.iastore, 1) := by decide +kernel
theorem dX6_readOne_82 : decode cX6_readOne 82 = .ok (.aload_n 0, 1) := by decide +kernel
theorem dX6_readOne_83 : decode cX6_readOne 83 = .ok (.invokevirtual 138, 3) := by decide +kernel
theorem dX6_readOne_86 : decode cX6_readOne 86 = .ok (.istore_n 3, 1) := by decide +kernel
theorem dX6_readOne_87 : decode cX6_readOne 87 = .ok (.iload_n 3, 1) := by decide +kernel
theorem dX6_readOne_88 : decode cX6_readOne 88 = .ok (.bipush 43, 2) := by decide +kernel
theorem dX6_readOne_90 : decode cX6_readOne 90 = .ok (.if_icmp .eq 9, 3) := by decide +kernel
theorem dX6_readOne_93 : decode cX6_readOne 93 = .ok (.iload_n 3, 1) := by decide +kernel
theorem dX6_readOne_94 : decode cX6_readOne 94 = .ok (.bipush 45, 2) := by decide +kernel
theorem dX6_readOne_96 : decode cX6_readOne 96 = .ok (.if_icmp .ne 50, 3) := by decide +kernel
theorem dX6_readOne_99 : decode cX6_readOne 99 = .ok (.aload_n 0, 1) := by decide +kernel
theorem dX6_readOne_100 : decode cX6_readOne 100 = .ok (.dup, 1) := by decide +kernel
theorem dX6_readOne_101 : decode cX6_readOne 101 = .ok (.getfield 135, 3) := by decide +kernel
theorem dX6_readOne_104 : decode cX6_readOne 104 = .ok (.iconst 1, 1) := by decide +kernel
theorem dX6_readOne_105 : decode cX6_readOne 105 = .ok (.iadd, 1) := by decide +kernel
theorem dX6_readOne_106 : decode cX6_readOne 106 = .ok (.putfield 135, 3) := by decide +kernel
theorem dX6_readOne_109 : decode cX6_readOne 109 = .ok (.aload_n 0, 1) := by decide +kernel
theorem dX6_readOne_110 : decode cX6_readOne 110 = .ok (.iconst 0, 1) := by decide +kernel
theorem dX6_readOne_111 : decode cX6_readOne 111 = .ok (.iconst 3, 1) := by decide +kernel
theorem dX6_readOne_112 : decode cX6_readOne 112 = .ok (.invokevirtual 142, 3) := by decide +kernel
theorem dX6_readOne_115 : decode cX6_readOne 115 = .ok (.istore 4, 2) := by decide +kernel
theorem dX6_readOne_117 : decode cX6_readOne 117 = .ok (.iload 4, 2) := by decide +kernel
theorem dX6_readOne_119 : decode cX6_readOne 119 = .ok (.ifCond .ge 5, 3) := by decide +kernel
theorem dX6_readOne_122 : decode cX6_readOne 122 = .ok (.iconst 0, 1) := by decide +kernel
theorem dX6_readOne_123 : decode cX6_readOne 123 = .ok (.ireturn, 1) := by decide +kernel
theorem dX6_readOne_124 : decode cX6_readOne 124 = .ok (.aload_n 0, 1) := by decide +kernel
theorem dX6_readOne_125 : decode cX6_readOne 125 = .ok (.getfield 44, 3) := by decide +kernel
theorem dX6_readOne_128 : decode cX6_readOne 128 = .ok (.iload_n 1, 1) := by decide +kernel
theorem dX6_readOne_129 : decode cX6_readOne 129 = .ok (.iconst 1, 1) := by decide +kernel
theorem dX6_readOne_130 : decode cX6_readOne 130 = .ok (.iadd, 1) := by decide +kernel
theorem dX6_readOne_131 : decode cX6_readOne 131 = .ok (.iload_n 3, 1) := by decide +kernel
theorem dX6_readOne_132 : decode cX6_readOne 132 = .ok (.bipush 43, 2) := by decide +kernel
theorem dX6_readOne_134 : decode cX6_readOne 134 = .ok (.if_icmp .ne 8, 3) := by decide +kernel
theorem dX6_readOne_137 : decode cX6_readOne 137 = .ok (.iload 4, 2) := by decide +kernel
theorem dX6_readOne_139 : decode cX6_readOne 139 = .ok (.goto 6, 3) := by decide +kernel
theorem dX6_readOne_142 : decode cX6_readOne 142 = .ok (.iload 4, 2) := by decide +kernel
theorem dX6_readOne_144 : decode cX6_readOne 144 = .ok (.ineg, 1) := by decide +kernel
theorem dX6_readOne_145 : decode cX6_readOne 145 = .ok (.iastore, 1) := by decide +kernel
theorem dX6_readOne_146 : decode cX6_readOne 146 = .ok (.aload_n 0, 1) := by decide +kernel
theorem dX6_readOne_147 : decode cX6_readOne 147 = .ok (.getfield 44, 3) := by decide +kernel
theorem dX6_readOne_150 : decode cX6_readOne 150 = .ok (.iload_n 1, 1) := by decide +kernel
theorem dX6_readOne_151 : decode cX6_readOne 151 = .ok (.iconst 2, 1) := by decide +kernel
theorem dX6_readOne_152 : decode cX6_readOne 152 = .ok (.iadd, 1) := by decide +kernel
theorem dX6_readOne_153 : decode cX6_readOne 153 = .ok (.iconst 1, 1) := by decide +kernel
theorem dX6_readOne_154 : decode cX6_readOne 154 = .ok (.iastore, 1) := by decide +kernel
theorem dX6_readOne_155 : decode cX6_readOne 155 = .ok (.aload_n 0, 1) := by decide +kernel
theorem dX6_readOne_156 : decode cX6_readOne 156 = .ok (.invokevirtual 138, 3) := by decide +kernel
theorem dX6_readOne_159 : decode cX6_readOne 159 = .ok (.bipush 114, 2) := by decide +kernel
theorem dX6_readOne_161 : decode cX6_readOne 161 = .ok (.if_icmp .ne 28, 3) := by decide +kernel
theorem dX6_readOne_164 : decode cX6_readOne 164 = .ok (.aload_n 0, 1) := by decide +kernel
theorem dX6_readOne_165 : decode cX6_readOne 165 = .ok (.dup, 1) := by decide +kernel
theorem dX6_readOne_166 : decode cX6_readOne 166 = .ok (.getfield 135, 3) := by decide +kernel
theorem dX6_readOne_169 : decode cX6_readOne 169 = .ok (.iconst 1, 1) := by decide +kernel
theorem dX6_readOne_170 : decode cX6_readOne 170 = .ok (.iadd, 1) := by decide +kernel
theorem dX6_readOne_171 : decode cX6_readOne 171 = .ok (.putfield 135, 3) := by decide +kernel
theorem dX6_readOne_174 : decode cX6_readOne 174 = .ok (.aload_n 0, 1) := by decide +kernel
theorem dX6_readOne_175 : decode cX6_readOne 175 = .ok (.getfield 44, 3) := by decide +kernel
theorem dX6_readOne_178 : decode cX6_readOne 178 = .ok (.iload_n 1, 1) := by decide +kernel
theorem dX6_readOne_179 : decode cX6_readOne 179 = .ok (.iconst 2, 1) := by decide +kernel
theorem dX6_readOne_180 : decode cX6_readOne 180 = .ok (.iadd, 1) := by decide +kernel
theorem dX6_readOne_181 : decode cX6_readOne 181 = .ok (.aload_n 0, 1) := by decide +kernel
theorem dX6_readOne_182 : decode cX6_readOne 182 = .ok (.iconst 1, 1) := by decide +kernel
theorem dX6_readOne_183 : decode cX6_readOne 183 = .ok (.bipush 9, 2) := by decide +kernel
theorem dX6_readOne_185 : decode cX6_readOne 185 = .ok (.invokevirtual 142, 3) := by decide +kernel
theorem dX6_readOne_188 : decode cX6_readOne 188 = .ok (.iastore, 1) := by decide +kernel
theorem dX6_readOne_189 : decode cX6_readOne 189 = .ok (.aload_n 0, 1) := by decide +kernel
theorem dX6_readOne_190 : decode cX6_readOne 190 = .ok (.getfield 44, 3) := by decide +kernel
theorem dX6_readOne_193 : decode cX6_readOne 193 = .ok (.iload_n 1, 1) := by decide +kernel
theorem dX6_readOne_194 : decode cX6_readOne 194 = .ok (.iconst 2, 1) := by decide +kernel
theorem dX6_readOne_195 : decode cX6_readOne 195 = .ok (.iadd, 1) := by decide +kernel
theorem dX6_readOne_196 : decode cX6_readOne 196 = .ok (.iaload, 1) := by decide +kernel
theorem dX6_readOne_197 : decode cX6_readOne 197 = .ok (.ifCond .le 7, 3) := by decide +kernel
theorem dX6_readOne_200 : decode cX6_readOne 200 = .ok (.iconst 1, 1) := by decide +kernel
theorem dX6_readOne_201 : decode cX6_readOne 201 = .ok (.goto 4, 3) := by decide +kernel
theorem dX6_readOne_204 : decode cX6_readOne 204 = .ok (.iconst 0, 1) := by decide +kernel
theorem dX6_readOne_205 : decode cX6_readOne 205 = .ok (.ireturn, 1) := by decide +kernel
set_option maxRecDepth 20000 in
theorem ggX6_readVillage_X6_readOne : GoodIn wsX6_readVillage wsX6_readOne := goodIn_r _ [7, 8, 1, 9, 10, 11, 6, 12, 13, 14, 15, 16, 17, 18, 19, 20, 21, 22, 23, 24, 25, 26, 27, 28, 29, 30, 31, 32, 33, 34, 35, 36, 37, 38, 39, 40, 41, 42, 43, 44, 45, 46, 47, 48, 49, 50, 51, 52, 53, 54, 55, 56, 57] (by decide +kernel) (by decide +kernel)
set_option maxRecDepth 20000 in
theorem gX6_readVillage_X6_readOne : GoodIn wsX6_readVillage (wsV RX6 146 RX6 yX6_readOne wsX6_readOne) := goodIn_app (goodIn_of _ (by decide +kernel)) ggX6_readVillage_X6_readOne
set_option maxRecDepth 20000 in
theorem ggX6_readVillage_X6_nextByte : GoodIn wsX6_readVillage wsX6_nextByte := goodIn_r _ [12, 1, 13, 14, 22, 23, 24, 25, 26, 27, 28, 29, 30, 31, 32, 33, 34, 35, 36, 37, 38, 39, 40, 41, 42, 43, 44, 45, 46, 47, 48, 49, 50, 51, 52, 53, 54, 55, 56, 57] (by decide +kernel) (by decide +kernel)
set_option maxRecDepth 20000 in
theorem gX6_readVillage_X6_nextByte : GoodIn wsX6_readVillage (wsV RX6 138 RX6 yX6_nextByte wsX6_nextByte) := goodIn_app (goodIn_of _ (by decide +kernel)) ggX6_readVillage_X6_nextByte
theorem dX6_readVillage_0 : decode cX6_readVillage 0 = .ok (.aload_n 0, 1) := by decide +kernel
theorem dX6_readVillage_1 : decode cX6_readVillage 1 = .ok (.iconst 0, 1) := by decide +kernel
theorem dX6_readVillage_2 : decode cX6_readVillage 2 = .ok (.putfield 135, 3) := by decide +kernel
theorem dX6_readVillage_5 : decode cX6_readVillage 5 = .ok (.iconst 0, 1) := by decide +kernel
theorem dX6_readVillage_6 : decode cX6_readVillage 6 = .ok (.istore_n 1, 1) := by decide +kernel
theorem dX6_readVillage_7 : decode cX6_readVillage 7 = .ok (.iload_n 1, 1) := by decide +kernel
theorem dX6_readVillage_8 : decode cX6_readVillage 8 = .ok (.bipush 6, 2) := by decide +kernel
theorem dX6_readVillage_10 : decode cX6_readVillage 10 = .ok (.if_icmp .ge 62, 3) := by decide +kernel
theorem dX6_readVillage_13 : decode cX6_readVillage 13 = .ok (.aload_n 0, 1) := by decide +kernel
theorem dX6_readVillage_14 : decode cX6_readVillage 14 = .ok (.iconst 3, 1) := by decide +kernel
theorem dX6_readVillage_15 : decode cX6_readVillage 15 = .ok (.iload_n 1, 1) := by decide +kernel
theorem dX6_readVillage_16 : decode cX6_readVillage 16 = .ok (.imul, 1) := by decide +kernel
theorem dX6_readVillage_17 : decode cX6_readVillage 17 = .ok (.invokevirtual 146, 3) := by decide +kernel
theorem dX6_readVillage_20 : decode cX6_readVillage 20 = .ok (.ifCond .ne 5, 3) := by decide +kernel
theorem dX6_readVillage_23 : decode cX6_readVillage 23 = .ok (.iconst 0, 1) := by decide +kernel
theorem dX6_readVillage_24 : decode cX6_readVillage 24 = .ok (.ireturn, 1) := by decide +kernel
theorem dX6_readVillage_25 : decode cX6_readVillage 25 = .ok (.aload_n 0, 1) := by decide +kernel
theorem dX6_readVillage_26 : decode cX6_readVillage 26 = .ok (.iload_n 1, 1) := by decide +kernel
theorem dX6_readVillage_27 : decode cX6_readVillage 27 = .ok (.iconst 1, 1) := by decide +kernel
theorem dX6_readVillage_28 : decode cX6_readVillage 28 = .ok (.iadd, 1) := by decide +kernel
theorem dX6_readVillage_29 : decode cX6_readVillage 29 = .ok (.putfield 149, 3) := by decide +kernel
theorem dX6_readVillage_32 : decode cX6_readVillage 32 = .ok (.aload_n 0, 1) := by decide +kernel
theorem dX6_readVillage_33 : decode cX6_readVillage 33 = .ok (.invokevirtual 138, 3) := by decide +kernel
theorem dX6_readVillage_36 : decode cX6_readVillage 36 = .ok (.istore_n 2, 1) := by decide +kernel
theorem dX6_readVillage_37 : decode cX6_readVillage 37 = .ok (.iload_n 2, 1) := by decide +kernel
theorem dX6_readVillage_38 : decode cX6_readVillage 38 = .ok (.ifCond .ge 5, 3) := by decide +kernel
theorem dX6_readVillage_41 : decode cX6_readVillage 41 = .ok (.iconst 1, 1) := by decide +kernel
theorem dX6_readVillage_42 : decode cX6_readVillage 42 = .ok (.ireturn, 1) := by decide +kernel
theorem dX6_readVillage_43 : decode cX6_readVillage 43 = .ok (.iload_n 2, 1) := by decide +kernel
theorem dX6_readVillage_44 : decode cX6_readVillage 44 = .ok (.bipush 44, 2) := by decide +kernel
theorem dX6_readVillage_46 : decode cX6_readVillage 46 = .ok (.if_icmp .ne 8, 3) := by decide +kernel
theorem dX6_readVillage_49 : decode cX6_readVillage 49 = .ok (.iload_n 1, 1) := by decide +kernel
theorem dX6_readVillage_50 : decode cX6_readVillage 50 = .ok (.iconst 5, 1) := by decide +kernel
theorem dX6_readVillage_51 : decode cX6_readVillage 51 = .ok (.if_icmp .ne 5, 3) := by decide +kernel
theorem dX6_readVillage_54 : decode cX6_readVillage 54 = .ok (.iconst 0, 1) := by decide +kernel
theorem dX6_readVillage_55 : decode cX6_readVillage 55 = .ok (.ireturn, 1) := by decide +kernel
theorem dX6_readVillage_56 : decode cX6_readVillage 56 = .ok (.aload_n 0, 1) := by decide +kernel
theorem dX6_readVillage_57 : decode cX6_readVillage 57 = .ok (.dup, 1) := by decide +kernel
theorem dX6_readVillage_58 : decode cX6_readVillage 58 = .ok (.getfield 135, 3) := by decide +kernel
theorem dX6_readVillage_61 : decode cX6_readVillage 61 = .ok (.iconst 1, 1) := by decide +kernel
theorem dX6_readVillage_62 : decode cX6_readVillage 62 = .ok (.iadd, 1) := by decide +kernel
theorem dX6_readVillage_63 : decode cX6_readVillage 63 = .ok (.putfield 135, 3) := by decide +kernel
theorem dX6_readVillage_66 : decode cX6_readVillage 66 = .ok (.iinc 1 1, 3) := by decide +kernel
theorem dX6_readVillage_69 : decode cX6_readVillage 69 = .ok (.goto (-62), 3) := by decide +kernel
theorem dX6_readVillage_72 : decode cX6_readVillage 72 = .ok (.iconst 0, 1) := by decide +kernel
theorem dX6_readVillage_73 : decode cX6_readVillage 73 = .ok (.ireturn, 1) := by decide +kernel
set_option maxRecDepth 20000 in
theorem ggX6_village_X6_readVillage : GoodIn wsX6_village wsX6_readVillage := goodIn_r _ [12, 2, 6, 13, 14, 15, 11, 16, 7, 17, 18, 19, 20, 1, 21, 22, 23, 24, 25, 26, 27, 28, 38, 39, 40, 41, 42, 43, 44, 45, 46, 47, 48, 49, 50, 51, 52, 53, 54, 55, 56, 57, 58, 59, 60, 61, 62, 63, 64, 65, 66, 67, 68, 69, 70, 71, 72, 73] (by decide +kernel) (by decide +kernel)
set_option maxRecDepth 20000 in
theorem gX6_village_X6_readVillage : GoodIn wsX6_village (wsV RX6 152 RX6 yX6_readVillage wsX6_readVillage) := goodIn_app (goodIn_of _ (by decide +kernel)) ggX6_village_X6_readVillage
set_option maxRecDepth 20000 in
theorem ggX6_village_X6_nextByte : GoodIn wsX6_village wsX6_nextByte := goodIn_r _ [20, 2, 1, 21, 38, 39, 40, 41, 42, 43, 44, 45, 46, 47, 48, 49, 50, 51, 52, 53, 54, 55, 56, 57, 58, 59, 60, 61, 62, 63, 64, 65, 66, 67, 68, 69, 70, 71, 72, 73] (by decide +kernel) (by decide +kernel)
set_option maxRecDepth 20000 in
theorem gX6_village_X6_nextByte : GoodIn wsX6_village (wsV RX6 138 RX6 yX6_nextByte wsX6_nextByte) := goodIn_app (goodIn_of _ (by decide +kernel)) ggX6_village_X6_nextByte
set_option maxRecDepth 20000 in
theorem ggX6_village_X6_add : GoodIn wsX6_village wsX6_add := goodIn_r _ [32, 33, 3, 34, 35, 36, 37, 38, 39, 40, 41, 42, 43, 44, 45, 46, 47, 48, 49, 50, 51, 52, 53, 54, 55, 56, 57, 58, 59, 60, 61, 62, 63, 64, 65, 66, 67, 68, 69, 70, 71, 72, 73] (by decide +kernel) (by decide +kernel)
set_option maxRecDepth 20000 in
theorem gX6_village_X6_add : GoodIn wsX6_village (wsV RX6 87 RX6 yX6_add wsX6_add) := goodIn_app (goodIn_of _ (by decide +kernel)) ggX6_village_X6_add
theorem dX6_village_0 : decode cX6_village 0 = .ok (.aload_n 0, 1) := by decide +kernel
theorem dX6_village_1 : decode cX6_village 1 = .ok (.invokevirtual 152, 3) := by decide +kernel
theorem dX6_village_4 : decode cX6_village 4 = .ok (.istore_n 1, 1) := by decide +kernel
theorem dX6_village_5 : decode cX6_village 5 = .ok (.iload_n 1, 1) := by decide +kernel
theorem dX6_village_6 : decode cX6_village 6 = .ok (.ifCond .ne 8, 3) := by decide +kernel
theorem dX6_village_9 : decode cX6_village 9 = .ok (.aload_n 0, 1) := by decide +kernel
theorem dX6_village_10 : decode cX6_village 10 = .ok (.invokevirtual 138, 3) := by decide +kernel
theorem dX6_village_13 : decode cX6_village 13 = .ok (.pop, 1) := by decide +kernel
theorem dX6_village_14 : decode cX6_village 14 = .ok (.aload_n 0, 1) := by decide +kernel
theorem dX6_village_15 : decode cX6_village 15 = .ok (.iconst 0, 1) := by decide +kernel
theorem dX6_village_16 : decode cX6_village 16 = .ok (.putfield 132, 3) := by decide +kernel
theorem dX6_village_19 : decode cX6_village 19 = .ok (.iload_n 1, 1) := by decide +kernel
theorem dX6_village_20 : decode cX6_village 20 = .ok (.ifCond .ne 11, 3) := by decide +kernel
theorem dX6_village_23 : decode cX6_village 23 = .ok (.bipush (-20), 2) := by decide +kernel
theorem dX6_village_25 : decode cX6_village 25 = .ok (.aload_n 0, 1) := by decide +kernel
theorem dX6_village_26 : decode cX6_village 26 = .ok (.getfield 135, 3) := by decide +kernel
theorem dX6_village_29 : decode cX6_village 29 = .ok (.isub, 1) := by decide +kernel
theorem dX6_village_30 : decode cX6_village 30 = .ok (.ireturn, 1) := by decide +kernel
theorem dX6_village_31 : decode cX6_village 31 = .ok (.aload_n 0, 1) := by decide +kernel
theorem dX6_village_32 : decode cX6_village 32 = .ok (.iconst 0, 1) := by decide +kernel
theorem dX6_village_33 : decode cX6_village 33 = .ok (.putfield 72, 3) := by decide +kernel
theorem dX6_village_36 : decode cX6_village 36 = .ok (.aload_n 0, 1) := by decide +kernel
theorem dX6_village_37 : decode cX6_village 37 = .ok (.iconst 0, 1) := by decide +kernel
theorem dX6_village_38 : decode cX6_village 38 = .ok (.putfield 121, 3) := by decide +kernel
theorem dX6_village_41 : decode cX6_village 41 = .ok (.aload_n 0, 1) := by decide +kernel
theorem dX6_village_42 : decode cX6_village 42 = .ok (.bipush 9, 2) := by decide +kernel
theorem dX6_village_44 : decode cX6_village 44 = .ok (.putfield 32, 3) := by decide +kernel
theorem dX6_village_47 : decode cX6_village 47 = .ok (.iconst 0, 1) := by decide +kernel
theorem dX6_village_48 : decode cX6_village 48 = .ok (.istore_n 2, 1) := by decide +kernel
theorem dX6_village_49 : decode cX6_village 49 = .ok (.iload_n 2, 1) := by decide +kernel
theorem dX6_village_50 : decode cX6_village 50 = .ok (.aload_n 0, 1) := by decide +kernel
theorem dX6_village_51 : decode cX6_village 51 = .ok (.getfield 149, 3) := by decide +kernel
theorem dX6_village_54 : decode cX6_village 54 = .ok (.if_icmp .ge 41, 3) := by decide +kernel
theorem dX6_village_57 : decode cX6_village 57 = .ok (.aload_n 0, 1) := by decide +kernel
theorem dX6_village_58 : decode cX6_village 58 = .ok (.aload_n 0, 1) := by decide +kernel
theorem dX6_village_59 : decode cX6_village 59 = .ok (.getfield 44, 3) := by decide +kernel
theorem dX6_village_62 : decode cX6_village 62 = .ok (.iconst 3, 1) := by decide +kernel
theorem dX6_village_63 : decode cX6_village 63 = .ok (.iload_n 2, 1) := by decide +kernel
theorem dX6_village_64 : decode cX6_village 64 = .ok (.imul, 1) := by decide +kernel
theorem dX6_village_65 : decode cX6_village 65 = .ok (.iaload, 1) := by decide +kernel
theorem dX6_village_66 : decode cX6_village 66 = .ok (.aload_n 0, 1) := by decide +kernel
theorem dX6_village_67 : decode cX6_village 67 = .ok (.getfield 44, 3) := by decide +kernel
theorem dX6_village_70 : decode cX6_village 70 = .ok (.iconst 3, 1) := by decide +kernel
theorem dX6_village_71 : decode cX6_village 71 = .ok (.iload_n 2, 1) := by decide +kernel
theorem dX6_village_72 : decode cX6_village 72 = .ok (.imul, 1) := by decide +kernel
theorem dX6_village_73 : decode cX6_village 73 = .ok (.iconst 1, 1) := by decide +kernel
theorem dX6_village_74 : decode cX6_village 74 = .ok (.iadd, 1) := by decide +kernel
theorem dX6_village_75 : decode cX6_village 75 = .ok (.iaload, 1) := by decide +kernel
theorem dX6_village_76 : decode cX6_village 76 = .ok (.aload_n 0, 1) := by decide +kernel
theorem dX6_village_77 : decode cX6_village 77 = .ok (.getfield 44, 3) := by decide +kernel
theorem dX6_village_80 : decode cX6_village 80 = .ok (.iconst 3, 1) := by decide +kernel
theorem dX6_village_81 : decode cX6_village 81 = .ok (.iload_n 2, 1) := by decide +kernel
theorem dX6_village_82 : decode cX6_village 82 = .ok (.imul, 1) := by decide +kernel
theorem dX6_village_83 : decode cX6_village 83 = .ok (.iconst 2, 1) := by decide +kernel
theorem dX6_village_84 : decode cX6_village 84 = .ok (.iadd, 1) := by decide +kernel
theorem dX6_village_85 : decode cX6_village 85 = .ok (.iaload, 1) := by decide +kernel
theorem dX6_village_86 : decode cX6_village 86 = .ok (.invokevirtual 87, 3) := by decide +kernel
theorem dX6_village_89 : decode cX6_village 89 = .ok (.iinc 2 1, 3) := by decide +kernel
theorem dX6_village_92 : decode cX6_village 92 = .ok (.goto (-43), 3) := by decide +kernel
theorem dX6_village_95 : decode cX6_village 95 = .ok (.aload_n 0, 1) := by decide +kernel
theorem dX6_village_96 : decode cX6_village 96 = .ok (.getfield 72, 3) := by decide +kernel
theorem dX6_village_99 : decode cX6_village 99 = .ok (.ireturn, 1) := by decide +kernel
set_option maxRecDepth 20000 in
theorem ggX6_readPlan_X6_nextByte : GoodIn wsX6_readPlan wsX6_nextByte := goodIn_r _ [8, 1, 9, 10, 19, 20, 21, 22, 23, 24, 25, 26, 27, 28, 29, 30, 31, 32, 33, 34, 35, 36, 37, 38, 39, 40, 41, 42, 43, 44, 45, 46, 47, 48, 49, 50, 51, 52, 53, 54] (by decide +kernel) (by decide +kernel)
set_option maxRecDepth 20000 in
theorem gX6_readPlan_X6_nextByte : GoodIn wsX6_readPlan (wsV RX6 138 RX6 yX6_nextByte wsX6_nextByte) := goodIn_app (goodIn_of _ (by decide +kernel)) ggX6_readPlan_X6_nextByte
set_option maxRecDepth 20000 in
theorem ggX6_readPlan_X6_isOne : GoodIn wsX6_readPlan wsX6_isOne := goodIn_r _ [14, 15, 16, 17, 7, 18, 19, 20, 21, 22, 23, 24, 25, 26, 27, 28, 29, 30, 31, 32, 33, 34, 35, 36, 37, 38, 39, 40, 41, 42, 43, 44, 45, 46, 47, 48, 49, 50, 51, 52, 53, 54] (by decide +kernel) (by decide +kernel)
set_option maxRecDepth 20000 in
theorem gX6_readPlan_X6_isOne : GoodIn wsX6_readPlan (wsV RX6 91 RX6 yX6_isOne wsX6_isOne) := goodIn_app (goodIn_of _ (by decide +kernel)) ggX6_readPlan_X6_isOne
theorem dX6_readPlan_0 : decode cX6_readPlan 0 = .ok (.aload_n 0, 1) := by decide +kernel
theorem dX6_readPlan_1 : decode cX6_readPlan 1 = .ok (.iconst 0, 1) := by decide +kernel
theorem dX6_readPlan_2 : decode cX6_readPlan 2 = .ok (.putfield 135, 3) := by decide +kernel
theorem dX6_readPlan_5 : decode cX6_readPlan 5 = .ok (.aload_n 0, 1) := by decide +kernel
theorem dX6_readPlan_6 : decode cX6_readPlan 6 = .ok (.iconst 0, 1) := by decide +kernel
theorem dX6_readPlan_7 : decode cX6_readPlan 7 = .ok (.putfield 149, 3) := by decide +kernel
theorem dX6_readPlan_10 : decode cX6_readPlan 10 = .ok (.aload_n 0, 1) := by decide +kernel
theorem dX6_readPlan_11 : decode cX6_readPlan 11 = .ok (.getfield 149, 3) := by decide +kernel
theorem dX6_readPlan_14 : decode cX6_readPlan 14 = .ok (.ifCond .eq 10, 3) := by decide +kernel
theorem dX6_readPlan_17 : decode cX6_readPlan 17 = .ok (.aload_n 0, 1) := by decide +kernel
theorem dX6_readPlan_18 : decode cX6_readPlan 18 = .ok (.invokevirtual 138, 3) := by decide +kernel
theorem dX6_readPlan_21 : decode cX6_readPlan 21 = .ok (.ifCond .lt 83, 3) := by decide +kernel
theorem dX6_readPlan_24 : decode cX6_readPlan 24 = .ok (.aload_n 0, 1) := by decide +kernel
theorem dX6_readPlan_25 : decode cX6_readPlan 25 = .ok (.invokevirtual 138, 3) := by decide +kernel
theorem dX6_readPlan_28 : decode cX6_readPlan 28 = .ok (.istore_n 1, 1) := by decide +kernel
theorem dX6_readPlan_29 : decode cX6_readPlan 29 = .ok (.iload_n 1, 1) := by decide +kernel
theorem dX6_readPlan_30 : decode cX6_readPlan 30 = .ok (.bipush 46, 2) := by decide +kernel
theorem dX6_readPlan_32 : decode cX6_readPlan 32 = .ok (.if_icmp .eq 14, 3) := by decide +kernel
theorem dX6_readPlan_35 : decode cX6_readPlan 35 = .ok (.aload_n 0, 1) := by decide +kernel
theorem dX6_readPlan_36 : decode cX6_readPlan 36 = .ok (.iload_n 1, 1) := by decide +kernel
theorem dX6_readPlan_37 : decode cX6_readPlan 37 = .ok (.bipush 48, 2) := by decide +kernel
theorem dX6_readPlan_39 : decode cX6_readPlan 39 = .ok (.isub, 1) := by decide +kernel
theorem dX6_readPlan_40 : decode cX6_readPlan 40 = .ok (.invokevirtual 91, 3) := by decide +kernel
theorem dX6_readPlan_43 : decode cX6_readPlan 43 = .ok (.ifCond .eq 12, 3) := by decide +kernel
theorem dX6_readPlan_46 : decode cX6_readPlan 46 = .ok (.aload_n 0, 1) := by decide +kernel
theorem dX6_readPlan_47 : decode cX6_readPlan 47 = .ok (.getfield 149, 3) := by decide +kernel
theorem dX6_readPlan_50 : decode cX6_readPlan 50 = .ok (.bipush 24, 2) := by decide +kernel
theorem dX6_readPlan_52 : decode cX6_readPlan 52 = .ok (.if_icmp .ne 5, 3) := by decide +kernel
theorem dX6_readPlan_55 : decode cX6_readPlan 55 = .ok (.iconst 0, 1) := by decide +kernel
theorem dX6_readPlan_56 : decode cX6_readPlan 56 = .ok (.ireturn, 1) := by decide +kernel
theorem dX6_readPlan_57 : decode cX6_readPlan 57 = .ok (.aload_n 0, 1) := by decide +kernel
theorem dX6_readPlan_58 : decode cX6_readPlan 58 = .ok (.getfield 44, 3) := by decide +kernel
theorem dX6_readPlan_61 : decode cX6_readPlan 61 = .ok (.aload_n 0, 1) := by decide +kernel
theorem dX6_readPlan_62 : decode cX6_readPlan 62 = .ok (.getfield 149, 3) := by decide +kernel
theorem dX6_readPlan_65 : decode cX6_readPlan 65 = .ok (.iload_n 1, 1) := by decide +kernel
theorem dX6_readPlan_66 : decode cX6_readPlan 66 = .ok (.bipush 46, 2) := by decide +kernel
theorem dX6_readPlan_68 : decode cX6_readPlan 68 = .ok (.if_icmp .ne 8, 3) := by decide +kernel
theorem dX6_readPlan_71 : decode cX6_readPlan 71 = .ok (.bipush 9, 2) := by decide +kernel
theorem dX6_readPlan_73 : decode cX6_readPlan 73 = .ok (.goto 7, 3) := by decide +kernel
theorem dX6_readPlan_76 : decode cX6_readPlan 76 = .ok (.iload_n 1, 1) := by decide +kernel
theorem dX6_readPlan_77 : decode cX6_readPlan 77 = .ok (.bipush 48, 2) := by decide +kernel
theorem dX6_readPlan_79 : decode cX6_readPlan 79 = .ok (.isub, 1) := by decide +kernel
theorem dX6_readPlan_80 : decode cX6_readPlan 80 = .ok (.iastore, 1) := by decide +kernel
theorem dX6_readPlan_81 : decode cX6_readPlan 81 = .ok (.aload_n 0, 1) := by decide +kernel
theorem dX6_readPlan_82 : decode cX6_readPlan 82 = .ok (.dup, 1) := by decide +kernel
theorem dX6_readPlan_83 : decode cX6_readPlan 83 = .ok (.getfield 149, 3) := by decide +kernel
theorem dX6_readPlan_86 : decode cX6_readPlan 86 = .ok (.iconst 1, 1) := by decide +kernel
theorem dX6_readPlan_87 : decode cX6_readPlan 87 = .ok (.iadd, 1) := by decide +kernel
theorem dX6_readPlan_88 : decode cX6_readPlan 88 = .ok (.putfield 149, 3) := by decide +kernel
theorem dX6_readPlan_91 : decode cX6_readPlan 91 = .ok (.aload_n 0, 1) := by decide +kernel
theorem dX6_readPlan_92 : decode cX6_readPlan 92 = .ok (.dup, 1) := by decide +kernel
theorem dX6_readPlan_93 : decode cX6_readPlan 93 = .ok (.getfield 135, 3) := by decide +kernel
theorem dX6_readPlan_96 : decode cX6_readPlan 96 = .ok (.iconst 1, 1) := by decide +kernel
theorem dX6_readPlan_97 : decode cX6_readPlan 97 = .ok (.iadd, 1) := by decide +kernel
theorem dX6_readPlan_98 : decode cX6_readPlan 98 = .ok (.putfield 135, 3) := by decide +kernel
theorem dX6_readPlan_101 : decode cX6_readPlan 101 = .ok (.goto (-91), 3) := by decide +kernel
theorem dX6_readPlan_104 : decode cX6_readPlan 104 = .ok (.iconst 1, 1) := by decide +kernel
theorem dX6_readPlan_105 : decode cX6_readPlan 105 = .ok (.ireturn, 1) := by decide +kernel
set_option maxRecDepth 20000 in
theorem ggX6_plan_X6_readPlan : GoodIn wsX6_plan wsX6_readPlan := goodIn_r _ [11, 2, 3, 6, 12, 13, 14, 10, 15, 1, 16, 17, 18, 19, 20, 21, 22, 23, 24, 25, 26, 27, 28, 29, 30, 31, 32, 33, 34, 35, 36, 37, 38, 39, 40, 41, 42, 43, 44, 45, 46, 47, 48, 49, 50, 51, 52, 53, 54, 55, 56, 57, 58, 59, 60] (by decide +kernel) (by decide +kernel)
set_option maxRecDepth 20000 in
theorem gX6_plan_X6_readPlan : GoodIn wsX6_plan (wsV RX6 156 RX6 yX6_readPlan wsX6_readPlan) := goodIn_app (goodIn_of _ (by decide +kernel)) ggX6_plan_X6_readPlan
set_option maxRecDepth 20000 in
theorem ggX6_plan_X6_nextByte : GoodIn wsX6_plan wsX6_nextByte := goodIn_r _ [15, 2, 1, 16, 25, 26, 27, 28, 29, 30, 31, 32, 33, 34, 35, 36, 37, 38, 39, 40, 41, 42, 43, 44, 45, 46, 47, 48, 49, 50, 51, 52, 53, 54, 55, 56, 57, 58, 59, 60] (by decide +kernel) (by decide +kernel)
set_option maxRecDepth 20000 in
theorem gX6_plan_X6_nextByte : GoodIn wsX6_plan (wsV RX6 138 RX6 yX6_nextByte wsX6_nextByte) := goodIn_app (goodIn_of _ (by decide +kernel)) ggX6_plan_X6_nextByte
theorem dX6_plan_0 : decode cX6_plan 0 = .ok (.aload_n 0, 1) := by decide +kernel
theorem dX6_plan_1 : decode cX6_plan 1 = .ok (.invokevirtual 156, 3) := by decide +kernel
theorem dX6_plan_4 : decode cX6_plan 4 = .ok (.istore_n 1, 1) := by decide +kernel
theorem dX6_plan_5 : decode cX6_plan 5 = .ok (.iload_n 1, 1) := by decide +kernel
theorem dX6_plan_6 : decode cX6_plan 6 = .ok (.ifCond .ne 8, 3) := by decide +kernel
theorem dX6_plan_9 : decode cX6_plan 9 = .ok (.aload_n 0, 1) := by decide +kernel
theorem dX6_plan_10 : decode cX6_plan 10 = .ok (.invokevirtual 138, 3) := by decide +kernel
theorem dX6_plan_13 : decode cX6_plan 13 = .ok (.pop, 1) := by decide +kernel
theorem dX6_plan_14 : decode cX6_plan 14 = .ok (.aload_n 0, 1) := by decide +kernel
theorem dX6_plan_15 : decode cX6_plan 15 = .ok (.iconst 0, 1) := by decide +kernel
theorem dX6_plan_16 : decode cX6_plan 16 = .ok (.putfield 132, 3) := by decide +kernel
theorem dX6_plan_19 : decode cX6_plan 19 = .ok (.iload_n 1, 1) := by decide +kernel
theorem dX6_plan_20 : decode cX6_plan 20 = .ok (.ifCond .ne 11, 3) := by decide +kernel
theorem dX6_plan_23 : decode cX6_plan 23 = .ok (.bipush (-20), 2) := by decide +kernel
theorem dX6_plan_25 : decode cX6_plan 25 = .ok (.aload_n 0, 1) := by decide +kernel
theorem dX6_plan_26 : decode cX6_plan 26 = .ok (.getfield 135, 3) := by decide +kernel
theorem dX6_plan_29 : decode cX6_plan 29 = .ok (.isub, 1) := by decide +kernel
theorem dX6_plan_30 : decode cX6_plan 30 = .ok (.ireturn, 1) := by decide +kernel
theorem dX6_plan_31 : decode cX6_plan 31 = .ok (.aload_n 0, 1) := by decide +kernel
theorem dX6_plan_32 : decode cX6_plan 32 = .ok (.aload_n 0, 1) := by decide +kernel
theorem dX6_plan_33 : decode cX6_plan 33 = .ok (.getfield 149, 3) := by decide +kernel
theorem dX6_plan_36 : decode cX6_plan 36 = .ok (.putfield 121, 3) := by decide +kernel
theorem dX6_plan_39 : decode cX6_plan 39 = .ok (.iconst 0, 1) := by decide +kernel
theorem dX6_plan_40 : decode cX6_plan 40 = .ok (.istore_n 2, 1) := by decide +kernel
theorem dX6_plan_41 : decode cX6_plan 41 = .ok (.iload_n 2, 1) := by decide +kernel
theorem dX6_plan_42 : decode cX6_plan 42 = .ok (.aload_n 0, 1) := by decide +kernel
theorem dX6_plan_43 : decode cX6_plan 43 = .ok (.getfield 149, 3) := by decide +kernel
theorem dX6_plan_46 : decode cX6_plan 46 = .ok (.if_icmp .ge 21, 3) := by decide +kernel
theorem dX6_plan_49 : decode cX6_plan 49 = .ok (.aload_n 0, 1) := by decide +kernel
theorem dX6_plan_50 : decode cX6_plan 50 = .ok (.getfield 35, 3) := by decide +kernel
theorem dX6_plan_53 : decode cX6_plan 53 = .ok (.iload_n 2, 1) := by decide +kernel
theorem dX6_plan_54 : decode cX6_plan 54 = .ok (.aload_n 0, 1) := by decide +kernel
theorem dX6_plan_55 : decode cX6_plan 55 = .ok (.getfield 44, 3) := by decide +kernel
theorem dX6_plan_58 : decode cX6_plan 58 = .ok (.iload_n 2, 1) := by decide +kernel
theorem dX6_plan_59 : decode cX6_plan 59 = .ok (.iaload, 1) := by decide +kernel
theorem dX6_plan_60 : decode cX6_plan 60 = .ok (.iastore, 1) := by decide +kernel
theorem dX6_plan_61 : decode cX6_plan 61 = .ok (.iinc 2 1, 3) := by decide +kernel
theorem dX6_plan_64 : decode cX6_plan 64 = .ok (.goto (-23), 3) := by decide +kernel
theorem dX6_plan_67 : decode cX6_plan 67 = .ok (.aload_n 0, 1) := by decide +kernel
theorem dX6_plan_68 : decode cX6_plan 68 = .ok (.getfield 121, 3) := by decide +kernel
theorem dX6_plan_71 : decode cX6_plan 71 = .ok (.ireturn, 1) := by decide +kernel
theorem dX6_pailsOf_0 : decode cX6_pailsOf 0 = .ok (.iload_n 0, 1) := by decide +kernel
theorem dX6_pailsOf_1 : decode cX6_pailsOf 1 = .ok (.iconst 1, 1) := by decide +kernel
theorem dX6_pailsOf_2 : decode cX6_pailsOf 2 = .ok (.if_icmp .ne 9, 3) := by decide +kernel
theorem dX6_pailsOf_5 : decode cX6_pailsOf 5 = .ok (.iconst 5, 1) := by decide +kernel
theorem dX6_pailsOf_6 : decode cX6_pailsOf 6 = .ok (.iload_n 1, 1) := by decide +kernel
theorem dX6_pailsOf_7 : decode cX6_pailsOf 7 = .ok (.iadd, 1) := by decide +kernel
theorem dX6_pailsOf_8 : decode cX6_pailsOf 8 = .ok (.goto 17, 3) := by decide +kernel
theorem dX6_pailsOf_11 : decode cX6_pailsOf 11 = .ok (.iload_n 0, 1) := by decide +kernel
theorem dX6_pailsOf_12 : decode cX6_pailsOf 12 = .ok (.iconst 3, 1) := by decide +kernel
theorem dX6_pailsOf_13 : decode cX6_pailsOf 13 = .ok (.if_icmp .ne 9, 3) := by decide +kernel
theorem dX6_pailsOf_16 : decode cX6_pailsOf 16 = .ok (.iconst 2, 1) := by decide +kernel
theorem dX6_pailsOf_17 : decode cX6_pailsOf 17 = .ok (.iload_n 1, 1) := by decide +kernel
theorem dX6_pailsOf_18 : decode cX6_pailsOf 18 = .ok (.iadd, 1) := by decide +kernel
theorem dX6_pailsOf_19 : decode cX6_pailsOf 19 = .ok (.goto 6, 3) := by decide +kernel
theorem dX6_pailsOf_22 : decode cX6_pailsOf 22 = .ok (.iconst 4, 1) := by decide +kernel
theorem dX6_pailsOf_23 : decode cX6_pailsOf 23 = .ok (.iload_n 1, 1) := by decide +kernel
theorem dX6_pailsOf_24 : decode cX6_pailsOf 24 = .ok (.iadd, 1) := by decide +kernel
theorem dX6_pailsOf_25 : decode cX6_pailsOf 25 = .ok (.istore_n 2, 1) := by decide +kernel
theorem dX6_pailsOf_26 : decode cX6_pailsOf 26 = .ok (.iload_n 2, 1) := by decide +kernel
theorem dX6_pailsOf_27 : decode cX6_pailsOf 27 = .ok (.ifCond .ge 7, 3) := by decide +kernel
theorem dX6_pailsOf_30 : decode cX6_pailsOf 30 = .ok (.iconst 0, 1) := by decide +kernel
theorem dX6_pailsOf_31 : decode cX6_pailsOf 31 = .ok (.goto 15, 3) := by decide +kernel
theorem dX6_pailsOf_34 : decode cX6_pailsOf 34 = .ok (.iload_n 2, 1) := by decide +kernel
theorem dX6_pailsOf_35 : decode cX6_pailsOf 35 = .ok (.bipush 9, 2) := by decide +kernel
theorem dX6_pailsOf_37 : decode cX6_pailsOf 37 = .ok (.if_icmp .le 8, 3) := by decide +kernel
theorem dX6_pailsOf_40 : decode cX6_pailsOf 40 = .ok (.bipush 9, 2) := by decide +kernel
theorem dX6_pailsOf_42 : decode cX6_pailsOf 42 = .ok (.goto 4, 3) := by decide +kernel
theorem dX6_pailsOf_45 : decode cX6_pailsOf 45 = .ok (.iload_n 2, 1) := by decide +kernel
theorem dX6_pailsOf_46 : decode cX6_pailsOf 46 = .ok (.ireturn, 1) := by decide +kernel
theorem dX6_isSweet_0 : decode cX6_isSweet 0 = .ok (.iload_n 0, 1) := by decide +kernel
theorem dX6_isSweet_1 : decode cX6_isSweet 1 = .ok (.iconst 1, 1) := by decide +kernel
theorem dX6_isSweet_2 : decode cX6_isSweet 2 = .ok (.if_icmp .eq 11, 3) := by decide +kernel
theorem dX6_isSweet_5 : decode cX6_isSweet 5 = .ok (.iload_n 0, 1) := by decide +kernel
theorem dX6_isSweet_6 : decode cX6_isSweet 6 = .ok (.ifCond .ne 11, 3) := by decide +kernel
theorem dX6_isSweet_9 : decode cX6_isSweet 9 = .ok (.iload_n 1, 1) := by decide +kernel
theorem dX6_isSweet_10 : decode cX6_isSweet 10 = .ok (.ifCond .lt 7, 3) := by decide +kernel
theorem dX6_isSweet_13 : decode cX6_isSweet 13 = .ok (.iconst 1, 1) := by decide +kernel
theorem dX6_isSweet_14 : decode cX6_isSweet 14 = .ok (.goto 4, 3) := by decide +kernel
theorem dX6_isSweet_17 : decode cX6_isSweet 17 = .ok (.iconst 0, 1) := by decide +kernel
theorem dX6_isSweet_18 : decode cX6_isSweet 18 = .ok (.ireturn, 1) := by decide +kernel
theorem dX6_most9_0 : decode cX6_most9 0 = .ok (.iload_n 0, 1) := by decide +kernel
theorem dX6_most9_1 : decode cX6_most9 1 = .ok (.bipush 9, 2) := by decide +kernel
theorem dX6_most9_3 : decode cX6_most9 3 = .ok (.if_icmp .le 8, 3) := by decide +kernel
theorem dX6_most9_6 : decode cX6_most9 6 = .ok (.bipush 9, 2) := by decide +kernel
theorem dX6_most9_8 : decode cX6_most9 8 = .ok (.goto 15, 3) := by decide +kernel
theorem dX6_most9_11 : decode cX6_most9 11 = .ok (.iload_n 0, 1) := by decide +kernel
theorem dX6_most9_12 : decode cX6_most9 12 = .ok (.bipush (-9), 2) := by decide +kernel
theorem dX6_most9_14 : decode cX6_most9 14 = .ok (.if_icmp .ge 8, 3) := by decide +kernel
theorem dX6_most9_17 : decode cX6_most9 17 = .ok (.bipush (-9), 2) := by decide +kernel
theorem dX6_most9_19 : decode cX6_most9 19 = .ok (.goto 4, 3) := by decide +kernel
theorem dX6_most9_22 : decode cX6_most9 22 = .ok (.iload_n 0, 1) := by decide +kernel
theorem dX6_most9_23 : decode cX6_most9 23 = .ok (.ireturn, 1) := by decide +kernel
theorem dX6_wane_0 : decode cX6_wane 0 = .ok (.iload_n 0, 1) := by decide +kernel
theorem dX6_wane_1 : decode cX6_wane 1 = .ok (.ifCond .le 9, 3) := by decide +kernel
theorem dX6_wane_4 : decode cX6_wane 4 = .ok (.iload_n 0, 1) := by decide +kernel
theorem dX6_wane_5 : decode cX6_wane 5 = .ok (.iconst 1, 1) := by decide +kernel
theorem dX6_wane_6 : decode cX6_wane 6 = .ok (.isub, 1) := by decide +kernel
theorem dX6_wane_7 : decode cX6_wane 7 = .ok (.goto 14, 3) := by decide +kernel
theorem dX6_wane_10 : decode cX6_wane 10 = .ok (.iload_n 0, 1) := by decide +kernel
theorem dX6_wane_11 : decode cX6_wane 11 = .ok (.ifCond .ge 9, 3) := by decide +kernel
theorem dX6_wane_14 : decode cX6_wane 14 = .ok (.iload_n 0, 1) := by decide +kernel
theorem dX6_wane_15 : decode cX6_wane 15 = .ok (.iconst 1, 1) := by decide +kernel
theorem dX6_wane_16 : decode cX6_wane 16 = .ok (.iadd, 1) := by decide +kernel
theorem dX6_wane_17 : decode cX6_wane 17 = .ok (.goto 4, 3) := by decide +kernel
theorem dX6_wane_20 : decode cX6_wane 20 = .ok (.iconst 0, 1) := by decide +kernel
theorem dX6_wane_21 : decode cX6_wane 21 = .ok (.ireturn, 1) := by decide +kernel
theorem dX6_feltBy_0 : decode cX6_feltBy 0 = .ok (.aload_n 0, 1) := by decide +kernel
theorem dX6_feltBy_1 : decode cX6_feltBy 1 = .ok (.getfield 7, 3) := by decide +kernel
theorem dX6_feltBy_4 : decode cX6_feltBy 4 = .ok (.iload_n 1, 1) := by decide +kernel
theorem dX6_feltBy_5 : decode cX6_feltBy 5 = .ok (.iaload, 1) := by decide +kernel
theorem dX6_feltBy_6 : decode cX6_feltBy 6 = .ok (.iconst 3, 1) := by decide +kernel
theorem dX6_feltBy_7 : decode cX6_feltBy 7 = .ok (.if_icmp .ne 13, 3) := by decide +kernel
theorem dX6_feltBy_10 : decode cX6_feltBy 10 = .ok (.aload_n 0, 1) := by decide +kernel
theorem dX6_feltBy_11 : decode cX6_feltBy 11 = .ok (.getfield 13, 3) := by decide +kernel
theorem dX6_feltBy_14 : decode cX6_feltBy 14 = .ok (.iload_n 1, 1) := by decide +kernel
theorem dX6_feltBy_15 : decode cX6_feltBy 15 = .ok (.iaload, 1) := by decide +kernel
theorem dX6_feltBy_16 : decode cX6_feltBy 16 = .ok (.ineg, 1) := by decide +kernel
theorem dX6_feltBy_17 : decode cX6_feltBy 17 = .ok (.goto 9, 3) := by decide +kernel
theorem dX6_feltBy_20 : decode cX6_feltBy 20 = .ok (.aload_n 0, 1) := by decide +kernel
theorem dX6_feltBy_21 : decode cX6_feltBy 21 = .ok (.getfield 13, 3) := by decide +kernel
theorem dX6_feltBy_24 : decode cX6_feltBy 24 = .ok (.iload_n 1, 1) := by decide +kernel
theorem dX6_feltBy_25 : decode cX6_feltBy 25 = .ok (.iaload, 1) := by decide +kernel
theorem dX6_feltBy_26 : decode cX6_feltBy 26 = .ok (.ireturn, 1) := by decide +kernel
theorem dX6_begin_0 : decode cX6_begin 0 = .ok (.aload_n 0, 1) := by decide +kernel
theorem dX6_begin_1 : decode cX6_begin 1 = .ok (.aload_n 0, 1) := by decide +kernel
theorem dX6_begin_2 : decode cX6_begin 2 = .ok (.getfield 112, 3) := by decide +kernel
theorem dX6_begin_5 : decode cX6_begin 5 = .ok (.putfield 159, 3) := by decide +kernel
theorem dX6_begin_8 : decode cX6_begin 8 = .ok (.aload_n 0, 1) := by decide +kernel
theorem dX6_begin_9 : decode cX6_begin 9 = .ok (.aload_n 0, 1) := by decide +kernel
theorem dX6_begin_10 : decode cX6_begin 10 = .ok (.getfield 25, 3) := by decide +kernel
theorem dX6_begin_13 : decode cX6_begin 13 = .ok (.putfield 162, 3) := by decide +kernel
theorem dX6_begin_16 : decode cX6_begin 16 = .ok (.aload_n 0, 1) := by decide +kernel
theorem dX6_begin_17 : decode cX6_begin 17 = .ok (.aload_n 0, 1) := by decide +kernel
theorem dX6_begin_18 : decode cX6_begin 18 = .ok (.getfield 98, 3) := by decide +kernel
theorem dX6_begin_21 : decode cX6_begin 21 = .ok (.putfield 165, 3) := by decide +kernel
theorem dX6_begin_24 : decode cX6_begin 24 = .ok (.aload_n 0, 1) := by decide +kernel
theorem dX6_begin_25 : decode cX6_begin 25 = .ok (.aload_n 0, 1) := by decide +kernel
theorem dX6_begin_26 : decode cX6_begin 26 = .ok (.getfield 32, 3) := by decide +kernel
theorem dX6_begin_29 : decode cX6_begin 29 = .ok (.putfield 168, 3) := by decide +kernel
theorem dX6_begin_32 : decode cX6_begin 32 = .ok (.iconst 0, 1) := by decide +kernel
theorem dX6_begin_33 : decode cX6_begin 33 = .ok (.istore_n 1, 1) := by decide +kernel
theorem dX6_begin_34 : decode cX6_begin 34 = .ok (.iload_n 1, 1) := by decide +kernel
theorem dX6_begin_35 : decode cX6_begin 35 = .ok (.bipush 6, 2) := by decide +kernel
theorem dX6_begin_37 : decode cX6_begin 37 = .ok (.if_icmp .ge 21, 3) := by decide +kernel
theorem dX6_begin_40 : decode cX6_begin 40 = .ok (.aload_n 0, 1) := by decide +kernel
theorem dX6_begin_41 : decode cX6_begin 41 = .ok (.getfield 47, 3) := by decide +kernel
theorem dX6_begin_44 : decode cX6_begin 44 = .ok (.iload_n 1, 1) := by decide +kernel
theorem dX6_begin_45 : decode cX6_begin 45 = .ok (.aload_n 0, 1) := by decide +kernel
theorem dX6_begin_46 : decode cX6_begin 46 = .ok (.getfield 22, 3) := by decide +kernel
theorem dX6_begin_49 : decode cX6_begin 49 = .ok (.iload_n 1, 1) := by decide +kernel
theorem dX6_begin_50 : decode cX6_begin 50 = .ok (.iaload, 1) := by decide +kernel
theorem dX6_begin_51 : decode cX6_begin 51 = .ok (.iastore, 1) := by decide +kernel
theorem dX6_begin_52 : decode cX6_begin 52 = .ok (.iinc 1 1, 3) := by decide +kernel
theorem dX6_begin_55 : decode cX6_begin 55 = .ok (.goto (-21), 3) := by decide +kernel
theorem dX6_begin_58 : decode cX6_begin 58 = .ok (.return_, 1) := by decide +kernel
set_option maxRecDepth 20000 in
theorem ggX6_tryOne_X6_has : GoodIn wsX6_tryOne wsX6_has := goodIn_r _ [15] (by decide +kernel) (by decide +kernel)
set_option maxRecDepth 20000 in
theorem gX6_tryOne_X6_has : GoodIn wsX6_tryOne (va_wsS RX6 178 yX6_has wsX6_has) := goodIn_app (goodIn_of _ (by decide +kernel)) ggX6_tryOne_X6_has
set_option maxRecDepth 20000 in
theorem ggX6_tryOne_X6_pailsOf : GoodIn wsX6_tryOne wsX6_pailsOf := goodIn_r _ [18] (by decide +kernel) (by decide +kernel)
set_option maxRecDepth 20000 in
theorem gX6_tryOne_X6_pailsOf : GoodIn wsX6_tryOne (va_wsS RX6 182 yX6_pailsOf wsX6_pailsOf) := goodIn_app (goodIn_of _ (by decide +kernel)) ggX6_tryOne_X6_pailsOf
set_option maxRecDepth 20000 in
theorem ggX6_tryOne_X6_isSweet : GoodIn wsX6_tryOne wsX6_isSweet := goodIn_r _ [21] (by decide +kernel) (by decide +kernel)
set_option maxRecDepth 20000 in
theorem gX6_tryOne_X6_isSweet : GoodIn wsX6_tryOne (va_wsS RX6 185 yX6_isSweet wsX6_isSweet) := goodIn_app (goodIn_of _ (by decide +kernel)) ggX6_tryOne_X6_isSweet
set_option maxRecDepth 20000 in
theorem ggX6_tryOne_X6_feltBy : GoodIn wsX6_tryOne wsX6_feltBy := goodIn_r _ [25, 7, 26, 33, 34, 35, 36, 37, 38, 39, 40, 41, 42, 43, 44, 45, 46, 47, 48, 49, 50, 51, 52, 53, 54, 55, 56, 57, 58, 59, 60, 61, 62, 63, 64, 65, 66, 67, 68] (by decide +kernel) (by decide +kernel)
set_option maxRecDepth 20000 in
theorem gX6_tryOne_X6_feltBy : GoodIn wsX6_tryOne (wsV RX6 188 RX6 yX6_feltBy wsX6_feltBy) := goodIn_app (goodIn_of _ (by decide +kernel)) ggX6_tryOne_X6_feltBy
set_option maxRecDepth 20000 in
theorem ggX6_tryOne_X6_most9 : GoodIn wsX6_tryOne wsX6_most9 := goodIn_r _ [29] (by decide +kernel) (by decide +kernel)
set_option maxRecDepth 20000 in
theorem gX6_tryOne_X6_most9 : GoodIn wsX6_tryOne (va_wsS RX6 192 yX6_most9 wsX6_most9) := goodIn_app (goodIn_of _ (by decide +kernel)) ggX6_tryOne_X6_most9
set_option maxRecDepth 20000 in
theorem ggX6_tryOne_X6_wane : GoodIn wsX6_tryOne wsX6_wane := goodIn_r _ [32] (by decide +kernel) (by decide +kernel)
set_option maxRecDepth 20000 in
theorem gX6_tryOne_X6_wane : GoodIn wsX6_tryOne (va_wsS RX6 195 yX6_wane wsX6_wane) := goodIn_app (goodIn_of _ (by decide +kernel)) ggX6_tryOne_X6_wane
theorem dX6_tryOne_0 : decode cX6_tryOne 0 = .ok (.aload_n 0, 1) := by decide +kernel
theorem dX6_tryOne_1 : decode cX6_tryOne 1 = .ok (.iconst 0, 1) := by decide +kernel
theorem dX6_tryOne_2 : decode cX6_tryOne 2 = .ok (.putfield 171, 3) := by decide +kernel
theorem dX6_tryOne_5 : decode cX6_tryOne 5 = .ok (.aload_n 0, 1) := by decide +kernel
theorem dX6_tryOne_6 : decode cX6_tryOne 6 = .ok (.iconst 0, 1) := by decide +kernel
theorem dX6_tryOne_7 : decode cX6_tryOne 7 = .ok (.putfield 174, 3) := by decide +kernel
theorem dX6_tryOne_10 : decode cX6_tryOne 10 = .ok (.iload_n 1, 1) := by decide +kernel
theorem dX6_tryOne_11 : decode cX6_tryOne 11 = .ok (.bipush 9, 2) := by decide +kernel
theorem dX6_tryOne_13 : decode cX6_tryOne 13 = .ok (.if_icmp .eq 155, 3) := by decide +kernel
theorem dX6_tryOne_16 : decode cX6_tryOne 16 = .ok (.aload_n 0, 1) := by decide +kernel
theorem dX6_tryOne_17 : decode cX6_tryOne 17 = .ok (.getfield 47, 3) := by decide +kernel
theorem dX6_tryOne_20 : decode cX6_tryOne 20 = .ok (.iload_n 1, 1) := by decide +kernel
theorem dX6_tryOne_21 : decode cX6_tryOne 21 = .ok (.iaload, 1) := by decide +kernel
theorem dX6_tryOne_22 : decode cX6_tryOne 22 = .ok (.aload_n 0, 1) := by decide +kernel
theorem dX6_tryOne_23 : decode cX6_tryOne 23 = .ok (.getfield 165, 3) := by decide +kernel
theorem dX6_tryOne_26 : decode cX6_tryOne 26 = .ok (.if_icmp .le 5, 3) := by decide +kernel
theorem dX6_tryOne_29 : decode cX6_tryOne 29 = .ok (.iconst 0, 1) := by decide +kernel
theorem dX6_tryOne_30 : decode cX6_tryOne 30 = .ok (.ireturn, 1) := by decide +kernel
theorem dX6_tryOne_31 : decode cX6_tryOne 31 = .ok (.aload_n 0, 1) := by decide +kernel
theorem dX6_tryOne_32 : decode cX6_tryOne 32 = .ok (.getfield 168, 3) := by decide +kernel
theorem dX6_tryOne_35 : decode cX6_tryOne 35 = .ok (.bipush 9, 2) := by decide +kernel
theorem dX6_tryOne_37 : decode cX6_tryOne 37 = .ok (.if_icmp .eq 23, 3) := by decide +kernel
theorem dX6_tryOne_40 : decode cX6_tryOne 40 = .ok (.aload_n 0, 1) := by decide +kernel
theorem dX6_tryOne_41 : decode cX6_tryOne 41 = .ok (.getfield 19, 3) := by decide +kernel
theorem dX6_tryOne_44 : decode cX6_tryOne 44 = .ok (.iload_n 1, 1) := by decide +kernel
theorem dX6_tryOne_45 : decode cX6_tryOne 45 = .ok (.iaload, 1) := by decide +kernel
theorem dX6_tryOne_46 : decode cX6_tryOne 46 = .ok (.aload_n 0, 1) := by decide +kernel
theorem dX6_tryOne_47 : decode cX6_tryOne 47 = .ok (.getfield 168, 3) := by decide +kernel
theorem dX6_tryOne_50 : decode cX6_tryOne 50 = .ok (.invokestatic 178, 3) := by decide +kernel
theorem dX6_tryOne_53 : decode cX6_tryOne 53 = .ok (.ifCond .eq 7, 3) := by decide +kernel
theorem dX6_tryOne_56 : decode cX6_tryOne 56 = .ok (.iconst 1, 1) := by decide +kernel
theorem dX6_tryOne_57 : decode cX6_tryOne 57 = .ok (.goto 4, 3) := by decide +kernel
theorem dX6_tryOne_60 : decode cX6_tryOne 60 = .ok (.iconst 0, 1) := by decide +kernel
theorem dX6_tryOne_61 : decode cX6_tryOne 61 = .ok (.istore_n 2, 1) := by decide +kernel
theorem dX6_tryOne_62 : decode cX6_tryOne 62 = .ok (.aload_n 0, 1) := by decide +kernel
theorem dX6_tryOne_63 : decode cX6_tryOne 63 = .ok (.getfield 7, 3) := by decide +kernel
theorem dX6_tryOne_66 : decode cX6_tryOne 66 = .ok (.iload_n 1, 1) := by decide +kernel
theorem dX6_tryOne_67 : decode cX6_tryOne 67 = .ok (.iaload, 1) := by decide +kernel
theorem dX6_tryOne_68 : decode cX6_tryOne 68 = .ok (.aload_n 0, 1) := by decide +kernel
theorem dX6_tryOne_69 : decode cX6_tryOne 69 = .ok (.getfield 159, 3) := by decide +kernel
theorem dX6_tryOne_72 : decode cX6_tryOne 72 = .ok (.invokestatic 182, 3) := by decide +kernel
theorem dX6_tryOne_75 : decode cX6_tryOne 75 = .ok (.istore_n 3, 1) := by decide +kernel
theorem dX6_tryOne_76 : decode cX6_tryOne 76 = .ok (.aload_n 0, 1) := by decide +kernel
theorem dX6_tryOne_77 : decode cX6_tryOne 77 = .ok (.iload_n 2, 1) := by decide +kernel
theorem dX6_tryOne_78 : decode cX6_tryOne 78 = .ok (.ifCond .eq 7, 3) := by decide +kernel
theorem dX6_tryOne_81 : decode cX6_tryOne 81 = .ok (.iconst 0, 1) := by decide +kernel
theorem dX6_tryOne_82 : decode cX6_tryOne 82 = .ok (.goto 19, 3) := by decide +kernel
theorem dX6_tryOne_85 : decode cX6_tryOne 85 = .ok (.iload_n 3, 1) := by decide +kernel
theorem dX6_tryOne_86 : decode cX6_tryOne 86 = .ok (.aload_n 0, 1) := by decide +kernel
theorem dX6_tryOne_87 : decode cX6_tryOne 87 = .ok (.getfield 162, 3) := by decide +kernel
theorem dX6_tryOne_90 : decode cX6_tryOne 90 = .ok (.if_icmp .ge 7, 3) := by decide +kernel
theorem dX6_tryOne_93 : decode cX6_tryOne 93 = .ok (.iload_n 3, 1) := by decide +kernel
theorem dX6_tryOne_94 : decode cX6_tryOne 94 = .ok (.goto 7, 3) := by decide +kernel
theorem dX6_tryOne_97 : decode cX6_tryOne 97 = .ok (.aload_n 0, 1) := by decide +kernel
theorem dX6_tryOne_98 : decode cX6_tryOne 98 = .ok (.getfield 162, 3) := by decide +kernel
theorem dX6_tryOne_101 : decode cX6_tryOne 101 = .ok (.putfield 171, 3) := by decide +kernel
theorem dX6_tryOne_104 : decode cX6_tryOne 104 = .ok (.aload_n 0, 1) := by decide +kernel
theorem dX6_tryOne_105 : decode cX6_tryOne 105 = .ok (.aload_n 0, 1) := by decide +kernel
theorem dX6_tryOne_106 : decode cX6_tryOne 106 = .ok (.getfield 7, 3) := by decide +kernel
theorem dX6_tryOne_109 : decode cX6_tryOne 109 = .ok (.iload_n 1, 1) := by decide +kernel
theorem dX6_tryOne_110 : decode cX6_tryOne 110 = .ok (.iaload, 1) := by decide +kernel
theorem dX6_tryOne_111 : decode cX6_tryOne 111 = .ok (.aload_n 0, 1) := by decide +kernel
theorem dX6_tryOne_112 : decode cX6_tryOne 112 = .ok (.getfield 159, 3) := by decide +kernel
theorem dX6_tryOne_115 : decode cX6_tryOne 115 = .ok (.invokestatic 185, 3) := by decide +kernel
theorem dX6_tryOne_118 : decode cX6_tryOne 118 = .ok (.putfield 174, 3) := by decide +kernel
theorem dX6_tryOne_121 : decode cX6_tryOne 121 = .ok (.aload_n 0, 1) := by decide +kernel
theorem dX6_tryOne_122 : decode cX6_tryOne 122 = .ok (.dup, 1) := by decide +kernel
theorem dX6_tryOne_123 : decode cX6_tryOne 123 = .ok (.getfield 162, 3) := by decide +kernel
theorem dX6_tryOne_126 : decode cX6_tryOne 126 = .ok (.aload_n 0, 1) := by decide +kernel
theorem dX6_tryOne_127 : decode cX6_tryOne 127 = .ok (.getfield 171, 3) := by decide +kernel
theorem dX6_tryOne_130 : decode cX6_tryOne 130 = .ok (.isub, 1) := by decide +kernel
theorem dX6_tryOne_131 : decode cX6_tryOne 131 = .ok (.putfield 162, 3) := by decide +kernel
theorem dX6_tryOne_134 : decode cX6_tryOne 134 = .ok (.aload_n 0, 1) := by decide +kernel
theorem dX6_tryOne_135 : decode cX6_tryOne 135 = .ok (.aload_n 0, 1) := by decide +kernel
theorem dX6_tryOne_136 : decode cX6_tryOne 136 = .ok (.getfield 159, 3) := by decide +kernel
theorem dX6_tryOne_139 : decode cX6_tryOne 139 = .ok (.aload_n 0, 1) := by decide +kernel
theorem dX6_tryOne_140 : decode cX6_tryOne 140 = .ok (.iload_n 1, 1) := by decide +kernel
theorem dX6_tryOne_141 : decode cX6_tryOne 141 = .ok (.invokevirtual 188, 3) := by decide +kernel
theorem dX6_tryOne_144 : decode cX6_tryOne 144 = .ok (.iadd, 1) := by decide +kernel
theorem dX6_tryOne_145 : decode cX6_tryOne 145 = .ok (.invokestatic 192, 3) := by decide +kernel
theorem dX6_tryOne_148 : decode cX6_tryOne 148 = .ok (.putfield 159, 3) := by decide +kernel
theorem dX6_tryOne_151 : decode cX6_tryOne 151 = .ok (.aload_n 0, 1) := by decide +kernel
theorem dX6_tryOne_152 : decode cX6_tryOne 152 = .ok (.getfield 47, 3) := by decide +kernel
theorem dX6_tryOne_155 : decode cX6_tryOne 155 = .ok (.iload_n 1, 1) := by decide +kernel
theorem dX6_tryOne_156 : decode cX6_tryOne 156 = .ok (.aload_n 0, 1) := by decide +kernel
theorem dX6_tryOne_157 : decode cX6_tryOne 157 = .ok (.getfield 165, 3) := by decide +kernel
theorem dX6_tryOne_160 : decode cX6_tryOne 160 = .ok (.aload_n 0, 1) := by decide +kernel
theorem dX6_tryOne_161 : decode cX6_tryOne 161 = .ok (.getfield 16, 3) := by decide +kernel
theorem dX6_tryOne_164 : decode cX6_tryOne 164 = .ok (.iload_n 1, 1) := by decide +kernel
theorem dX6_tryOne_165 : decode cX6_tryOne 165 = .ok (.iaload, 1) := by decide +kernel
theorem dX6_tryOne_166 : decode cX6_tryOne 166 = .ok (.iadd, 1) := by decide +kernel
theorem dX6_tryOne_167 : decode cX6_tryOne 167 = .ok (.iastore, 1) := by decide +kernel
theorem dX6_tryOne_168 : decode cX6_tryOne 168 = .ok (.aload_n 0, 1) := by decide +kernel
theorem dX6_tryOne_169 : decode cX6_tryOne 169 = .ok (.iload_n 1, 1) := by decide +kernel
theorem dX6_tryOne_170 : decode cX6_tryOne 170 = .ok (.putfield 168, 3) := by decide +kernel
theorem dX6_tryOne_173 : decode cX6_tryOne 173 = .ok (.aload_n 0, 1) := by decide +kernel
theorem dX6_tryOne_174 : decode cX6_tryOne 174 = .ok (.aload_n 0, 1) := by decide +kernel
theorem dX6_tryOne_175 : decode cX6_tryOne 175 = .ok (.getfield 159, 3) := by decide +kernel
theorem dX6_tryOne_178 : decode cX6_tryOne 178 = .ok (.invokestatic 195, 3) := by decide +kernel
theorem dX6_tryOne_181 : decode cX6_tryOne 181 = .ok (.putfield 159, 3) := by decide +kernel
theorem dX6_tryOne_184 : decode cX6_tryOne 184 = .ok (.aload_n 0, 1) := by decide +kernel
theorem dX6_tryOne_185 : decode cX6_tryOne 185 = .ok (.aload_n 0, 1) := by decide +kernel
theorem dX6_tryOne_186 : decode cX6_tryOne 186 = .ok (.getfield 162, 3) := by decide +kernel
theorem dX6_tryOne_189 : decode cX6_tryOne 189 = .ok (.aload_n 0, 1) := by decide +kernel
theorem dX6_tryOne_190 : decode cX6_tryOne 190 = .ok (.getfield 29, 3) := by decide +kernel
theorem dX6_tryOne_193 : decode cX6_tryOne 193 = .ok (.iadd, 1) := by decide +kernel
theorem dX6_tryOne_194 : decode cX6_tryOne 194 = .ok (.sipush 999, 3) := by decide +kernel
theorem dX6_tryOne_197 : decode cX6_tryOne 197 = .ok (.if_icmp .le 9, 3) := by decide +kernel
theorem dX6_tryOne_200 : decode cX6_tryOne 200 = .ok (.sipush 999, 3) := by decide +kernel
theorem dX6_tryOne_203 : decode cX6_tryOne 203 = .ok (.goto 12, 3) := by decide +kernel
theorem dX6_tryOne_206 : decode cX6_tryOne 206 = .ok (.aload_n 0, 1) := by decide +kernel
theorem dX6_tryOne_207 : decode cX6_tryOne 207 = .ok (.getfield 162, 3) := by decide +kernel
theorem dX6_tryOne_210 : decode cX6_tryOne 210 = .ok (.aload_n 0, 1) := by decide +kernel
theorem dX6_tryOne_211 : decode cX6_tryOne 211 = .ok (.getfield 29, 3) := by decide +kernel
theorem dX6_tryOne_214 : decode cX6_tryOne 214 = .ok (.iadd, 1) := by decide +kernel
theorem dX6_tryOne_215 : decode cX6_tryOne 215 = .ok (.putfield 162, 3) := by decide +kernel
theorem dX6_tryOne_218 : decode cX6_tryOne 218 = .ok (.aload_n 0, 1) := by decide +kernel
theorem dX6_tryOne_219 : decode cX6_tryOne 219 = .ok (.dup, 1) := by decide +kernel
theorem dX6_tryOne_220 : decode cX6_tryOne 220 = .ok (.getfield 165, 3) := by decide +kernel
theorem dX6_tryOne_223 : decode cX6_tryOne 223 = .ok (.iconst 1, 1) := by decide +kernel
theorem dX6_tryOne_224 : decode cX6_tryOne 224 = .ok (.iadd, 1) := by decide +kernel
theorem dX6_tryOne_225 : decode cX6_tryOne 225 = .ok (.putfield 165, 3) := by decide +kernel
theorem dX6_tryOne_228 : decode cX6_tryOne 228 = .ok (.iconst 1, 1) := by decide +kernel
theorem dX6_tryOne_229 : decode cX6_tryOne 229 = .ok (.ireturn, 1) := by decide +kernel
theorem dX6_keep_0 : decode cX6_keep 0 = .ok (.aload_n 0, 1) := by decide +kernel
theorem dX6_keep_1 : decode cX6_keep 1 = .ok (.aload_n 0, 1) := by decide +kernel
theorem dX6_keep_2 : decode cX6_keep 2 = .ok (.getfield 159, 3) := by decide +kernel
theorem dX6_keep_5 : decode cX6_keep 5 = .ok (.putfield 112, 3) := by decide +kernel
theorem dX6_keep_8 : decode cX6_keep 8 = .ok (.aload_n 0, 1) := by decide +kernel
theorem dX6_keep_9 : decode cX6_keep 9 = .ok (.aload_n 0, 1) := by decide +kernel
theorem dX6_keep_10 : decode cX6_keep 10 = .ok (.getfield 162, 3) := by decide +kernel
theorem dX6_keep_13 : decode cX6_keep 13 = .ok (.putfield 25, 3) := by decide +kernel
theorem dX6_keep_16 : decode cX6_keep 16 = .ok (.aload_n 0, 1) := by decide +kernel
theorem dX6_keep_17 : decode cX6_keep 17 = .ok (.aload_n 0, 1) := by decide +kernel
theorem dX6_keep_18 : decode cX6_keep 18 = .ok (.getfield 165, 3) := by decide +kernel
theorem dX6_keep_21 : decode cX6_keep 21 = .ok (.putfield 98, 3) := by decide +kernel
theorem dX6_keep_24 : decode cX6_keep 24 = .ok (.aload_n 0, 1) := by decide +kernel
theorem dX6_keep_25 : decode cX6_keep 25 = .ok (.aload_n 0, 1) := by decide +kernel
theorem dX6_keep_26 : decode cX6_keep 26 = .ok (.getfield 168, 3) := by decide +kernel
theorem dX6_keep_29 : decode cX6_keep 29 = .ok (.putfield 32, 3) := by decide +kernel
theorem dX6_keep_32 : decode cX6_keep 32 = .ok (.aload_n 0, 1) := by decide +kernel
theorem dX6_keep_33 : decode cX6_keep 33 = .ok (.dup, 1) := by decide +kernel
theorem dX6_keep_34 : decode cX6_keep 34 = .ok (.getfield 115, 3) := by decide +kernel
theorem dX6_keep_37 : decode cX6_keep 37 = .ok (.aload_n 0, 1) := by decide +kernel
theorem dX6_keep_38 : decode cX6_keep 38 = .ok (.getfield 174, 3) := by decide +kernel
theorem dX6_keep_41 : decode cX6_keep 41 = .ok (.ifCond .eq 10, 3) := by decide +kernel
theorem dX6_keep_44 : decode cX6_keep 44 = .ok (.aload_n 0, 1) := by decide +kernel
theorem dX6_keep_45 : decode cX6_keep 45 = .ok (.getfield 171, 3) := by decide +kernel
theorem dX6_keep_48 : decode cX6_keep 48 = .ok (.goto 4, 3) := by decide +kernel
theorem dX6_keep_51 : decode cX6_keep 51 = .ok (.iconst 0, 1) := by decide +kernel
theorem dX6_keep_52 : decode cX6_keep 52 = .ok (.iadd, 1) := by decide +kernel
theorem dX6_keep_53 : decode cX6_keep 53 = .ok (.putfield 115, 3) := by decide +kernel
theorem dX6_keep_56 : decode cX6_keep 56 = .ok (.aload_n 0, 1) := by decide +kernel
theorem dX6_keep_57 : decode cX6_keep 57 = .ok (.dup, 1) := by decide +kernel
theorem dX6_keep_58 : decode cX6_keep 58 = .ok (.getfield 118, 3) := by decide +kernel
theorem dX6_keep_61 : decode cX6_keep 61 = .ok (.aload_n 0, 1) := by decide +kernel
theorem dX6_keep_62 : decode cX6_keep 62 = .ok (.getfield 174, 3) := by decide +kernel
theorem dX6_keep_65 : decode cX6_keep 65 = .ok (.ifCond .eq 7, 3) := by decide +kernel
theorem dX6_keep_68 : decode cX6_keep 68 = .ok (.iconst 0, 1) := by decide +kernel
theorem dX6_keep_69 : decode cX6_keep 69 = .ok (.goto 7, 3) := by decide +kernel
theorem dX6_keep_72 : decode cX6_keep 72 = .ok (.aload_n 0, 1) := by decide +kernel
theorem dX6_keep_73 : decode cX6_keep 73 = .ok (.getfield 171, 3) := by decide +kernel
theorem dX6_keep_76 : decode cX6_keep 76 = .ok (.iadd, 1) := by decide +kernel
theorem dX6_keep_77 : decode cX6_keep 77 = .ok (.putfield 118, 3) := by decide +kernel
theorem dX6_keep_80 : decode cX6_keep 80 = .ok (.iconst 0, 1) := by decide +kernel
theorem dX6_keep_81 : decode cX6_keep 81 = .ok (.istore_n 1, 1) := by decide +kernel
theorem dX6_keep_82 : decode cX6_keep 82 = .ok (.iload_n 1, 1) := by decide +kernel
theorem dX6_keep_83 : decode cX6_keep 83 = .ok (.bipush 6, 2) := by decide +kernel
theorem dX6_keep_85 : decode cX6_keep 85 = .ok (.if_icmp .ge 21, 3) := by decide +kernel
theorem dX6_keep_88 : decode cX6_keep 88 = .ok (.aload_n 0, 1) := by decide +kernel
theorem dX6_keep_89 : decode cX6_keep 89 = .ok (.getfield 22, 3) := by decide +kernel
theorem dX6_keep_92 : decode cX6_keep 92 = .ok (.iload_n 1, 1) := by decide +kernel
theorem dX6_keep_93 : decode cX6_keep 93 = .ok (.aload_n 0, 1) := by decide +kernel
theorem dX6_keep_94 : decode cX6_keep 94 = .ok (.getfield 47, 3) := by decide +kernel
theorem dX6_keep_97 : decode cX6_keep 97 = .ok (.iload_n 1, 1) := by decide +kernel
theorem dX6_keep_98 : decode cX6_keep 98 = .ok (.iaload, 1) := by decide +kernel
theorem dX6_keep_99 : decode cX6_keep 99 = .ok (.iastore, 1) := by decide +kernel
theorem dX6_keep_100 : decode cX6_keep 100 = .ok (.iinc 1 1, 3) := by decide +kernel
theorem dX6_keep_103 : decode cX6_keep 103 = .ok (.goto (-21), 3) := by decide +kernel
theorem dX6_keep_106 : decode cX6_keep 106 = .ok (.return_, 1) := by decide +kernel
set_option maxRecDepth 20000 in
theorem ggX6_goOn_X6_begin : GoodIn wsX6_goOn wsX6_begin := goodIn_r _ [6, 7, 8, 9, 10, 11, 12, 13, 14, 15, 16, 52, 53, 54, 55, 56, 57, 58, 59, 60, 61, 62, 63, 64, 65, 66, 67, 68, 69, 70, 71, 72, 73, 74, 75, 76, 77, 78, 79, 80, 81, 82, 83, 84, 85, 86, 87] (by decide +kernel) (by decide +kernel)
set_option maxRecDepth 20000 in
theorem gX6_goOn_X6_begin : GoodIn wsX6_goOn (wsV RX6 198 RX6 yX6_begin wsX6_begin) := goodIn_app (goodIn_of _ (by decide +kernel)) ggX6_goOn_X6_begin
set_option maxRecDepth 20000 in
theorem ggX6_goOn_X6_tryOne : GoodIn wsX6_goOn wsX6_tryOne := goodIn_r _ [20, 1, 21, 15, 12, 14, 22, 23, 8, 10, 24, 25, 26, 27, 5, 28, 29, 30, 31, 32, 33, 34, 35, 36, 37, 38, 39, 40, 41, 42, 43, 44, 45, 52, 53, 54, 55, 56, 57, 58, 59, 60, 61, 62, 63, 64, 65, 66, 67, 68, 69, 70, 71, 72, 73, 74, 75, 76, 77, 78, 79, 80, 81, 82, 83, 84, 85, 86, 87] (by decide +kernel) (by decide +kernel)
set_option maxRecDepth 20000 in
theorem gX6_goOn_X6_tryOne : GoodIn wsX6_goOn (wsV RX6 201 RX6 yX6_tryOne wsX6_tryOne) := goodIn_app (goodIn_of _ (by decide +kernel)) ggX6_goOn_X6_tryOne
set_option maxRecDepth 20000 in
theorem ggX6_goOn_X6_keep : GoodIn wsX6_goOn wsX6_keep := goodIn_r _ [49, 8, 7, 10, 9, 12, 11, 14, 13, 50, 21, 1, 51, 16, 15, 52, 53, 54, 55, 56, 57, 58, 59, 60, 61, 62, 63, 64, 65, 66, 67, 68, 69, 70, 71, 72, 73, 74, 75, 76, 77, 78, 79, 80, 81, 82, 83, 84, 85, 86, 87] (by decide +kernel) (by decide +kernel)
set_option maxRecDepth 20000 in
theorem gX6_goOn_X6_keep : GoodIn wsX6_goOn (wsV RX6 204 RX6 yX6_keep wsX6_keep) := goodIn_app (goodIn_of _ (by decide +kernel)) ggX6_goOn_X6_keep
theorem dX6_goOn_0 : decode cX6_goOn 0 = .ok (.aload_n 0, 1) := by decide +kernel
theorem dX6_goOn_1 : decode cX6_goOn 1 = .ok (.invokevirtual 198, 3) := by decide +kernel
theorem dX6_goOn_4 : decode cX6_goOn 4 = .ok (.aload_n 0, 1) := by decide +kernel
theorem dX6_goOn_5 : decode cX6_goOn 5 = .ok (.iload_n 1, 1) := by decide +kernel
theorem dX6_goOn_6 : decode cX6_goOn 6 = .ok (.invokevirtual 201, 3) := by decide +kernel
theorem dX6_goOn_9 : decode cX6_goOn 9 = .ok (.ifCond .ne 6, 3) := by decide +kernel
theorem dX6_goOn_12 : decode cX6_goOn 12 = .ok (.bipush (-2), 2) := by decide +kernel
theorem dX6_goOn_14 : decode cX6_goOn 14 = .ok (.ireturn, 1) := by decide +kernel
theorem dX6_goOn_15 : decode cX6_goOn 15 = .ok (.aload_n 0, 1) := by decide +kernel
theorem dX6_goOn_16 : decode cX6_goOn 16 = .ok (.invokevirtual 204, 3) := by decide +kernel
theorem dX6_goOn_19 : decode cX6_goOn 19 = .ok (.aload_n 0, 1) := by decide +kernel
theorem dX6_goOn_20 : decode cX6_goOn 20 = .ok (.getfield 171, 3) := by decide +kernel
theorem dX6_goOn_23 : decode cX6_goOn 23 = .ok (.ireturn, 1) := by decide +kernel
theorem dX6_may_0 : decode cX6_may 0 = .ok (.iconst 0, 1) := by decide +kernel
theorem dX6_may_1 : decode cX6_may 1 = .ok (.istore_n 1, 1) := by decide +kernel
theorem dX6_may_2 : decode cX6_may 2 = .ok (.iconst 0, 1) := by decide +kernel
theorem dX6_may_3 : decode cX6_may 3 = .ok (.istore_n 2, 1) := by decide +kernel
theorem dX6_may_4 : decode cX6_may 4 = .ok (.iload_n 2, 1) := by decide +kernel
theorem dX6_may_5 : decode cX6_may 5 = .ok (.aload_n 0, 1) := by decide +kernel
theorem dX6_may_6 : decode cX6_may 6 = .ok (.getfield 72, 3) := by decide +kernel
theorem dX6_may_9 : decode cX6_may 9 = .ok (.if_icmp .ge 32, 3) := by decide +kernel
theorem dX6_may_12 : decode cX6_may 12 = .ok (.iload_n 1, 1) := by decide +kernel
theorem dX6_may_13 : decode cX6_may 13 = .ok (.aload_n 0, 1) := by decide +kernel
theorem dX6_may_14 : decode cX6_may 14 = .ok (.getfield 22, 3) := by decide +kernel
theorem dX6_may_17 : decode cX6_may 17 = .ok (.iload_n 2, 1) := by decide +kernel
theorem dX6_may_18 : decode cX6_may 18 = .ok (.iaload, 1) := by decide +kernel
theorem dX6_may_19 : decode cX6_may 19 = .ok (.aload_n 0, 1) := by decide +kernel
theorem dX6_may_20 : decode cX6_may 20 = .ok (.getfield 98, 3) := by decide +kernel
theorem dX6_may_23 : decode cX6_may 23 = .ok (.if_icmp .gt 9, 3) := by decide +kernel
theorem dX6_may_26 : decode cX6_may 26 = .ok (.iconst 1, 1) := by decide +kernel
theorem dX6_may_27 : decode cX6_may 27 = .ok (.iload_n 2, 1) := by decide +kernel
theorem dX6_may_28 : decode cX6_may 28 = .ok (.ishl, 1) := by decide +kernel
theorem dX6_may_29 : decode cX6_may 29 = .ok (.goto 4, 3) := by decide +kernel
theorem dX6_may_32 : decode cX6_may 32 = .ok (.iconst 0, 1) := by decide +kernel
theorem dX6_may_33 : decode cX6_may 33 = .ok (.ior, 1) := by decide +kernel
theorem dX6_may_34 : decode cX6_may 34 = .ok (.istore_n 1, 1) := by decide +kernel
theorem dX6_may_35 : decode cX6_may 35 = .ok (.iinc 2 1, 3) := by decide +kernel
theorem dX6_may_38 : decode cX6_may 38 = .ok (.goto (-34), 3) := by decide +kernel
theorem dX6_may_41 : decode cX6_may 41 = .ok (.iload_n 1, 1) := by decide +kernel
theorem dX6_may_42 : decode cX6_may 42 = .ok (.ireturn, 1) := by decide +kernel
set_option maxRecDepth 20000 in
theorem ggX6_draw_X6_isOne : GoodIn wsX6_draw wsX6_isOne := goodIn_r _ [7, 8, 9, 10, 6, 11, 64, 65, 66, 67, 68, 69, 70, 71, 72, 73, 74, 75, 76, 77, 78, 79, 80, 81, 82, 83, 84, 85, 86, 87, 88, 89, 90, 91, 92, 93, 94, 95, 96, 97, 98, 99] (by decide +kernel) (by decide +kernel)
set_option maxRecDepth 20000 in
theorem gX6_draw_X6_isOne : GoodIn wsX6_draw (wsV RX6 91 RX6 yX6_isOne wsX6_isOne) := goodIn_app (goodIn_of _ (by decide +kernel)) ggX6_draw_X6_isOne
set_option maxRecDepth 20000 in
theorem ggX6_draw_X6_goOn : GoodIn wsX6_draw wsX6_goOn := goodIn_r _ [15, 16, 17, 18, 19, 6, 20, 21, 22, 23, 24, 2, 25, 26, 27, 28, 1, 29, 30, 31, 32, 33, 34, 35, 36, 37, 38, 39, 40, 41, 42, 43, 44, 45, 46, 47, 48, 49, 50, 51, 52, 53, 54, 55, 56, 57, 58, 59, 60, 61, 62, 63, 64, 65, 66, 67, 68, 69, 70, 71, 72, 73, 74, 75, 76, 77, 78, 79, 80, 81, 82, 83, 84, 85, 86, 87, 88, 89, 90, 91, 92, 93, 94, 95, 96, 97, 98, 99] (by decide +kernel) (by decide +kernel)
set_option maxRecDepth 20000 in
theorem gX6_draw_X6_goOn : GoodIn wsX6_draw (wsV RX6 207 RX6 yX6_goOn wsX6_goOn) := goodIn_app (goodIn_of _ (by decide +kernel)) ggX6_draw_X6_goOn
theorem dX6_draw_0 : decode cX6_draw 0 = .ok (.iload_n 1, 1) := by decide +kernel
theorem dX6_draw_1 : decode cX6_draw 1 = .ok (.bipush 9, 2) := by decide +kernel
theorem dX6_draw_3 : decode cX6_draw 3 = .ok (.if_icmp .eq 13, 3) := by decide +kernel
theorem dX6_draw_6 : decode cX6_draw 6 = .ok (.aload_n 0, 1) := by decide +kernel
theorem dX6_draw_7 : decode cX6_draw 7 = .ok (.iload_n 1, 1) := by decide +kernel
theorem dX6_draw_8 : decode cX6_draw 8 = .ok (.invokevirtual 91, 3) := by decide +kernel
theorem dX6_draw_11 : decode cX6_draw 11 = .ok (.ifCond .ne 5, 3) := by decide +kernel
theorem dX6_draw_14 : decode cX6_draw 14 = .ok (.iconst (-1), 1) := by decide +kernel
theorem dX6_draw_15 : decode cX6_draw 15 = .ok (.ireturn, 1) := by decide +kernel
theorem dX6_draw_16 : decode cX6_draw 16 = .ok (.iload_n 1, 1) := by decide +kernel
theorem dX6_draw_17 : decode cX6_draw 17 = .ok (.bipush 9, 2) := by decide +kernel
theorem dX6_draw_19 : decode cX6_draw 19 = .ok (.if_icmp .eq 19, 3) := by decide +kernel
theorem dX6_draw_22 : decode cX6_draw 22 = .ok (.aload_n 0, 1) := by decide +kernel
theorem dX6_draw_23 : decode cX6_draw 23 = .ok (.getfield 22, 3) := by decide +kernel
theorem dX6_draw_26 : decode cX6_draw 26 = .ok (.iload_n 1, 1) := by decide +kernel
theorem dX6_draw_27 : decode cX6_draw 27 = .ok (.iaload, 1) := by decide +kernel
theorem dX6_draw_28 : decode cX6_draw 28 = .ok (.aload_n 0, 1) := by decide +kernel
theorem dX6_draw_29 : decode cX6_draw 29 = .ok (.getfield 98, 3) := by decide +kernel
theorem dX6_draw_32 : decode cX6_draw 32 = .ok (.if_icmp .le 6, 3) := by decide +kernel
theorem dX6_draw_35 : decode cX6_draw 35 = .ok (.bipush (-2), 2) := by decide +kernel
theorem dX6_draw_37 : decode cX6_draw 37 = .ok (.ireturn, 1) := by decide +kernel
theorem dX6_draw_38 : decode cX6_draw 38 = .ok (.aload_n 0, 1) := by decide +kernel
theorem dX6_draw_39 : decode cX6_draw 39 = .ok (.getfield 98, 3) := by decide +kernel
theorem dX6_draw_42 : decode cX6_draw 42 = .ok (.sipush 9999, 3) := by decide +kernel
theorem dX6_draw_45 : decode cX6_draw 45 = .ok (.if_icmp .ne 8, 3) := by decide +kernel
theorem dX6_draw_48 : decode cX6_draw 48 = .ok (.bipush (-3), 2) := by decide +kernel
theorem dX6_draw_50 : decode cX6_draw 50 = .ok (.goto 8, 3) := by decide +kernel
theorem dX6_draw_53 : decode cX6_draw 53 = .ok (.aload_n 0, 1) := by decide +kernel
theorem dX6_draw_54 : decode cX6_draw 54 = .ok (.iload_n 1, 1) := by decide +kernel
theorem dX6_draw_55 : decode cX6_draw 55 = .ok (.invokevirtual 207, 3) := by decide +kernel
theorem dX6_draw_58 : decode cX6_draw 58 = .ok (.ireturn, 1) := by decide +kernel
set_option maxRecDepth 20000 in
theorem ggX6_pass_X6_in : GoodIn wsX6_pass wsX6_in := goodIn_r _ [6] (by decide +kernel) (by decide +kernel)
set_option maxRecDepth 20000 in
theorem gX6_pass_X6_in : GoodIn wsX6_pass (va_wsS RX6 75 yX6_in wsX6_in) := goodIn_app (goodIn_of _ (by decide +kernel)) ggX6_pass_X6_in
set_option maxRecDepth 20000 in
theorem ggX6_pass_X6_goOn : GoodIn wsX6_pass wsX6_goOn := goodIn_r _ [10, 11, 12, 13, 14, 5, 15, 16, 17, 18, 19, 2, 20, 21, 22, 23, 24, 25, 26, 27, 28, 29, 30, 31, 32, 33, 34, 35, 36, 37, 38, 39, 40, 41, 42, 43, 44, 45, 46, 47, 48, 49, 50, 51, 52, 53, 54, 55, 56, 57, 58, 59, 60, 61, 62, 63, 64, 65, 66, 67, 68, 69, 70, 71, 72, 73, 74, 75, 76, 77, 78, 79, 80, 81, 82, 83, 84, 85, 86, 87, 88, 89, 90, 91, 92, 93, 94, 95] (by decide +kernel) (by decide +kernel)
set_option maxRecDepth 20000 in
theorem gX6_pass_X6_goOn : GoodIn wsX6_pass (wsV RX6 207 RX6 yX6_goOn wsX6_goOn) := goodIn_app (goodIn_of _ (by decide +kernel)) ggX6_pass_X6_goOn
theorem dX6_pass_0 : decode cX6_pass 0 = .ok (.iload_n 1, 1) := by decide +kernel
theorem dX6_pass_1 : decode cX6_pass 1 = .ok (.i2l, 1) := by decide +kernel
theorem dX6_pass_2 : decode cX6_pass 2 = .ok (.lconst 1, 1) := by decide +kernel
theorem dX6_pass_3 : decode cX6_pass 3 = .ok (.ldc2_w 210, 3) := by decide +kernel
theorem dX6_pass_6 : decode cX6_pass 6 = .ok (.invokestatic 75, 3) := by decide +kernel
theorem dX6_pass_9 : decode cX6_pass 9 = .ok (.ifCond .ne 5, 3) := by decide +kernel
theorem dX6_pass_12 : decode cX6_pass 12 = .ok (.iconst (-1), 1) := by decide +kernel
theorem dX6_pass_13 : decode cX6_pass 13 = .ok (.ireturn, 1) := by decide +kernel
theorem dX6_pass_14 : decode cX6_pass 14 = .ok (.aload_n 0, 1) := by decide +kernel
theorem dX6_pass_15 : decode cX6_pass 15 = .ok (.getfield 98, 3) := by decide +kernel
theorem dX6_pass_18 : decode cX6_pass 18 = .ok (.iload_n 1, 1) := by decide +kernel
theorem dX6_pass_19 : decode cX6_pass 19 = .ok (.iadd, 1) := by decide +kernel
theorem dX6_pass_20 : decode cX6_pass 20 = .ok (.sipush 9999, 3) := by decide +kernel
theorem dX6_pass_23 : decode cX6_pass 23 = .ok (.if_icmp .le 6, 3) := by decide +kernel
theorem dX6_pass_26 : decode cX6_pass 26 = .ok (.bipush (-3), 2) := by decide +kernel
theorem dX6_pass_28 : decode cX6_pass 28 = .ok (.ireturn, 1) := by decide +kernel
theorem dX6_pass_29 : decode cX6_pass 29 = .ok (.iconst 0, 1) := by decide +kernel
theorem dX6_pass_30 : decode cX6_pass 30 = .ok (.istore_n 2, 1) := by decide +kernel
theorem dX6_pass_31 : decode cX6_pass 31 = .ok (.iload_n 2, 1) := by decide +kernel
theorem dX6_pass_32 : decode cX6_pass 32 = .ok (.iload_n 1, 1) := by decide +kernel
theorem dX6_pass_33 : decode cX6_pass 33 = .ok (.if_icmp .ge 16, 3) := by decide +kernel
theorem dX6_pass_36 : decode cX6_pass 36 = .ok (.aload_n 0, 1) := by decide +kernel
theorem dX6_pass_37 : decode cX6_pass 37 = .ok (.bipush 9, 2) := by decide +kernel
theorem dX6_pass_39 : decode cX6_pass 39 = .ok (.invokevirtual 207, 3) := by decide +kernel
theorem dX6_pass_42 : decode cX6_pass 42 = .ok (.pop, 1) := by decide +kernel
theorem dX6_pass_43 : decode cX6_pass 43 = .ok (.iinc 2 1, 3) := by decide +kernel
theorem dX6_pass_46 : decode cX6_pass 46 = .ok (.goto (-15), 3) := by decide +kernel
theorem dX6_pass_49 : decode cX6_pass 49 = .ok (.aload_n 0, 1) := by decide +kernel
theorem dX6_pass_50 : decode cX6_pass 50 = .ok (.getfield 98, 3) := by decide +kernel
theorem dX6_pass_53 : decode cX6_pass 53 = .ok (.ireturn, 1) := by decide +kernel
set_option maxRecDepth 20000 in
theorem ggX6_run_X6_goOn : GoodIn wsX6_run wsX6_goOn := goodIn_r _ [8, 9, 10, 11, 12, 7, 13, 14, 15, 16, 17, 1, 18, 19, 20, 21, 22, 23, 24, 25, 26, 27, 28, 29, 30, 31, 32, 33, 34, 35, 36, 37, 38, 39, 40, 41, 42, 43, 44, 45, 46, 47, 48, 49, 50, 51, 52, 53, 54, 55, 56, 57, 58, 59, 60, 61, 62, 63, 64, 65, 66, 67, 68, 69, 70, 71, 72, 73, 74, 75, 76, 77, 78, 79, 80, 81, 82, 83, 84, 85, 86, 87, 88, 89, 90, 91, 92, 93] (by decide +kernel) (by decide +kernel)
set_option maxRecDepth 20000 in
theorem gX6_run_X6_goOn : GoodIn wsX6_run (wsV RX6 207 RX6 yX6_goOn wsX6_goOn) := goodIn_app (goodIn_of _ (by decide +kernel)) ggX6_run_X6_goOn
theorem dX6_run_0 : decode cX6_run 0 = .ok (.aload_n 0, 1) := by decide +kernel
theorem dX6_run_1 : decode cX6_run 1 = .ok (.getfield 98, 3) := by decide +kernel
theorem dX6_run_4 : decode cX6_run 4 = .ok (.aload_n 0, 1) := by decide +kernel
theorem dX6_run_5 : decode cX6_run 5 = .ok (.getfield 121, 3) := by decide +kernel
theorem dX6_run_8 : decode cX6_run 8 = .ok (.iadd, 1) := by decide +kernel
theorem dX6_run_9 : decode cX6_run 9 = .ok (.sipush 9999, 3) := by decide +kernel
theorem dX6_run_12 : decode cX6_run 12 = .ok (.if_icmp .le 6, 3) := by decide +kernel
theorem dX6_run_15 : decode cX6_run 15 = .ok (.bipush (-3), 2) := by decide +kernel
theorem dX6_run_17 : decode cX6_run 17 = .ok (.ireturn, 1) := by decide +kernel
theorem dX6_run_18 : decode cX6_run 18 = .ok (.iconst 0, 1) := by decide +kernel
theorem dX6_run_19 : decode cX6_run 19 = .ok (.istore_n 1, 1) := by decide +kernel
theorem dX6_run_20 : decode cX6_run 20 = .ok (.iload_n 1, 1) := by decide +kernel
theorem dX6_run_21 : decode cX6_run 21 = .ok (.aload_n 0, 1) := by decide +kernel
theorem dX6_run_22 : decode cX6_run 22 = .ok (.getfield 121, 3) := by decide +kernel
theorem dX6_run_25 : decode cX6_run 25 = .ok (.if_icmp .ge 22, 3) := by decide +kernel
theorem dX6_run_28 : decode cX6_run 28 = .ok (.aload_n 0, 1) := by decide +kernel
theorem dX6_run_29 : decode cX6_run 29 = .ok (.aload_n 0, 1) := by decide +kernel
theorem dX6_run_30 : decode cX6_run 30 = .ok (.getfield 35, 3) := by decide +kernel
theorem dX6_run_33 : decode cX6_run 33 = .ok (.iload_n 1, 1) := by decide +kernel
theorem dX6_run_34 : decode cX6_run 34 = .ok (.iaload, 1) := by decide +kernel
theorem dX6_run_35 : decode cX6_run 35 = .ok (.invokevirtual 207, 3) := by decide +kernel
theorem dX6_run_38 : decode cX6_run 38 = .ok (.ifCond .lt 9, 3) := by decide +kernel
theorem dX6_run_41 : decode cX6_run 41 = .ok (.iinc 1 1, 3) := by decide +kernel
theorem dX6_run_44 : decode cX6_run 44 = .ok (.goto (-24), 3) := by decide +kernel
theorem dX6_run_47 : decode cX6_run 47 = .ok (.iload_n 1, 1) := by decide +kernel
theorem dX6_run_48 : decode cX6_run 48 = .ok (.ireturn, 1) := by decide +kernel
theorem dX6_nextRow_0 : decode cX6_nextRow 0 = .ok (.iload_n 1, 1) := by decide +kernel
theorem dX6_nextRow_1 : decode cX6_nextRow 1 = .ok (.iconst 1, 1) := by decide +kernel
theorem dX6_nextRow_2 : decode cX6_nextRow 2 = .ok (.isub, 1) := by decide +kernel
theorem dX6_nextRow_3 : decode cX6_nextRow 3 = .ok (.istore_n 2, 1) := by decide +kernel
theorem dX6_nextRow_4 : decode cX6_nextRow 4 = .ok (.iload_n 2, 1) := by decide +kernel
theorem dX6_nextRow_5 : decode cX6_nextRow 5 = .ok (.ifCond .lt 41, 3) := by decide +kernel
theorem dX6_nextRow_8 : decode cX6_nextRow 8 = .ok (.aload_n 0, 1) := by decide +kernel
theorem dX6_nextRow_9 : decode cX6_nextRow 9 = .ok (.getfield 50, 3) := by decide +kernel
theorem dX6_nextRow_12 : decode cX6_nextRow 12 = .ok (.iload_n 2, 1) := by decide +kernel
theorem dX6_nextRow_13 : decode cX6_nextRow 13 = .ok (.dup2, 1) := by decide +kernel
theorem dX6_nextRow_14 : decode cX6_nextRow 14 = .ok (.iaload, 1) := by decide +kernel
theorem dX6_nextRow_15 : decode cX6_nextRow 15 = .ok (.iconst 1, 1) := by decide +kernel
theorem dX6_nextRow_16 : decode cX6_nextRow 16 = .ok (.iadd, 1) := by decide +kernel
theorem dX6_nextRow_17 : decode cX6_nextRow 17 = .ok (.iastore, 1) := by decide +kernel
theorem dX6_nextRow_18 : decode cX6_nextRow 18 = .ok (.aload_n 0, 1) := by decide +kernel
theorem dX6_nextRow_19 : decode cX6_nextRow 19 = .ok (.getfield 50, 3) := by decide +kernel
theorem dX6_nextRow_22 : decode cX6_nextRow 22 = .ok (.iload_n 2, 1) := by decide +kernel
theorem dX6_nextRow_23 : decode cX6_nextRow 23 = .ok (.iaload, 1) := by decide +kernel
theorem dX6_nextRow_24 : decode cX6_nextRow 24 = .ok (.aload_n 0, 1) := by decide +kernel
theorem dX6_nextRow_25 : decode cX6_nextRow 25 = .ok (.getfield 72, 3) := by decide +kernel
theorem dX6_nextRow_28 : decode cX6_nextRow 28 = .ok (.if_icmp .gt 5, 3) := by decide +kernel
theorem dX6_nextRow_31 : decode cX6_nextRow 31 = .ok (.iconst 1, 1) := by decide +kernel
theorem dX6_nextRow_32 : decode cX6_nextRow 32 = .ok (.ireturn, 1) := by decide +kernel
theorem dX6_nextRow_33 : decode cX6_nextRow 33 = .ok (.aload_n 0, 1) := by decide +kernel
theorem dX6_nextRow_34 : decode cX6_nextRow 34 = .ok (.getfield 50, 3) := by decide +kernel
theorem dX6_nextRow_37 : decode cX6_nextRow 37 = .ok (.iload_n 2, 1) := by decide +kernel
theorem dX6_nextRow_38 : decode cX6_nextRow 38 = .ok (.iconst 0, 1) := by decide +kernel
theorem dX6_nextRow_39 : decode cX6_nextRow 39 = .ok (.iastore, 1) := by decide +kernel
theorem dX6_nextRow_40 : decode cX6_nextRow 40 = .ok (.iinc 2 (-1), 3) := by decide +kernel
theorem dX6_nextRow_43 : decode cX6_nextRow 43 = .ok (.goto (-39), 3) := by decide +kernel
theorem dX6_nextRow_46 : decode cX6_nextRow 46 = .ok (.iconst 0, 1) := by decide +kernel
theorem dX6_nextRow_47 : decode cX6_nextRow 47 = .ok (.ireturn, 1) := by decide +kernel
set_option maxRecDepth 20000 in
theorem ggX6_findMost_X6_begin : GoodIn wsX6_findMost wsX6_begin := goodIn_r _ [11, 12, 2, 13, 14, 15, 16, 17, 18, 19, 20, 53, 54, 55, 56, 57, 58, 59, 60, 61, 62, 63, 64, 65, 66, 67, 68, 69, 70, 71, 72, 73, 74, 75, 76, 77, 78, 79, 80, 81, 82, 83, 84, 85, 86, 87, 88] (by decide +kernel) (by decide +kernel)
set_option maxRecDepth 20000 in
theorem gX6_findMost_X6_begin : GoodIn wsX6_findMost (wsV RX6 198 RX6 yX6_begin wsX6_begin) := goodIn_app (goodIn_of _ (by decide +kernel)) ggX6_findMost_X6_begin
set_option maxRecDepth 20000 in
theorem ggX6_findMost_X6_tryOne : GoodIn wsX6_findMost wsX6_tryOne := goodIn_r _ [24, 5, 4, 19, 16, 18, 25, 26, 2, 14, 27, 28, 29, 30, 10, 31, 32, 33, 34, 35, 36, 37, 38, 39, 40, 41, 42, 43, 44, 45, 46, 47, 48, 53, 54, 55, 56, 57, 58, 59, 60, 61, 62, 63, 64, 65, 66, 67, 68, 69, 70, 71, 72, 73, 74, 75, 76, 77, 78, 79, 80, 81, 82, 83, 84, 85, 86, 87, 88] (by decide +kernel) (by decide +kernel)
set_option maxRecDepth 20000 in
theorem gX6_findMost_X6_tryOne : GoodIn wsX6_findMost (wsV RX6 201 RX6 yX6_tryOne wsX6_tryOne) := goodIn_app (goodIn_of _ (by decide +kernel)) ggX6_findMost_X6_tryOne
set_option maxRecDepth 20000 in
theorem ggX6_findMost_X6_nextRow : GoodIn wsX6_findMost wsX6_nextRow := goodIn_r _ [52, 1, 3, 53, 54, 55, 56, 57, 58, 59, 60, 61, 62, 63, 64, 65, 66, 67, 68, 69, 70, 71, 72, 73, 74, 75, 76, 77, 78, 79, 80, 81, 82, 83, 84, 85, 86, 87, 88] (by decide +kernel) (by decide +kernel)
set_option maxRecDepth 20000 in
theorem gX6_findMost_X6_nextRow : GoodIn wsX6_findMost (wsV RX6 212 RX6 yX6_nextRow wsX6_nextRow) := goodIn_app (goodIn_of _ (by decide +kernel)) ggX6_findMost_X6_nextRow
theorem dX6_findMost_0 : decode cX6_findMost 0 = .ok (.iconst 0, 1) := by decide +kernel
theorem dX6_findMost_1 : decode cX6_findMost 1 = .ok (.istore_n 3, 1) := by decide +kernel
theorem dX6_findMost_2 : decode cX6_findMost 2 = .ok (.iload_n 3, 1) := by decide +kernel
theorem dX6_findMost_3 : decode cX6_findMost 3 = .ok (.iload_n 1, 1) := by decide +kernel
theorem dX6_findMost_4 : decode cX6_findMost 4 = .ok (.if_icmp .ge 16, 3) := by decide +kernel
theorem dX6_findMost_7 : decode cX6_findMost 7 = .ok (.aload_n 0, 1) := by decide +kernel
theorem dX6_findMost_8 : decode cX6_findMost 8 = .ok (.getfield 50, 3) := by decide +kernel
theorem dX6_findMost_11 : decode cX6_findMost 11 = .ok (.iload_n 3, 1) := by decide +kernel
theorem dX6_findMost_12 : decode cX6_findMost 12 = .ok (.iconst 0, 1) := by decide +kernel
theorem dX6_findMost_13 : decode cX6_findMost 13 = .ok (.iastore, 1) := by decide +kernel
theorem dX6_findMost_14 : decode cX6_findMost 14 = .ok (.iinc 3 1, 3) := by decide +kernel
theorem dX6_findMost_17 : decode cX6_findMost 17 = .ok (.goto (-15), 3) := by decide +kernel
theorem dX6_findMost_20 : decode cX6_findMost 20 = .ok (.iconst (-1), 1) := by decide +kernel
theorem dX6_findMost_21 : decode cX6_findMost 21 = .ok (.istore_n 3, 1) := by decide +kernel
theorem dX6_findMost_22 : decode cX6_findMost 22 = .ok (.iconst 1, 1) := by decide +kernel
theorem dX6_findMost_23 : decode cX6_findMost 23 = .ok (.istore 4, 2) := by decide +kernel
theorem dX6_findMost_25 : decode cX6_findMost 25 = .ok (.iload 4, 2) := by decide +kernel
theorem dX6_findMost_27 : decode cX6_findMost 27 = .ok (.ifCond .eq 167, 3) := by decide +kernel
theorem dX6_findMost_30 : decode cX6_findMost 30 = .ok (.aload_n 0, 1) := by decide +kernel
theorem dX6_findMost_31 : decode cX6_findMost 31 = .ok (.invokevirtual 198, 3) := by decide +kernel
theorem dX6_findMost_34 : decode cX6_findMost 34 = .ok (.aload_n 0, 1) := by decide +kernel
theorem dX6_findMost_35 : decode cX6_findMost 35 = .ok (.iload_n 2, 1) := by decide +kernel
theorem dX6_findMost_36 : decode cX6_findMost 36 = .ok (.putfield 159, 3) := by decide +kernel
theorem dX6_findMost_39 : decode cX6_findMost 39 = .ok (.iconst 0, 1) := by decide +kernel
theorem dX6_findMost_40 : decode cX6_findMost 40 = .ok (.istore 5, 2) := by decide +kernel
theorem dX6_findMost_42 : decode cX6_findMost 42 = .ok (.iconst 1, 1) := by decide +kernel
theorem dX6_findMost_43 : decode cX6_findMost 43 = .ok (.istore 6, 2) := by decide +kernel
theorem dX6_findMost_45 : decode cX6_findMost 45 = .ok (.iconst 0, 1) := by decide +kernel
theorem dX6_findMost_46 : decode cX6_findMost 46 = .ok (.istore 7, 2) := by decide +kernel
theorem dX6_findMost_48 : decode cX6_findMost 48 = .ok (.iload 7, 2) := by decide +kernel
theorem dX6_findMost_50 : decode cX6_findMost 50 = .ok (.iload_n 1, 1) := by decide +kernel
theorem dX6_findMost_51 : decode cX6_findMost 51 = .ok (.if_icmp .ge 71, 3) := by decide +kernel
theorem dX6_findMost_54 : decode cX6_findMost 54 = .ok (.iload 6, 2) := by decide +kernel
theorem dX6_findMost_56 : decode cX6_findMost 56 = .ok (.ifCond .eq 66, 3) := by decide +kernel
theorem dX6_findMost_59 : decode cX6_findMost 59 = .ok (.aload_n 0, 1) := by decide +kernel
theorem dX6_findMost_60 : decode cX6_findMost 60 = .ok (.aload_n 0, 1) := by decide +kernel
theorem dX6_findMost_61 : decode cX6_findMost 61 = .ok (.getfield 50, 3) := by decide +kernel
theorem dX6_findMost_64 : decode cX6_findMost 64 = .ok (.iload 7, 2) := by decide +kernel
theorem dX6_findMost_66 : decode cX6_findMost 66 = .ok (.iaload, 1) := by decide +kernel
theorem dX6_findMost_67 : decode cX6_findMost 67 = .ok (.aload_n 0, 1) := by decide +kernel
theorem dX6_findMost_68 : decode cX6_findMost 68 = .ok (.getfield 72, 3) := by decide +kernel
theorem dX6_findMost_71 : decode cX6_findMost 71 = .ok (.if_icmp .ne 8, 3) := by decide +kernel
theorem dX6_findMost_74 : decode cX6_findMost 74 = .ok (.bipush 9, 2) := by decide +kernel
theorem dX6_findMost_76 : decode cX6_findMost 76 = .ok (.goto 10, 3) := by decide +kernel
theorem dX6_findMost_79 : decode cX6_findMost 79 = .ok (.aload_n 0, 1) := by decide +kernel
theorem dX6_findMost_80 : decode cX6_findMost 80 = .ok (.getfield 50, 3) := by decide +kernel
theorem dX6_findMost_83 : decode cX6_findMost 83 = .ok (.iload 7, 2) := by decide +kernel
theorem dX6_findMost_85 : decode cX6_findMost 85 = .ok (.iaload, 1) := by decide +kernel
theorem dX6_findMost_86 : decode cX6_findMost 86 = .ok (.invokevirtual 201, 3) := by decide +kernel
theorem dX6_findMost_89 : decode cX6_findMost 89 = .ok (.istore 6, 2) := by decide +kernel
theorem dX6_findMost_91 : decode cX6_findMost 91 = .ok (.iload 5, 2) := by decide +kernel
theorem dX6_findMost_93 : decode cX6_findMost 93 = .ok (.iload 6, 2) := by decide +kernel
theorem dX6_findMost_95 : decode cX6_findMost 95 = .ok (.ifCond .eq 17, 3) := by decide +kernel
theorem dX6_findMost_98 : decode cX6_findMost 98 = .ok (.aload_n 0, 1) := by decide +kernel
theorem dX6_findMost_99 : decode cX6_findMost 99 = .ok (.getfield 174, 3) := by decide +kernel
theorem dX6_findMost_102 : decode cX6_findMost 102 = .ok (.ifCond .eq 10, 3) := by decide +kernel
theorem dX6_findMost_105 : decode cX6_findMost 105 = .ok (.aload_n 0, 1) := by decide +kernel
theorem dX6_findMost_106 : decode cX6_findMost 106 = .ok (.getfield 171, 3) := by decide +kernel
theorem dX6_findMost_109 : decode cX6_findMost 109 = .ok (.goto 4, 3) := by decide +kernel
theorem dX6_findMost_112 : decode cX6_findMost 112 = .ok (.iconst 0, 1) := by decide +kernel
theorem dX6_findMost_113 : decode cX6_findMost 113 = .ok (.iadd, 1) := by decide +kernel
theorem dX6_findMost_114 : decode cX6_findMost 114 = .ok (.istore 5, 2) := by decide +kernel
theorem dX6_findMost_116 : decode cX6_findMost 116 = .ok (.iinc 7 1, 3) := by decide +kernel
theorem dX6_findMost_119 : decode cX6_findMost 119 = .ok (.goto (-71), 3) := by decide +kernel
theorem dX6_findMost_122 : decode cX6_findMost 122 = .ok (.iload 6, 2) := by decide +kernel
theorem dX6_findMost_124 : decode cX6_findMost 124 = .ok (.ifCond .eq 60, 3) := by decide +kernel
theorem dX6_findMost_127 : decode cX6_findMost 127 = .ok (.iload 5, 2) := by decide +kernel
theorem dX6_findMost_129 : decode cX6_findMost 129 = .ok (.iload_n 3, 1) := by decide +kernel
theorem dX6_findMost_130 : decode cX6_findMost 130 = .ok (.if_icmp .le 54, 3) := by decide +kernel
theorem dX6_findMost_133 : decode cX6_findMost 133 = .ok (.iload 5, 2) := by decide +kernel
theorem dX6_findMost_135 : decode cX6_findMost 135 = .ok (.istore_n 3, 1) := by decide +kernel
theorem dX6_findMost_136 : decode cX6_findMost 136 = .ok (.iconst 0, 1) := by decide +kernel
theorem dX6_findMost_137 : decode cX6_findMost 137 = .ok (.istore 7, 2) := by decide +kernel
theorem dX6_findMost_139 : decode cX6_findMost 139 = .ok (.iload 7, 2) := by decide +kernel
theorem dX6_findMost_141 : decode cX6_findMost 141 = .ok (.iload_n 1, 1) := by decide +kernel
theorem dX6_findMost_142 : decode cX6_findMost 142 = .ok (.if_icmp .ge 42, 3) := by decide +kernel
theorem dX6_findMost_145 : decode cX6_findMost 145 = .ok (.aload_n 0, 1) := by decide +kernel
theorem dX6_findMost_146 : decode cX6_findMost 146 = .ok (.getfield 53, 3) := by decide +kernel
theorem dX6_findMost_149 : decode cX6_findMost 149 = .ok (.iload 7, 2) := by decide +kernel
theorem dX6_findMost_151 : decode cX6_findMost 151 = .ok (.aload_n 0, 1) := by decide +kernel
theorem dX6_findMost_152 : decode cX6_findMost 152 = .ok (.getfield 50, 3) := by decide +kernel
theorem dX6_findMost_155 : decode cX6_findMost 155 = .ok (.iload 7, 2) := by decide +kernel
theorem dX6_findMost_157 : decode cX6_findMost 157 = .ok (.iaload, 1) := by decide +kernel
theorem dX6_findMost_158 : decode cX6_findMost 158 = .ok (.aload_n 0, 1) := by decide +kernel
theorem dX6_findMost_159 : decode cX6_findMost 159 = .ok (.getfield 72, 3) := by decide +kernel
theorem dX6_findMost_162 : decode cX6_findMost 162 = .ok (.if_icmp .ne 8, 3) := by decide +kernel
theorem dX6_findMost_165 : decode cX6_findMost 165 = .ok (.bipush 9, 2) := by decide +kernel
theorem dX6_findMost_167 : decode cX6_findMost 167 = .ok (.goto 10, 3) := by decide +kernel
theorem dX6_findMost_170 : decode cX6_findMost 170 = .ok (.aload_n 0, 1) := by decide +kernel
theorem dX6_findMost_171 : decode cX6_findMost 171 = .ok (.getfield 50, 3) := by decide +kernel
theorem dX6_findMost_174 : decode cX6_findMost 174 = .ok (.iload 7, 2) := by decide +kernel
theorem dX6_findMost_176 : decode cX6_findMost 176 = .ok (.iaload, 1) := by decide +kernel
theorem dX6_findMost_177 : decode cX6_findMost 177 = .ok (.iastore, 1) := by decide +kernel
theorem dX6_findMost_178 : decode cX6_findMost 178 = .ok (.iinc 7 1, 3) := by decide +kernel
theorem dX6_findMost_181 : decode cX6_findMost 181 = .ok (.goto (-42), 3) := by decide +kernel
theorem dX6_findMost_184 : decode cX6_findMost 184 = .ok (.aload_n 0, 1) := by decide +kernel
theorem dX6_findMost_185 : decode cX6_findMost 185 = .ok (.iload_n 1, 1) := by decide +kernel
theorem dX6_findMost_186 : decode cX6_findMost 186 = .ok (.invokevirtual 212, 3) := by decide +kernel
theorem dX6_findMost_189 : decode cX6_findMost 189 = .ok (.istore 4, 2) := by decide +kernel
theorem dX6_findMost_191 : decode cX6_findMost 191 = .ok (.goto (-166), 3) := by decide +kernel
theorem dX6_findMost_194 : decode cX6_findMost 194 = .ok (.iload_n 3, 1) := by decide +kernel
theorem dX6_findMost_195 : decode cX6_findMost 195 = .ok (.ireturn, 1) := by decide +kernel
set_option maxRecDepth 20000 in
theorem ggX6_most_X6_in : GoodIn wsX6_most wsX6_in := goodIn_r _ [6] (by decide +kernel) (by decide +kernel)
set_option maxRecDepth 20000 in
theorem gX6_most_X6_in : GoodIn wsX6_most (va_wsS RX6 75 yX6_in wsX6_in) := goodIn_app (goodIn_of _ (by decide +kernel)) ggX6_most_X6_in
set_option maxRecDepth 20000 in
theorem ggX6_most_X6_findMost : GoodIn wsX6_most wsX6_findMost := goodIn_r _ [10, 11, 12, 13, 14, 15, 16, 17, 18, 19, 5, 20, 2, 21, 22, 23, 24, 25, 26, 27, 28, 29, 30, 31, 32, 33, 34, 35, 36, 37, 38, 39, 40, 41, 42, 43, 44, 45, 46, 47, 48, 49, 50, 51, 52, 53, 54, 55, 56, 57, 58, 59, 60, 61, 62, 63, 64, 65, 66, 67, 68, 69, 70, 71, 72, 73, 74, 75, 76, 77, 78, 79, 80, 81, 82, 83, 84, 85, 86, 87, 88, 89, 90, 91, 92, 93, 94, 95, 96] (by decide +kernel) (by decide +kernel)
set_option maxRecDepth 20000 in
theorem gX6_most_X6_findMost : GoodIn wsX6_most (wsV RX6 217 RX6 yX6_findMost wsX6_findMost) := goodIn_app (goodIn_of _ (by decide +kernel)) ggX6_most_X6_findMost
theorem dX6_most_0 : decode cX6_most 0 = .ok (.iload_n 1, 1) := by decide +kernel
theorem dX6_most_1 : decode cX6_most 1 = .ok (.i2l, 1) := by decide +kernel
theorem dX6_most_2 : decode cX6_most 2 = .ok (.lconst 1, 1) := by decide +kernel
theorem dX6_most_3 : decode cX6_most 3 = .ok (.ldc2_w 215, 3) := by decide +kernel
theorem dX6_most_6 : decode cX6_most 6 = .ok (.invokestatic 75, 3) := by decide +kernel
theorem dX6_most_9 : decode cX6_most 9 = .ok (.ifCond .eq 15, 3) := by decide +kernel
theorem dX6_most_12 : decode cX6_most 12 = .ok (.aload_n 0, 1) := by decide +kernel
theorem dX6_most_13 : decode cX6_most 13 = .ok (.iload_n 1, 1) := by decide +kernel
theorem dX6_most_14 : decode cX6_most 14 = .ok (.aload_n 0, 1) := by decide +kernel
theorem dX6_most_15 : decode cX6_most 15 = .ok (.getfield 112, 3) := by decide +kernel
theorem dX6_most_18 : decode cX6_most 18 = .ok (.invokevirtual 217, 3) := by decide +kernel
theorem dX6_most_21 : decode cX6_most 21 = .ok (.goto 4, 3) := by decide +kernel
theorem dX6_most_24 : decode cX6_most 24 = .ok (.iconst (-1), 1) := by decide +kernel
theorem dX6_most_25 : decode cX6_most 25 = .ok (.ireturn, 1) := by decide +kernel
set_option maxRecDepth 20000 in
theorem ggX6_row_X6_in : GoodIn wsX6_row wsX6_in := goodIn_r _ [7] (by decide +kernel) (by decide +kernel)
set_option maxRecDepth 20000 in
theorem gX6_row_X6_in : GoodIn wsX6_row (va_wsS RX6 75 yX6_in wsX6_in) := goodIn_app (goodIn_of _ (by decide +kernel)) ggX6_row_X6_in
set_option maxRecDepth 20000 in
theorem ggX6_row_X6_findMost : GoodIn wsX6_row wsX6_findMost := goodIn_r _ [11, 12, 13, 14, 15, 16, 3, 17, 18, 19, 6, 20, 2, 21, 22, 23, 24, 25, 26, 27, 28, 29, 30, 31, 32, 33, 34, 35, 36, 37, 38, 39, 40, 41, 42, 43, 44, 45, 46, 47, 48, 49, 50, 51, 52, 53, 54, 55, 56, 57, 58, 59, 60, 61, 62, 63, 64, 65, 66, 67, 68, 69, 70, 71, 72, 73, 74, 75, 76, 77, 78, 79, 80, 81, 82, 83, 84, 85, 86, 87, 88, 89, 90, 91, 92, 93, 94, 95, 96] (by decide +kernel) (by decide +kernel)
set_option maxRecDepth 20000 in
theorem gX6_row_X6_findMost : GoodIn wsX6_row (wsV RX6 217 RX6 yX6_findMost wsX6_findMost) := goodIn_app (goodIn_of _ (by decide +kernel)) ggX6_row_X6_findMost
theorem dX6_row_0 : decode cX6_row 0 = .ok (.iload_n 1, 1) := by decide +kernel
theorem dX6_row_1 : decode cX6_row 1 = .ok (.i2l, 1) := by decide +kernel
theorem dX6_row_2 : decode cX6_row 2 = .ok (.lconst 1, 1) := by decide +kernel
theorem dX6_row_3 : decode cX6_row 3 = .ok (.ldc2_w 215, 3) := by decide +kernel
theorem dX6_row_6 : decode cX6_row 6 = .ok (.invokestatic 75, 3) := by decide +kernel
theorem dX6_row_9 : decode cX6_row 9 = .ok (.ifCond .eq 16, 3) := by decide +kernel
theorem dX6_row_12 : decode cX6_row 12 = .ok (.iload_n 2, 1) := by decide +kernel
theorem dX6_row_13 : decode cX6_row 13 = .ok (.i2l, 1) := by decide +kernel
theorem dX6_row_14 : decode cX6_row 14 = .ok (.lconst 0, 1) := by decide +kernel
theorem dX6_row_15 : decode cX6_row 15 = .ok (.iload_n 1, 1) := by decide +kernel
theorem dX6_row_16 : decode cX6_row 16 = .ok (.iconst 1, 1) := by decide +kernel
theorem dX6_row_17 : decode cX6_row 17 = .ok (.isub, 1) := by decide +kernel
theorem dX6_row_18 : decode cX6_row 18 = .ok (.i2l, 1) := by decide +kernel
theorem dX6_row_19 : decode cX6_row 19 = .ok (.invokestatic 75, 3) := by decide +kernel
theorem dX6_row_22 : decode cX6_row 22 = .ok (.ifCond .ne 5, 3) := by decide +kernel
theorem dX6_row_25 : decode cX6_row 25 = .ok (.iconst (-1), 1) := by decide +kernel
theorem dX6_row_26 : decode cX6_row 26 = .ok (.ireturn, 1) := by decide +kernel
theorem dX6_row_27 : decode cX6_row 27 = .ok (.aload_n 0, 1) := by decide +kernel
theorem dX6_row_28 : decode cX6_row 28 = .ok (.iload_n 1, 1) := by decide +kernel
theorem dX6_row_29 : decode cX6_row 29 = .ok (.aload_n 0, 1) := by decide +kernel
theorem dX6_row_30 : decode cX6_row 30 = .ok (.getfield 112, 3) := by decide +kernel
theorem dX6_row_33 : decode cX6_row 33 = .ok (.invokevirtual 217, 3) := by decide +kernel
theorem dX6_row_36 : decode cX6_row 36 = .ok (.pop, 1) := by decide +kernel
theorem dX6_row_37 : decode cX6_row 37 = .ok (.aload_n 0, 1) := by decide +kernel
theorem dX6_row_38 : decode cX6_row 38 = .ok (.getfield 53, 3) := by decide +kernel
theorem dX6_row_41 : decode cX6_row 41 = .ok (.iload_n 2, 1) := by decide +kernel
theorem dX6_row_42 : decode cX6_row 42 = .ok (.iaload, 1) := by decide +kernel
theorem dX6_row_43 : decode cX6_row 43 = .ok (.ireturn, 1) := by decide +kernel
set_option maxRecDepth 20000 in
theorem ggX6_fewest_X6_in : GoodIn wsX6_fewest wsX6_in := goodIn_r _ [6] (by decide +kernel) (by decide +kernel)
set_option maxRecDepth 20000 in
theorem gX6_fewest_X6_in : GoodIn wsX6_fewest (va_wsS RX6 75 yX6_in wsX6_in) := goodIn_app (goodIn_of _ (by decide +kernel)) ggX6_fewest_X6_in
set_option maxRecDepth 20000 in
theorem ggX6_fewest_X6_findMost : GoodIn wsX6_fewest wsX6_findMost := goodIn_r _ [10, 11, 12, 13, 14, 15, 16, 17, 18, 19, 5, 20, 2, 21, 22, 23, 24, 25, 26, 27, 28, 29, 30, 31, 32, 33, 34, 35, 36, 37, 38, 39, 40, 41, 42, 43, 44, 45, 46, 47, 48, 49, 50, 51, 52, 53, 54, 55, 56, 57, 58, 59, 60, 61, 62, 63, 64, 65, 66, 67, 68, 69, 70, 71, 72, 73, 74, 75, 76, 77, 78, 79, 80, 81, 82, 83, 84, 85, 86, 87, 88, 89, 90, 91, 92, 93, 94, 95, 96] (by decide +kernel) (by decide +kernel)
set_option maxRecDepth 20000 in
theorem gX6_fewest_X6_findMost : GoodIn wsX6_fewest (wsV RX6 217 RX6 yX6_findMost wsX6_findMost) := goodIn_app (goodIn_of _ (by decide +kernel)) ggX6_fewest_X6_findMost
theorem dX6_fewest_0 : decode cX6_fewest 0 = .ok (.iload_n 1, 1) := by decide +kernel
theorem dX6_fewest_1 : decode cX6_fewest 1 = .ok (.i2l, 1) := by decide +kernel
theorem dX6_fewest_2 : decode cX6_fewest 2 = .ok (.lconst 0, 1) := by decide +kernel
theorem dX6_fewest_3 : decode cX6_fewest 3 = .ok (.ldc2_w 220, 3) := by decide +kernel
theorem dX6_fewest_6 : decode cX6_fewest 6 = .ok (.invokestatic 75, 3) := by decide +kernel
theorem dX6_fewest_9 : decode cX6_fewest 9 = .ok (.ifCond .ne 5, 3) := by decide +kernel
theorem dX6_fewest_12 : decode cX6_fewest 12 = .ok (.iconst (-1), 1) := by decide +kernel
theorem dX6_fewest_13 : decode cX6_fewest 13 = .ok (.ireturn, 1) := by decide +kernel
theorem dX6_fewest_14 : decode cX6_fewest 14 = .ok (.iload_n 1, 1) := by decide +kernel
theorem dX6_fewest_15 : decode cX6_fewest 15 = .ok (.ifCond .ne 5, 3) := by decide +kernel
theorem dX6_fewest_18 : decode cX6_fewest 18 = .ok (.iconst 0, 1) := by decide +kernel
theorem dX6_fewest_19 : decode cX6_fewest 19 = .ok (.ireturn, 1) := by decide +kernel
theorem dX6_fewest_20 : decode cX6_fewest 20 = .ok (.iconst 1, 1) := by decide +kernel
theorem dX6_fewest_21 : decode cX6_fewest 21 = .ok (.istore_n 2, 1) := by decide +kernel
theorem dX6_fewest_22 : decode cX6_fewest 22 = .ok (.iload_n 2, 1) := by decide +kernel
theorem dX6_fewest_23 : decode cX6_fewest 23 = .ok (.iconst 5, 1) := by decide +kernel
theorem dX6_fewest_24 : decode cX6_fewest 24 = .ok (.if_icmp .gt 24, 3) := by decide +kernel
theorem dX6_fewest_27 : decode cX6_fewest 27 = .ok (.aload_n 0, 1) := by decide +kernel
theorem dX6_fewest_28 : decode cX6_fewest 28 = .ok (.iload_n 2, 1) := by decide +kernel
theorem dX6_fewest_29 : decode cX6_fewest 29 = .ok (.aload_n 0, 1) := by decide +kernel
theorem dX6_fewest_30 : decode cX6_fewest 30 = .ok (.getfield 112, 3) := by decide +kernel
theorem dX6_fewest_33 : decode cX6_fewest 33 = .ok (.invokevirtual 217, 3) := by decide +kernel
theorem dX6_fewest_36 : decode cX6_fewest 36 = .ok (.iload_n 1, 1) := by decide +kernel
theorem dX6_fewest_37 : decode cX6_fewest 37 = .ok (.if_icmp .lt 5, 3) := by decide +kernel
theorem dX6_fewest_40 : decode cX6_fewest 40 = .ok (.iload_n 2, 1) := by decide +kernel
theorem dX6_fewest_41 : decode cX6_fewest 41 = .ok (.ireturn, 1) := by decide +kernel
theorem dX6_fewest_42 : decode cX6_fewest 42 = .ok (.iinc 2 1, 3) := by decide +kernel
theorem dX6_fewest_45 : decode cX6_fewest 45 = .ok (.goto (-23), 3) := by decide +kernel
theorem dX6_fewest_48 : decode cX6_fewest 48 = .ok (.bipush (-4), 2) := by decide +kernel
theorem dX6_fewest_50 : decode cX6_fewest 50 = .ok (.ireturn, 1) := by decide +kernel
set_option maxRecDepth 20000 in
theorem ggX6_peace_X6_findMost : GoodIn wsX6_peace wsX6_findMost := goodIn_r _ [8, 9, 10, 2, 11, 12, 13, 14, 15, 16, 7, 17, 1, 18, 19, 20, 21, 22, 23, 24, 25, 26, 27, 28, 29, 3, 30, 31, 32, 33, 34, 35, 36, 37, 38, 39, 40, 41, 42, 43, 44, 45, 46, 47, 48, 49, 50, 51, 52, 53, 54, 55, 56, 61, 62, 63, 64, 65, 66, 67, 68, 69, 70, 71, 72, 73, 74, 75, 76, 77, 78, 79, 80, 81, 82, 83, 84, 85, 86, 87, 88, 89, 90, 91, 92, 93, 94, 95, 96] (by decide +kernel) (by decide +kernel)
set_option maxRecDepth 20000 in
theorem gX6_peace_X6_findMost : GoodIn wsX6_peace (wsV RX6 217 RX6 yX6_findMost wsX6_findMost) := goodIn_app (goodIn_of _ (by decide +kernel)) ggX6_peace_X6_findMost
set_option maxRecDepth 20000 in
theorem ggX6_peace_X6_has : GoodIn wsX6_peace wsX6_has := goodIn_r _ [35] (by decide +kernel) (by decide +kernel)
set_option maxRecDepth 20000 in
theorem gX6_peace_X6_has : GoodIn wsX6_peace (va_wsS RX6 178 yX6_has wsX6_has) := goodIn_app (goodIn_of _ (by decide +kernel)) ggX6_peace_X6_has
set_option maxRecDepth 20000 in
theorem ggX6_peace_X6_setQuarrel : GoodIn wsX6_peace wsX6_setQuarrel := goodIn_r _ [60, 3, 61, 62, 63, 64, 65, 66, 67, 68, 69, 70, 71, 72, 73, 74, 75, 76, 77, 78, 79, 80, 81, 82, 83, 84, 85, 86, 87, 88, 89, 90, 91, 92, 93, 94, 95, 96] (by decide +kernel) (by decide +kernel)
set_option maxRecDepth 20000 in
theorem gX6_peace_X6_setQuarrel : GoodIn wsX6_peace (wsV RX6 101 RX6 yX6_setQuarrel wsX6_setQuarrel) := goodIn_app (goodIn_of _ (by decide +kernel)) ggX6_peace_X6_setQuarrel
theorem dX6_peace_0 : decode cX6_peace 0 = .ok (.aload_n 0, 1) := by decide +kernel
theorem dX6_peace_1 : decode cX6_peace 1 = .ok (.iconst 4, 1) := by decide +kernel
theorem dX6_peace_2 : decode cX6_peace 2 = .ok (.aload_n 0, 1) := by decide +kernel
theorem dX6_peace_3 : decode cX6_peace 3 = .ok (.getfield 112, 3) := by decide +kernel
theorem dX6_peace_6 : decode cX6_peace 6 = .ok (.invokevirtual 217, 3) := by decide +kernel
theorem dX6_peace_9 : decode cX6_peace 9 = .ok (.istore_n 1, 1) := by decide +kernel
theorem dX6_peace_10 : decode cX6_peace 10 = .ok (.bipush (-4), 2) := by decide +kernel
theorem dX6_peace_12 : decode cX6_peace 12 = .ok (.istore_n 2, 1) := by decide +kernel
theorem dX6_peace_13 : decode cX6_peace 13 = .ok (.iconst 0, 1) := by decide +kernel
theorem dX6_peace_14 : decode cX6_peace 14 = .ok (.istore_n 3, 1) := by decide +kernel
theorem dX6_peace_15 : decode cX6_peace 15 = .ok (.iload_n 3, 1) := by decide +kernel
theorem dX6_peace_16 : decode cX6_peace 16 = .ok (.aload_n 0, 1) := by decide +kernel
theorem dX6_peace_17 : decode cX6_peace 17 = .ok (.getfield 72, 3) := by decide +kernel
theorem dX6_peace_20 : decode cX6_peace 20 = .ok (.aload_n 0, 1) := by decide +kernel
theorem dX6_peace_21 : decode cX6_peace 21 = .ok (.getfield 72, 3) := by decide +kernel
theorem dX6_peace_24 : decode cX6_peace 24 = .ok (.imul, 1) := by decide +kernel
theorem dX6_peace_25 : decode cX6_peace 25 = .ok (.if_icmp .ge 108, 3) := by decide +kernel
theorem dX6_peace_28 : decode cX6_peace 28 = .ok (.iload_n 3, 1) := by decide +kernel
theorem dX6_peace_29 : decode cX6_peace 29 = .ok (.aload_n 0, 1) := by decide +kernel
theorem dX6_peace_30 : decode cX6_peace 30 = .ok (.getfield 72, 3) := by decide +kernel
theorem dX6_peace_33 : decode cX6_peace 33 = .ok (.idiv, 1) := by decide +kernel
theorem dX6_peace_34 : decode cX6_peace 34 = .ok (.istore 4, 2) := by decide +kernel
theorem dX6_peace_36 : decode cX6_peace 36 = .ok (.iload_n 3, 1) := by decide +kernel
theorem dX6_peace_37 : decode cX6_peace 37 = .ok (.aload_n 0, 1) := by decide +kernel
theorem dX6_peace_38 : decode cX6_peace 38 = .ok (.getfield 72, 3) := by decide +kernel
theorem dX6_peace_41 : decode cX6_peace 41 = .ok (.irem, 1) := by decide +kernel
theorem dX6_peace_42 : decode cX6_peace 42 = .ok (.istore 5, 2) := by decide +kernel
theorem dX6_peace_44 : decode cX6_peace 44 = .ok (.iload 4, 2) := by decide +kernel
theorem dX6_peace_46 : decode cX6_peace 46 = .ok (.iload 5, 2) := by decide +kernel
theorem dX6_peace_48 : decode cX6_peace 48 = .ok (.if_icmp .ge 79, 3) := by decide +kernel
theorem dX6_peace_51 : decode cX6_peace 51 = .ok (.aload_n 0, 1) := by decide +kernel
theorem dX6_peace_52 : decode cX6_peace 52 = .ok (.getfield 19, 3) := by decide +kernel
theorem dX6_peace_55 : decode cX6_peace 55 = .ok (.iload 4, 2) := by decide +kernel
theorem dX6_peace_57 : decode cX6_peace 57 = .ok (.iaload, 1) := by decide +kernel
theorem dX6_peace_58 : decode cX6_peace 58 = .ok (.iload 5, 2) := by decide +kernel
theorem dX6_peace_60 : decode cX6_peace 60 = .ok (.invokestatic 178, 3) := by decide +kernel
theorem dX6_peace_63 : decode cX6_peace 63 = .ok (.ifCond .eq 64, 3) := by decide +kernel
theorem dX6_peace_66 : decode cX6_peace 66 = .ok (.aload_n 0, 1) := by decide +kernel
theorem dX6_peace_67 : decode cX6_peace 67 = .ok (.iload 4, 2) := by decide +kernel
theorem dX6_peace_69 : decode cX6_peace 69 = .ok (.iload 5, 2) := by decide +kernel
theorem dX6_peace_71 : decode cX6_peace 71 = .ok (.iconst 0, 1) := by decide +kernel
theorem dX6_peace_72 : decode cX6_peace 72 = .ok (.invokevirtual 101, 3) := by decide +kernel
theorem dX6_peace_75 : decode cX6_peace 75 = .ok (.aload_n 0, 1) := by decide +kernel
theorem dX6_peace_76 : decode cX6_peace 76 = .ok (.iconst 4, 1) := by decide +kernel
theorem dX6_peace_77 : decode cX6_peace 77 = .ok (.aload_n 0, 1) := by decide +kernel
theorem dX6_peace_78 : decode cX6_peace 78 = .ok (.getfield 112, 3) := by decide +kernel
theorem dX6_peace_81 : decode cX6_peace 81 = .ok (.invokevirtual 217, 3) := by decide +kernel
theorem dX6_peace_84 : decode cX6_peace 84 = .ok (.istore 6, 2) := by decide +kernel
theorem dX6_peace_86 : decode cX6_peace 86 = .ok (.aload_n 0, 1) := by decide +kernel
theorem dX6_peace_87 : decode cX6_peace 87 = .ok (.iload 4, 2) := by decide +kernel
theorem dX6_peace_89 : decode cX6_peace 89 = .ok (.iload 5, 2) := by decide +kernel
theorem dX6_peace_91 : decode cX6_peace 91 = .ok (.iconst 1, 1) := by decide +kernel
theorem dX6_peace_92 : decode cX6_peace 92 = .ok (.invokevirtual 101, 3) := by decide +kernel
theorem dX6_peace_95 : decode cX6_peace 95 = .ok (.iload 6, 2) := by decide +kernel
theorem dX6_peace_97 : decode cX6_peace 97 = .ok (.iload_n 1, 1) := by decide +kernel
theorem dX6_peace_98 : decode cX6_peace 98 = .ok (.if_icmp .le 14, 3) := by decide +kernel
theorem dX6_peace_101 : decode cX6_peace 101 = .ok (.bipush 10, 2) := by decide +kernel
theorem dX6_peace_103 : decode cX6_peace 103 = .ok (.iload 4, 2) := by decide +kernel
theorem dX6_peace_105 : decode cX6_peace 105 = .ok (.imul, 1) := by decide +kernel
theorem dX6_peace_106 : decode cX6_peace 106 = .ok (.iload 5, 2) := by decide +kernel
theorem dX6_peace_108 : decode cX6_peace 108 = .ok (.iadd, 1) := by decide +kernel
theorem dX6_peace_109 : decode cX6_peace 109 = .ok (.goto 4, 3) := by decide +kernel
theorem dX6_peace_112 : decode cX6_peace 112 = .ok (.iload_n 2, 1) := by decide +kernel
theorem dX6_peace_113 : decode cX6_peace 113 = .ok (.istore_n 2, 1) := by decide +kernel
theorem dX6_peace_114 : decode cX6_peace 114 = .ok (.iload 6, 2) := by decide +kernel
theorem dX6_peace_116 : decode cX6_peace 116 = .ok (.iload_n 1, 1) := by decide +kernel
theorem dX6_peace_117 : decode cX6_peace 117 = .ok (.if_icmp .le 8, 3) := by decide +kernel
theorem dX6_peace_120 : decode cX6_peace 120 = .ok (.iload 6, 2) := by decide +kernel
theorem dX6_peace_122 : decode cX6_peace 122 = .ok (.goto 4, 3) := by decide +kernel
theorem dX6_peace_125 : decode cX6_peace 125 = .ok (.iload_n 1, 1) := by decide +kernel
theorem dX6_peace_126 : decode cX6_peace 126 = .ok (.istore_n 1, 1) := by decide +kernel
theorem dX6_peace_127 : decode cX6_peace 127 = .ok (.iinc 3 1, 3) := by decide +kernel
theorem dX6_peace_130 : decode cX6_peace 130 = .ok (.goto (-115), 3) := by decide +kernel
theorem dX6_peace_133 : decode cX6_peace 133 = .ok (.iload_n 2, 1) := by decide +kernel
theorem dX6_peace_134 : decode cX6_peace 134 = .ok (.ireturn, 1) := by decide +kernel
set_option maxRecDepth 20000 in
theorem ggX6_other_X6_in : GoodIn wsX6_other wsX6_in := goodIn_r _ [6] (by decide +kernel) (by decide +kernel)
set_option maxRecDepth 20000 in
theorem gX6_other_X6_in : GoodIn wsX6_other (va_wsS RX6 75 yX6_in wsX6_in) := goodIn_app (goodIn_of _ (by decide +kernel)) ggX6_other_X6_in
set_option maxRecDepth 20000 in
theorem ggX6_other_X6_findMost : GoodIn wsX6_other wsX6_findMost := goodIn_r _ [10, 11, 12, 13, 14, 15, 16, 17, 18, 19, 5, 20, 2, 21, 22, 23, 24, 25, 26, 27, 28, 29, 30, 31, 32, 33, 34, 35, 36, 37, 38, 39, 40, 41, 42, 43, 44, 45, 46, 47, 48, 49, 50, 51, 52, 53, 54, 55, 56, 57, 58, 59, 60, 61, 62, 63, 64, 65, 66, 67, 68, 69, 70, 71, 72, 73, 74, 75, 76, 77, 78, 79, 80, 81, 82, 83, 84, 85, 86, 87, 88, 89, 90, 91, 92, 93, 94, 95, 96] (by decide +kernel) (by decide +kernel)
set_option maxRecDepth 20000 in
theorem gX6_other_X6_findMost : GoodIn wsX6_other (wsV RX6 217 RX6 yX6_findMost wsX6_findMost) := goodIn_app (goodIn_of _ (by decide +kernel)) ggX6_other_X6_findMost
theorem dX6_other_0 : decode cX6_other 0 = .ok (.iload_n 1, 1) := by decide +kernel
theorem dX6_other_1 : decode cX6_other 1 = .ok (.i2l, 1) := by decide +kernel
theorem dX6_other_2 : decode cX6_other 2 = .ok (.lconst 1, 1) := by decide +kernel
theorem dX6_other_3 : decode cX6_other 3 = .ok (.ldc2_w 215, 3) := by decide +kernel
theorem dX6_other_6 : decode cX6_other 6 = .ok (.invokestatic 75, 3) := by decide +kernel
theorem dX6_other_9 : decode cX6_other 9 = .ok (.ifCond .eq 16, 3) := by decide +kernel
theorem dX6_other_12 : decode cX6_other 12 = .ok (.aload_n 0, 1) := by decide +kernel
theorem dX6_other_13 : decode cX6_other 13 = .ok (.iload_n 1, 1) := by decide +kernel
theorem dX6_other_14 : decode cX6_other 14 = .ok (.aload_n 0, 1) := by decide +kernel
theorem dX6_other_15 : decode cX6_other 15 = .ok (.getfield 112, 3) := by decide +kernel
theorem dX6_other_18 : decode cX6_other 18 = .ok (.ineg, 1) := by decide +kernel
theorem dX6_other_19 : decode cX6_other 19 = .ok (.invokevirtual 217, 3) := by decide +kernel
theorem dX6_other_22 : decode cX6_other 22 = .ok (.goto 4, 3) := by decide +kernel
theorem dX6_other_25 : decode cX6_other 25 = .ok (.iconst (-1), 1) := by decide +kernel
theorem dX6_other_26 : decode cX6_other 26 = .ok (.ireturn, 1) := by decide +kernel
set_option maxRecDepth 20000 in
theorem ggX6_givesOf_X6_pailsOf : GoodIn wsX6_givesOf wsX6_pailsOf := goodIn_r _ [6] (by decide +kernel) (by decide +kernel)
set_option maxRecDepth 20000 in
theorem gX6_givesOf_X6_pailsOf : GoodIn wsX6_givesOf (va_wsS RX6 182 yX6_pailsOf wsX6_pailsOf) := goodIn_app (goodIn_of _ (by decide +kernel)) ggX6_givesOf_X6_pailsOf
set_option maxRecDepth 20000 in
theorem ggX6_givesOf_X6_isSweet : GoodIn wsX6_givesOf wsX6_isSweet := goodIn_r _ [9] (by decide +kernel) (by decide +kernel)
set_option maxRecDepth 20000 in
theorem gX6_givesOf_X6_isSweet : GoodIn wsX6_givesOf (va_wsS RX6 185 yX6_isSweet wsX6_isSweet) := goodIn_app (goodIn_of _ (by decide +kernel)) ggX6_givesOf_X6_isSweet
theorem dX6_givesOf_0 : decode cX6_givesOf 0 = .ok (.aload_n 0, 1) := by decide +kernel
theorem dX6_givesOf_1 : decode cX6_givesOf 1 = .ok (.getfield 7, 3) := by decide +kernel
theorem dX6_givesOf_4 : decode cX6_givesOf 4 = .ok (.iload_n 1, 1) := by decide +kernel
theorem dX6_givesOf_5 : decode cX6_givesOf 5 = .ok (.iaload, 1) := by decide +kernel
theorem dX6_givesOf_6 : decode cX6_givesOf 6 = .ok (.iload_n 2, 1) := by decide +kernel
theorem dX6_givesOf_7 : decode cX6_givesOf 7 = .ok (.invokestatic 182, 3) := by decide +kernel
theorem dX6_givesOf_10 : decode cX6_givesOf 10 = .ok (.istore_n 3, 1) := by decide +kernel
theorem dX6_givesOf_11 : decode cX6_givesOf 11 = .ok (.iload_n 3, 1) := by decide +kernel
theorem dX6_givesOf_12 : decode cX6_givesOf 12 = .ok (.aload_n 0, 1) := by decide +kernel
theorem dX6_givesOf_13 : decode cX6_givesOf 13 = .ok (.getfield 25, 3) := by decide +kernel
theorem dX6_givesOf_16 : decode cX6_givesOf 16 = .ok (.if_icmp .ge 7, 3) := by decide +kernel
theorem dX6_givesOf_19 : decode cX6_givesOf 19 = .ok (.iload_n 3, 1) := by decide +kernel
theorem dX6_givesOf_20 : decode cX6_givesOf 20 = .ok (.goto 7, 3) := by decide +kernel
theorem dX6_givesOf_23 : decode cX6_givesOf 23 = .ok (.aload_n 0, 1) := by decide +kernel
theorem dX6_givesOf_24 : decode cX6_givesOf 24 = .ok (.getfield 25, 3) := by decide +kernel
theorem dX6_givesOf_27 : decode cX6_givesOf 27 = .ok (.aload_n 0, 1) := by decide +kernel
theorem dX6_givesOf_28 : decode cX6_givesOf 28 = .ok (.getfield 7, 3) := by decide +kernel
theorem dX6_givesOf_31 : decode cX6_givesOf 31 = .ok (.iload_n 1, 1) := by decide +kernel
theorem dX6_givesOf_32 : decode cX6_givesOf 32 = .ok (.iaload, 1) := by decide +kernel
theorem dX6_givesOf_33 : decode cX6_givesOf 33 = .ok (.iload_n 2, 1) := by decide +kernel
theorem dX6_givesOf_34 : decode cX6_givesOf 34 = .ok (.invokestatic 185, 3) := by decide +kernel
theorem dX6_givesOf_37 : decode cX6_givesOf 37 = .ok (.ifCond .eq 7, 3) := by decide +kernel
theorem dX6_givesOf_40 : decode cX6_givesOf 40 = .ok (.iconst 0, 1) := by decide +kernel
theorem dX6_givesOf_41 : decode cX6_givesOf 41 = .ok (.goto 5, 3) := by decide +kernel
theorem dX6_givesOf_44 : decode cX6_givesOf 44 = .ok (.bipush 10, 2) := by decide +kernel
theorem dX6_givesOf_46 : decode cX6_givesOf 46 = .ok (.iadd, 1) := by decide +kernel
theorem dX6_givesOf_47 : decode cX6_givesOf 47 = .ok (.ireturn, 1) := by decide +kernel
set_option maxRecDepth 20000 in
theorem ggX6_gives_X6_isOne : GoodIn wsX6_gives wsX6_isOne := goodIn_r _ [5, 6, 7, 8, 4, 9, 27, 28, 29, 30, 31, 32, 33, 34, 35, 36, 37, 38, 39, 40, 41, 42, 43, 44, 45, 46, 47, 48, 49, 50, 51, 52, 53, 54, 55, 56, 57, 58, 59, 60, 61, 62] (by decide +kernel) (by decide +kernel)
set_option maxRecDepth 20000 in
theorem gX6_gives_X6_isOne : GoodIn wsX6_gives (wsV RX6 91 RX6 yX6_isOne wsX6_isOne) := goodIn_app (goodIn_of _ (by decide +kernel)) ggX6_gives_X6_isOne
set_option maxRecDepth 20000 in
theorem ggX6_gives_X6_isMood : GoodIn wsX6_gives wsX6_isMood := goodIn_r _ [12, 13, 14, 7, 8, 4, 9] (by decide +kernel) (by decide +kernel)
set_option maxRecDepth 20000 in
theorem gX6_gives_X6_isMood : GoodIn wsX6_gives (va_wsS RX6 107 yX6_isMood wsX6_isMood) := goodIn_app (goodIn_of _ (by decide +kernel)) ggX6_gives_X6_isMood
set_option maxRecDepth 20000 in
theorem ggX6_gives_X6_givesOf : GoodIn wsX6_gives wsX6_givesOf := goodIn_r _ [18, 19, 20, 21, 22, 4, 23, 24, 25, 26, 27, 28, 29, 30, 31, 32, 33, 34, 35, 36, 37, 38, 39, 40, 41, 42, 43, 44, 45, 46, 47, 48, 49, 50, 51, 52, 53, 54, 55, 56, 57, 58, 59, 60, 61, 62] (by decide +kernel) (by decide +kernel)
set_option maxRecDepth 20000 in
theorem gX6_gives_X6_givesOf : GoodIn wsX6_gives (wsV RX6 222 RX6 yX6_givesOf wsX6_givesOf) := goodIn_app (goodIn_of _ (by decide +kernel)) ggX6_gives_X6_givesOf
theorem dX6_gives_0 : decode cX6_gives 0 = .ok (.aload_n 0, 1) := by decide +kernel
theorem dX6_gives_1 : decode cX6_gives 1 = .ok (.iload_n 1, 1) := by decide +kernel
theorem dX6_gives_2 : decode cX6_gives 2 = .ok (.invokevirtual 91, 3) := by decide +kernel
theorem dX6_gives_5 : decode cX6_gives 5 = .ok (.ifCond .eq 19, 3) := by decide +kernel
theorem dX6_gives_8 : decode cX6_gives 8 = .ok (.iload_n 2, 1) := by decide +kernel
theorem dX6_gives_9 : decode cX6_gives 9 = .ok (.invokestatic 107, 3) := by decide +kernel
theorem dX6_gives_12 : decode cX6_gives 12 = .ok (.ifCond .eq 12, 3) := by decide +kernel
theorem dX6_gives_15 : decode cX6_gives 15 = .ok (.aload_n 0, 1) := by decide +kernel
theorem dX6_gives_16 : decode cX6_gives 16 = .ok (.iload_n 1, 1) := by decide +kernel
theorem dX6_gives_17 : decode cX6_gives 17 = .ok (.iload_n 2, 1) := by decide +kernel
theorem dX6_gives_18 : decode cX6_gives 18 = .ok (.invokevirtual 222, 3) := by decide +kernel
theorem dX6_gives_21 : decode cX6_gives 21 = .ok (.goto 4, 3) := by decide +kernel
theorem dX6_gives_24 : decode cX6_gives 24 = .ok (.iconst (-1), 1) := by decide +kernel
theorem dX6_gives_25 : decode cX6_gives 25 = .ok (.ireturn, 1) := by decide +kernel
set_option maxRecDepth 20000 in
theorem ggX6_stranger_X6_isMood : GoodIn wsX6_stranger wsX6_isMood := goodIn_r _ [6, 7, 1, 8, 9, 5, 10] (by decide +kernel) (by decide +kernel)
set_option maxRecDepth 20000 in
theorem gX6_stranger_X6_isMood : GoodIn wsX6_stranger (va_wsS RX6 107 yX6_isMood wsX6_isMood) := goodIn_app (goodIn_of _ (by decide +kernel)) ggX6_stranger_X6_isMood
set_option maxRecDepth 20000 in
theorem ggX6_stranger_X6_isOne : GoodIn wsX6_stranger wsX6_isOne := goodIn_r _ [14, 15, 8, 9, 5, 10, 25, 26, 27, 28, 29, 30, 31, 32, 33, 34, 35, 36, 37, 38, 39, 40, 41, 42, 43, 44, 45, 46, 47, 48, 49, 50, 51, 52, 53, 54, 55, 56, 57, 58, 59, 60] (by decide +kernel) (by decide +kernel)
set_option maxRecDepth 20000 in
theorem gX6_stranger_X6_isOne : GoodIn wsX6_stranger (wsV RX6 91 RX6 yX6_isOne wsX6_isOne) := goodIn_app (goodIn_of _ (by decide +kernel)) ggX6_stranger_X6_isOne
set_option maxRecDepth 20000 in
theorem ggX6_stranger_X6_in : GoodIn wsX6_stranger wsX6_in := goodIn_r _ [10] (by decide +kernel) (by decide +kernel)
set_option maxRecDepth 20000 in
theorem gX6_stranger_X6_in : GoodIn wsX6_stranger (va_wsS RX6 75 yX6_in wsX6_in) := goodIn_app (goodIn_of _ (by decide +kernel)) ggX6_stranger_X6_in
set_option maxRecDepth 20000 in
theorem ggX6_stranger_X6_most9 : GoodIn wsX6_stranger wsX6_most9 := goodIn_r _ [18] (by decide +kernel) (by decide +kernel)
set_option maxRecDepth 20000 in
theorem gX6_stranger_X6_most9 : GoodIn wsX6_stranger (va_wsS RX6 192 yX6_most9 wsX6_most9) := goodIn_app (goodIn_of _ (by decide +kernel)) ggX6_stranger_X6_most9
set_option maxRecDepth 20000 in
theorem ggX6_stranger_X6_wane : GoodIn wsX6_stranger wsX6_wane := goodIn_r _ [21] (by decide +kernel) (by decide +kernel)
set_option maxRecDepth 20000 in
theorem gX6_stranger_X6_wane : GoodIn wsX6_stranger (va_wsS RX6 195 yX6_wane wsX6_wane) := goodIn_app (goodIn_of _ (by decide +kernel)) ggX6_stranger_X6_wane
set_option maxRecDepth 20000 in
theorem ggX6_stranger_X6_pailsOf : GoodIn wsX6_stranger wsX6_pailsOf := goodIn_r _ [24] (by decide +kernel) (by decide +kernel)
set_option maxRecDepth 20000 in
theorem gX6_stranger_X6_pailsOf : GoodIn wsX6_stranger (va_wsS RX6 182 yX6_pailsOf wsX6_pailsOf) := goodIn_app (goodIn_of _ (by decide +kernel)) ggX6_stranger_X6_pailsOf
theorem dX6_stranger_0 : decode cX6_stranger 0 = .ok (.iload_n 1, 1) := by decide +kernel
theorem dX6_stranger_1 : decode cX6_stranger 1 = .ok (.invokestatic 107, 3) := by decide +kernel
theorem dX6_stranger_4 : decode cX6_stranger 4 = .ok (.ifCond .eq 23, 3) := by decide +kernel
theorem dX6_stranger_7 : decode cX6_stranger 7 = .ok (.aload_n 0, 1) := by decide +kernel
theorem dX6_stranger_8 : decode cX6_stranger 8 = .ok (.iload_n 2, 1) := by decide +kernel
theorem dX6_stranger_9 : decode cX6_stranger 9 = .ok (.invokevirtual 91, 3) := by decide +kernel
theorem dX6_stranger_12 : decode cX6_stranger 12 = .ok (.ifCond .eq 15, 3) := by decide +kernel
theorem dX6_stranger_15 : decode cX6_stranger 15 = .ok (.iload_n 3, 1) := by decide +kernel
theorem dX6_stranger_16 : decode cX6_stranger 16 = .ok (.i2l, 1) := by decide +kernel
theorem dX6_stranger_17 : decode cX6_stranger 17 = .ok (.lconst 0, 1) := by decide +kernel
theorem dX6_stranger_18 : decode cX6_stranger 18 = .ok (.ldc2_w 81, 3) := by decide +kernel
theorem dX6_stranger_21 : decode cX6_stranger 21 = .ok (.invokestatic 75, 3) := by decide +kernel
theorem dX6_stranger_24 : decode cX6_stranger 24 = .ok (.ifCond .ne 5, 3) := by decide +kernel
theorem dX6_stranger_27 : decode cX6_stranger 27 = .ok (.iconst (-1), 1) := by decide +kernel
theorem dX6_stranger_28 : decode cX6_stranger 28 = .ok (.ireturn, 1) := by decide +kernel
theorem dX6_stranger_29 : decode cX6_stranger 29 = .ok (.iconst 0, 1) := by decide +kernel
theorem dX6_stranger_30 : decode cX6_stranger 30 = .ok (.istore 4, 2) := by decide +kernel
theorem dX6_stranger_32 : decode cX6_stranger 32 = .ok (.bipush (-3), 2) := by decide +kernel
theorem dX6_stranger_34 : decode cX6_stranger 34 = .ok (.istore 5, 2) := by decide +kernel
theorem dX6_stranger_36 : decode cX6_stranger 36 = .ok (.iload 5, 2) := by decide +kernel
theorem dX6_stranger_38 : decode cX6_stranger 38 = .ok (.iconst 4, 1) := by decide +kernel
theorem dX6_stranger_39 : decode cX6_stranger 39 = .ok (.if_icmp .ge 47, 3) := by decide +kernel
theorem dX6_stranger_42 : decode cX6_stranger 42 = .ok (.iload 4, 2) := by decide +kernel
theorem dX6_stranger_44 : decode cX6_stranger 44 = .ok (.aload_n 0, 1) := by decide +kernel
theorem dX6_stranger_45 : decode cX6_stranger 45 = .ok (.getfield 7, 3) := by decide +kernel
theorem dX6_stranger_48 : decode cX6_stranger 48 = .ok (.iload_n 2, 1) := by decide +kernel
theorem dX6_stranger_49 : decode cX6_stranger 49 = .ok (.iaload, 1) := by decide +kernel
theorem dX6_stranger_50 : decode cX6_stranger 50 = .ok (.iload_n 1, 1) := by decide +kernel
theorem dX6_stranger_51 : decode cX6_stranger 51 = .ok (.iload 5, 2) := by decide +kernel
theorem dX6_stranger_53 : decode cX6_stranger 53 = .ok (.iadd, 1) := by decide +kernel
theorem dX6_stranger_54 : decode cX6_stranger 54 = .ok (.invokestatic 192, 3) := by decide +kernel
theorem dX6_stranger_57 : decode cX6_stranger 57 = .ok (.invokestatic 195, 3) := by decide +kernel
theorem dX6_stranger_60 : decode cX6_stranger 60 = .ok (.invokestatic 182, 3) := by decide +kernel
theorem dX6_stranger_63 : decode cX6_stranger 63 = .ok (.iload_n 3, 1) := by decide +kernel
theorem dX6_stranger_64 : decode cX6_stranger 64 = .ok (.if_icmp .ne 12, 3) := by decide +kernel
theorem dX6_stranger_67 : decode cX6_stranger 67 = .ok (.iconst 1, 1) := by decide +kernel
theorem dX6_stranger_68 : decode cX6_stranger 68 = .ok (.iload 5, 2) := by decide +kernel
theorem dX6_stranger_70 : decode cX6_stranger 70 = .ok (.iconst 3, 1) := by decide +kernel
theorem dX6_stranger_71 : decode cX6_stranger 71 = .ok (.iadd, 1) := by decide +kernel
theorem dX6_stranger_72 : decode cX6_stranger 72 = .ok (.ishl, 1) := by decide +kernel
theorem dX6_stranger_73 : decode cX6_stranger 73 = .ok (.goto 4, 3) := by decide +kernel
theorem dX6_stranger_76 : decode cX6_stranger 76 = .ok (.iconst 0, 1) := by decide +kernel
theorem dX6_stranger_77 : decode cX6_stranger 77 = .ok (.ior, 1) := by decide +kernel
theorem dX6_stranger_78 : decode cX6_stranger 78 = .ok (.istore 4, 2) := by decide +kernel
theorem dX6_stranger_80 : decode cX6_stranger 80 = .ok (.iinc 5 1, 3) := by decide +kernel
theorem dX6_stranger_83 : decode cX6_stranger 83 = .ok (.goto (-47), 3) := by decide +kernel
theorem dX6_stranger_86 : decode cX6_stranger 86 = .ok (.iload 4, 2) := by decide +kernel
theorem dX6_stranger_88 : decode cX6_stranger 88 = .ok (.ireturn, 1) := by decide +kernel
set_option maxRecDepth 20000 in
theorem ggX6_liar_X6_isOne : GoodIn wsX6_liar wsX6_isOne := goodIn_r _ [7, 8, 9, 10, 6, 11, 19, 20, 21, 22, 23, 24, 25, 26, 27, 28, 29, 30, 31, 32, 33, 34, 35, 36, 37, 38, 39, 40, 41, 42, 43, 44, 45, 46, 47, 48, 49, 50, 51, 52, 53, 54] (by decide +kernel) (by decide +kernel)
set_option maxRecDepth 20000 in
theorem gX6_liar_X6_isOne : GoodIn wsX6_liar (wsV RX6 91 RX6 yX6_isOne wsX6_isOne) := goodIn_app (goodIn_of _ (by decide +kernel)) ggX6_liar_X6_isOne
set_option maxRecDepth 20000 in
theorem ggX6_liar_X6_isMood : GoodIn wsX6_liar wsX6_isMood := goodIn_r _ [14, 15, 1, 9, 10, 6, 11] (by decide +kernel) (by decide +kernel)
set_option maxRecDepth 20000 in
theorem gX6_liar_X6_isMood : GoodIn wsX6_liar (va_wsS RX6 107 yX6_isMood wsX6_isMood) := goodIn_app (goodIn_of _ (by decide +kernel)) ggX6_liar_X6_isMood
set_option maxRecDepth 20000 in
theorem ggX6_liar_X6_in : GoodIn wsX6_liar wsX6_in := goodIn_r _ [11] (by decide +kernel) (by decide +kernel)
set_option maxRecDepth 20000 in
theorem gX6_liar_X6_in : GoodIn wsX6_liar (va_wsS RX6 75 yX6_in wsX6_in) := goodIn_app (goodIn_of _ (by decide +kernel)) ggX6_liar_X6_in
set_option maxRecDepth 20000 in
theorem ggX6_liar_X6_pailsOf : GoodIn wsX6_liar wsX6_pailsOf := goodIn_r _ [18] (by decide +kernel) (by decide +kernel)
set_option maxRecDepth 20000 in
theorem gX6_liar_X6_pailsOf : GoodIn wsX6_liar (va_wsS RX6 182 yX6_pailsOf wsX6_pailsOf) := goodIn_app (goodIn_of _ (by decide +kernel)) ggX6_liar_X6_pailsOf
theorem dX6_liar_0 : decode cX6_liar 0 = .ok (.aload_n 0, 1) := by decide +kernel
theorem dX6_liar_1 : decode cX6_liar 1 = .ok (.iload_n 1, 1) := by decide +kernel
theorem dX6_liar_2 : decode cX6_liar 2 = .ok (.invokevirtual 91, 3) := by decide +kernel
theorem dX6_liar_5 : decode cX6_liar 5 = .ok (.ifCond .eq 58, 3) := by decide +kernel
theorem dX6_liar_8 : decode cX6_liar 8 = .ok (.iload_n 2, 1) := by decide +kernel
theorem dX6_liar_9 : decode cX6_liar 9 = .ok (.invokestatic 107, 3) := by decide +kernel
theorem dX6_liar_12 : decode cX6_liar 12 = .ok (.ifCond .eq 51, 3) := by decide +kernel
theorem dX6_liar_15 : decode cX6_liar 15 = .ok (.iload_n 3, 1) := by decide +kernel
theorem dX6_liar_16 : decode cX6_liar 16 = .ok (.i2l, 1) := by decide +kernel
theorem dX6_liar_17 : decode cX6_liar 17 = .ok (.lconst 0, 1) := by decide +kernel
theorem dX6_liar_18 : decode cX6_liar 18 = .ok (.ldc2_w 81, 3) := by decide +kernel
theorem dX6_liar_21 : decode cX6_liar 21 = .ok (.invokestatic 75, 3) := by decide +kernel
theorem dX6_liar_24 : decode cX6_liar 24 = .ok (.ifCond .eq 39, 3) := by decide +kernel
theorem dX6_liar_27 : decode cX6_liar 27 = .ok (.aload_n 0, 1) := by decide +kernel
theorem dX6_liar_28 : decode cX6_liar 28 = .ok (.iload 4, 2) := by decide +kernel
theorem dX6_liar_30 : decode cX6_liar 30 = .ok (.invokevirtual 91, 3) := by decide +kernel
theorem dX6_liar_33 : decode cX6_liar 33 = .ok (.ifCond .eq 30, 3) := by decide +kernel
theorem dX6_liar_36 : decode cX6_liar 36 = .ok (.iload 5, 2) := by decide +kernel
theorem dX6_liar_38 : decode cX6_liar 38 = .ok (.invokestatic 107, 3) := by decide +kernel
theorem dX6_liar_41 : decode cX6_liar 41 = .ok (.ifCond .eq 22, 3) := by decide +kernel
theorem dX6_liar_44 : decode cX6_liar 44 = .ok (.iload 6, 2) := by decide +kernel
theorem dX6_liar_46 : decode cX6_liar 46 = .ok (.i2l, 1) := by decide +kernel
theorem dX6_liar_47 : decode cX6_liar 47 = .ok (.lconst 0, 1) := by decide +kernel
theorem dX6_liar_48 : decode cX6_liar 48 = .ok (.ldc2_w 81, 3) := by decide +kernel
theorem dX6_liar_51 : decode cX6_liar 51 = .ok (.invokestatic 75, 3) := by decide +kernel
theorem dX6_liar_54 : decode cX6_liar 54 = .ok (.ifCond .eq 9, 3) := by decide +kernel
theorem dX6_liar_57 : decode cX6_liar 57 = .ok (.iload_n 1, 1) := by decide +kernel
theorem dX6_liar_58 : decode cX6_liar 58 = .ok (.iload 4, 2) := by decide +kernel
theorem dX6_liar_60 : decode cX6_liar 60 = .ok (.if_icmp .ne 5, 3) := by decide +kernel
theorem dX6_liar_63 : decode cX6_liar 63 = .ok (.iconst (-1), 1) := by decide +kernel
theorem dX6_liar_64 : decode cX6_liar 64 = .ok (.ireturn, 1) := by decide +kernel
theorem dX6_liar_65 : decode cX6_liar 65 = .ok (.aload_n 0, 1) := by decide +kernel
theorem dX6_liar_66 : decode cX6_liar 66 = .ok (.getfield 7, 3) := by decide +kernel
theorem dX6_liar_69 : decode cX6_liar 69 = .ok (.iload_n 1, 1) := by decide +kernel
theorem dX6_liar_70 : decode cX6_liar 70 = .ok (.iaload, 1) := by decide +kernel
theorem dX6_liar_71 : decode cX6_liar 71 = .ok (.iload_n 2, 1) := by decide +kernel
theorem dX6_liar_72 : decode cX6_liar 72 = .ok (.invokestatic 182, 3) := by decide +kernel
theorem dX6_liar_75 : decode cX6_liar 75 = .ok (.iload_n 3, 1) := by decide +kernel
theorem dX6_liar_76 : decode cX6_liar 76 = .ok (.if_icmp .ne 7, 3) := by decide +kernel
theorem dX6_liar_79 : decode cX6_liar 79 = .ok (.iconst 0, 1) := by decide +kernel
theorem dX6_liar_80 : decode cX6_liar 80 = .ok (.goto 4, 3) := by decide +kernel
theorem dX6_liar_83 : decode cX6_liar 83 = .ok (.iconst 1, 1) := by decide +kernel
theorem dX6_liar_84 : decode cX6_liar 84 = .ok (.aload_n 0, 1) := by decide +kernel
theorem dX6_liar_85 : decode cX6_liar 85 = .ok (.getfield 7, 3) := by decide +kernel
theorem dX6_liar_88 : decode cX6_liar 88 = .ok (.iload 4, 2) := by decide +kernel
theorem dX6_liar_90 : decode cX6_liar 90 = .ok (.iaload, 1) := by decide +kernel
theorem dX6_liar_91 : decode cX6_liar 91 = .ok (.iload 5, 2) := by decide +kernel
theorem dX6_liar_93 : decode cX6_liar 93 = .ok (.invokestatic 182, 3) := by decide +kernel
theorem dX6_liar_96 : decode cX6_liar 96 = .ok (.iload 6, 2) := by decide +kernel
theorem dX6_liar_98 : decode cX6_liar 98 = .ok (.if_icmp .ne 7, 3) := by decide +kernel
theorem dX6_liar_101 : decode cX6_liar 101 = .ok (.iconst 0, 1) := by decide +kernel
theorem dX6_liar_102 : decode cX6_liar 102 = .ok (.goto 4, 3) := by decide +kernel
theorem dX6_liar_105 : decode cX6_liar 105 = .ok (.iconst 2, 1) := by decide +kernel
theorem dX6_liar_106 : decode cX6_liar 106 = .ok (.iadd, 1) := by decide +kernel
theorem dX6_liar_107 : decode cX6_liar 107 = .ok (.ireturn, 1) := by decide +kernel
set_option maxRecDepth 20000 in
theorem ggX6_drawn_X6_in : GoodIn wsX6_drawn wsX6_in := goodIn_r _ [13] (by decide +kernel) (by decide +kernel)
set_option maxRecDepth 20000 in
theorem gX6_drawn_X6_in : GoodIn wsX6_drawn (va_wsS RX6 75 yX6_in wsX6_in) := goodIn_app (goodIn_of _ (by decide +kernel)) ggX6_drawn_X6_in
set_option maxRecDepth 20000 in
theorem ggX6_drawn_X6_goOn : GoodIn wsX6_drawn wsX6_goOn := goodIn_r _ [17, 18, 19, 20, 21, 12, 22, 23, 24, 25, 26, 2, 27, 28, 29, 30, 9, 31, 32, 33, 34, 35, 36, 37, 38, 39, 40, 41, 42, 43, 44, 45, 46, 47, 48, 49, 50, 51, 52, 53, 54, 55, 56, 57, 58, 59, 60, 61, 62, 63, 64, 65, 66, 67, 68, 69, 70, 71, 72, 73, 74, 75, 76, 77, 78, 79, 80, 81, 82, 83, 84, 85, 86, 87, 88, 89, 90, 91, 92, 93, 94, 95, 96, 97, 98, 99, 100, 101] (by decide +kernel) (by decide +kernel)
set_option maxRecDepth 20000 in
theorem gX6_drawn_X6_goOn : GoodIn wsX6_drawn (wsV RX6 207 RX6 yX6_goOn wsX6_goOn) := goodIn_app (goodIn_of _ (by decide +kernel)) ggX6_drawn_X6_goOn
theorem dX6_drawn_0 : decode cX6_drawn 0 = .ok (.iload_n 1, 1) := by decide +kernel
theorem dX6_drawn_1 : decode cX6_drawn 1 = .ok (.i2l, 1) := by decide +kernel
theorem dX6_drawn_2 : decode cX6_drawn 2 = .ok (.lconst 1, 1) := by decide +kernel
theorem dX6_drawn_3 : decode cX6_drawn 3 = .ok (.ldc2_w 210, 3) := by decide +kernel
theorem dX6_drawn_6 : decode cX6_drawn 6 = .ok (.invokestatic 75, 3) := by decide +kernel
theorem dX6_drawn_9 : decode cX6_drawn 9 = .ok (.ifCond .ne 5, 3) := by decide +kernel
theorem dX6_drawn_12 : decode cX6_drawn 12 = .ok (.iconst (-1), 1) := by decide +kernel
theorem dX6_drawn_13 : decode cX6_drawn 13 = .ok (.ireturn, 1) := by decide +kernel
theorem dX6_drawn_14 : decode cX6_drawn 14 = .ok (.aload_n 0, 1) := by decide +kernel
theorem dX6_drawn_15 : decode cX6_drawn 15 = .ok (.getfield 98, 3) := by decide +kernel
theorem dX6_drawn_18 : decode cX6_drawn 18 = .ok (.iload_n 1, 1) := by decide +kernel
theorem dX6_drawn_19 : decode cX6_drawn 19 = .ok (.iadd, 1) := by decide +kernel
theorem dX6_drawn_20 : decode cX6_drawn 20 = .ok (.sipush 9999, 3) := by decide +kernel
theorem dX6_drawn_23 : decode cX6_drawn 23 = .ok (.if_icmp .le 6, 3) := by decide +kernel
theorem dX6_drawn_26 : decode cX6_drawn 26 = .ok (.bipush (-3), 2) := by decide +kernel
theorem dX6_drawn_28 : decode cX6_drawn 28 = .ok (.ireturn, 1) := by decide +kernel
theorem dX6_drawn_29 : decode cX6_drawn 29 = .ok (.iconst 0, 1) := by decide +kernel
theorem dX6_drawn_30 : decode cX6_drawn 30 = .ok (.istore_n 2, 1) := by decide +kernel
theorem dX6_drawn_31 : decode cX6_drawn 31 = .ok (.iconst 0, 1) := by decide +kernel
theorem dX6_drawn_32 : decode cX6_drawn 32 = .ok (.istore_n 3, 1) := by decide +kernel
theorem dX6_drawn_33 : decode cX6_drawn 33 = .ok (.iload_n 3, 1) := by decide +kernel
theorem dX6_drawn_34 : decode cX6_drawn 34 = .ok (.iload_n 1, 1) := by decide +kernel
theorem dX6_drawn_35 : decode cX6_drawn 35 = .ok (.if_icmp .ge 84, 3) := by decide +kernel
theorem dX6_drawn_38 : decode cX6_drawn 38 = .ok (.aload_n 0, 1) := by decide +kernel
theorem dX6_drawn_39 : decode cX6_drawn 39 = .ok (.aload_n 0, 1) := by decide +kernel
theorem dX6_drawn_40 : decode cX6_drawn 40 = .ok (.getfield 38, 3) := by decide +kernel
theorem dX6_drawn_43 : decode cX6_drawn 43 = .ok (.i2l, 1) := by decide +kernel
theorem dX6_drawn_44 : decode cX6_drawn 44 = .ok (.ldc2_w 225, 3) := by decide +kernel
theorem dX6_drawn_47 : decode cX6_drawn 47 = .ok (.lmul, 1) := by decide +kernel
theorem dX6_drawn_48 : decode cX6_drawn 48 = .ok (.ldc2_w 227, 3) := by decide +kernel
theorem dX6_drawn_51 : decode cX6_drawn 51 = .ok (.ladd, 1) := by decide +kernel
theorem dX6_drawn_52 : decode cX6_drawn 52 = .ok (.ldc2_w 229, 3) := by decide +kernel
theorem dX6_drawn_55 : decode cX6_drawn 55 = .ok (.land, 1) := by decide +kernel
theorem dX6_drawn_56 : decode cX6_drawn 56 = .ok (.l2i, 1) := by decide +kernel
theorem dX6_drawn_57 : decode cX6_drawn 57 = .ok (.putfield 38, 3) := by decide +kernel
theorem dX6_drawn_60 : decode cX6_drawn 60 = .ok (.aload_n 0, 1) := by decide +kernel
theorem dX6_drawn_61 : decode cX6_drawn 61 = .ok (.getfield 38, 3) := by decide +kernel
theorem dX6_drawn_64 : decode cX6_drawn 64 = .ok (.ldc 231, 2) := by decide +kernel
theorem dX6_drawn_66 : decode cX6_drawn 66 = .ok (.idiv, 1) := by decide +kernel
theorem dX6_drawn_67 : decode cX6_drawn 67 = .ok (.aload_n 0, 1) := by decide +kernel
theorem dX6_drawn_68 : decode cX6_drawn 68 = .ok (.getfield 72, 3) := by decide +kernel
theorem dX6_drawn_71 : decode cX6_drawn 71 = .ok (.iconst 1, 1) := by decide +kernel
theorem dX6_drawn_72 : decode cX6_drawn 72 = .ok (.iadd, 1) := by decide +kernel
theorem dX6_drawn_73 : decode cX6_drawn 73 = .ok (.irem, 1) := by decide +kernel
theorem dX6_drawn_74 : decode cX6_drawn 74 = .ok (.istore 4, 2) := by decide +kernel
theorem dX6_drawn_76 : decode cX6_drawn 76 = .ok (.iload_n 2, 1) := by decide +kernel
theorem dX6_drawn_77 : decode cX6_drawn 77 = .ok (.aload_n 0, 1) := by decide +kernel
theorem dX6_drawn_78 : decode cX6_drawn 78 = .ok (.iload 4, 2) := by decide +kernel
theorem dX6_drawn_80 : decode cX6_drawn 80 = .ok (.aload_n 0, 1) := by decide +kernel
theorem dX6_drawn_81 : decode cX6_drawn 81 = .ok (.getfield 72, 3) := by decide +kernel
theorem dX6_drawn_84 : decode cX6_drawn 84 = .ok (.if_icmp .ge 22, 3) := by decide +kernel
theorem dX6_drawn_87 : decode cX6_drawn 87 = .ok (.aload_n 0, 1) := by decide +kernel
theorem dX6_drawn_88 : decode cX6_drawn 88 = .ok (.getfield 22, 3) := by decide +kernel
theorem dX6_drawn_91 : decode cX6_drawn 91 = .ok (.iload 4, 2) := by decide +kernel
theorem dX6_drawn_93 : decode cX6_drawn 93 = .ok (.iaload, 1) := by decide +kernel
theorem dX6_drawn_94 : decode cX6_drawn 94 = .ok (.aload_n 0, 1) := by decide +kernel
theorem dX6_drawn_95 : decode cX6_drawn 95 = .ok (.getfield 98, 3) := by decide +kernel
theorem dX6_drawn_98 : decode cX6_drawn 98 = .ok (.if_icmp .gt 8, 3) := by decide +kernel
theorem dX6_drawn_101 : decode cX6_drawn 101 = .ok (.iload 4, 2) := by decide +kernel
theorem dX6_drawn_103 : decode cX6_drawn 103 = .ok (.goto 5, 3) := by decide +kernel
theorem dX6_drawn_106 : decode cX6_drawn 106 = .ok (.bipush 9, 2) := by decide +kernel
theorem dX6_drawn_108 : decode cX6_drawn 108 = .ok (.invokevirtual 207, 3) := by decide +kernel
theorem dX6_drawn_111 : decode cX6_drawn 111 = .ok (.iadd, 1) := by decide +kernel
theorem dX6_drawn_112 : decode cX6_drawn 112 = .ok (.istore_n 2, 1) := by decide +kernel
theorem dX6_drawn_113 : decode cX6_drawn 113 = .ok (.iinc 3 1, 3) := by decide +kernel
theorem dX6_drawn_116 : decode cX6_drawn 116 = .ok (.goto (-83), 3) := by decide +kernel
theorem dX6_drawn_119 : decode cX6_drawn 119 = .ok (.iload_n 2, 1) := by decide +kernel
theorem dX6_drawn_120 : decode cX6_drawn 120 = .ok (.ireturn, 1) := by decide +kernel
theorem dX6_seed_0 : decode cX6_seed 0 = .ok (.iload_n 1, 1) := by decide +kernel
theorem dX6_seed_1 : decode cX6_seed 1 = .ok (.ifCond .ge 5, 3) := by decide +kernel
theorem dX6_seed_4 : decode cX6_seed 4 = .ok (.iconst (-1), 1) := by decide +kernel
theorem dX6_seed_5 : decode cX6_seed 5 = .ok (.ireturn, 1) := by decide +kernel
theorem dX6_seed_6 : decode cX6_seed 6 = .ok (.aload_n 0, 1) := by decide +kernel
theorem dX6_seed_7 : decode cX6_seed 7 = .ok (.getfield 38, 3) := by decide +kernel
theorem dX6_seed_10 : decode cX6_seed 10 = .ok (.istore_n 2, 1) := by decide +kernel
theorem dX6_seed_11 : decode cX6_seed 11 = .ok (.aload_n 0, 1) := by decide +kernel
theorem dX6_seed_12 : decode cX6_seed 12 = .ok (.iload_n 1, 1) := by decide +kernel
theorem dX6_seed_13 : decode cX6_seed 13 = .ok (.putfield 38, 3) := by decide +kernel
theorem dX6_seed_16 : decode cX6_seed 16 = .ok (.iload_n 2, 1) := by decide +kernel
theorem dX6_seed_17 : decode cX6_seed 17 = .ok (.ireturn, 1) := by decide +kernel
theorem dX6_carried_0 : decode cX6_carried 0 = .ok (.iload_n 1, 1) := by decide +kernel
theorem dX6_carried_1 : decode cX6_carried 1 = .ok (.bipush 30, 2) := by decide +kernel
theorem dX6_carried_3 : decode cX6_carried 3 = .ok (.if_icmp .ge 225, 3) := by decide +kernel
theorem dX6_carried_6 : decode cX6_carried 6 = .ok (.iload_n 1, 1) := by decide +kernel
theorem dX6_carried_7 : decode cX6_carried 7 = .ok (.bipush 6, 2) := by decide +kernel
theorem dX6_carried_9 : decode cX6_carried 9 = .ok (.irem, 1) := by decide +kernel
theorem dX6_carried_10 : decode cX6_carried 10 = .ok (.istore 4, 2) := by decide +kernel
theorem dX6_carried_12 : decode cX6_carried 12 = .ok (.iload_n 1, 1) := by decide +kernel
theorem dX6_carried_13 : decode cX6_carried 13 = .ok (.bipush 6, 2) := by decide +kernel
theorem dX6_carried_15 : decode cX6_carried 15 = .ok (.idiv, 1) := by decide +kernel
theorem dX6_carried_16 : decode cX6_carried 16 = .ok (.istore 5, 2) := by decide +kernel
theorem dX6_carried_18 : decode cX6_carried 18 = .ok (.aload_n 0, 1) := by decide +kernel
theorem dX6_carried_19 : decode cX6_carried 19 = .ok (.getfield 7, 3) := by decide +kernel
theorem dX6_carried_22 : decode cX6_carried 22 = .ok (.iload 4, 2) := by decide +kernel
theorem dX6_carried_24 : decode cX6_carried 24 = .ok (.iload_n 3, 1) := by decide +kernel
theorem dX6_carried_25 : decode cX6_carried 25 = .ok (.ifCond .eq 12, 3) := by decide +kernel
theorem dX6_carried_28 : decode cX6_carried 28 = .ok (.iload 5, 2) := by decide +kernel
theorem dX6_carried_30 : decode cX6_carried 30 = .ok (.ifCond .ne 7, 3) := by decide +kernel
theorem dX6_carried_33 : decode cX6_carried 33 = .ok (.iload_n 2, 1) := by decide +kernel
theorem dX6_carried_34 : decode cX6_carried 34 = .ok (.goto 10, 3) := by decide +kernel
theorem dX6_carried_37 : decode cX6_carried 37 = .ok (.aload_n 0, 1) := by decide +kernel
theorem dX6_carried_38 : decode cX6_carried 38 = .ok (.getfield 7, 3) := by decide +kernel
theorem dX6_carried_41 : decode cX6_carried 41 = .ok (.iload 4, 2) := by decide +kernel
theorem dX6_carried_43 : decode cX6_carried 43 = .ok (.iaload, 1) := by decide +kernel
theorem dX6_carried_44 : decode cX6_carried 44 = .ok (.iastore, 1) := by decide +kernel
theorem dX6_carried_45 : decode cX6_carried 45 = .ok (.aload_n 0, 1) := by decide +kernel
theorem dX6_carried_46 : decode cX6_carried 46 = .ok (.getfield 13, 3) := by decide +kernel
theorem dX6_carried_49 : decode cX6_carried 49 = .ok (.iload 4, 2) := by decide +kernel
theorem dX6_carried_51 : decode cX6_carried 51 = .ok (.iload_n 3, 1) := by decide +kernel
theorem dX6_carried_52 : decode cX6_carried 52 = .ok (.ifCond .eq 13, 3) := by decide +kernel
theorem dX6_carried_55 : decode cX6_carried 55 = .ok (.iload 5, 2) := by decide +kernel
theorem dX6_carried_57 : decode cX6_carried 57 = .ok (.iconst 1, 1) := by decide +kernel
theorem dX6_carried_58 : decode cX6_carried 58 = .ok (.if_icmp .ne 7, 3) := by decide +kernel
theorem dX6_carried_61 : decode cX6_carried 61 = .ok (.iload_n 2, 1) := by decide +kernel
theorem dX6_carried_62 : decode cX6_carried 62 = .ok (.goto 10, 3) := by decide +kernel
theorem dX6_carried_65 : decode cX6_carried 65 = .ok (.aload_n 0, 1) := by decide +kernel
theorem dX6_carried_66 : decode cX6_carried 66 = .ok (.getfield 13, 3) := by decide +kernel
theorem dX6_carried_69 : decode cX6_carried 69 = .ok (.iload 4, 2) := by decide +kernel
theorem dX6_carried_71 : decode cX6_carried 71 = .ok (.iaload, 1) := by decide +kernel
theorem dX6_carried_72 : decode cX6_carried 72 = .ok (.iastore, 1) := by decide +kernel
theorem dX6_carried_73 : decode cX6_carried 73 = .ok (.aload_n 0, 1) := by decide +kernel
theorem dX6_carried_74 : decode cX6_carried 74 = .ok (.getfield 16, 3) := by decide +kernel
theorem dX6_carried_77 : decode cX6_carried 77 = .ok (.iload 4, 2) := by decide +kernel
theorem dX6_carried_79 : decode cX6_carried 79 = .ok (.iload_n 3, 1) := by decide +kernel
theorem dX6_carried_80 : decode cX6_carried 80 = .ok (.ifCond .eq 13, 3) := by decide +kernel
theorem dX6_carried_83 : decode cX6_carried 83 = .ok (.iload 5, 2) := by decide +kernel
theorem dX6_carried_85 : decode cX6_carried 85 = .ok (.iconst 2, 1) := by decide +kernel
theorem dX6_carried_86 : decode cX6_carried 86 = .ok (.if_icmp .ne 7, 3) := by decide +kernel
theorem dX6_carried_89 : decode cX6_carried 89 = .ok (.iload_n 2, 1) := by decide +kernel
theorem dX6_carried_90 : decode cX6_carried 90 = .ok (.goto 10, 3) := by decide +kernel
theorem dX6_carried_93 : decode cX6_carried 93 = .ok (.aload_n 0, 1) := by decide +kernel
theorem dX6_carried_94 : decode cX6_carried 94 = .ok (.getfield 16, 3) := by decide +kernel
theorem dX6_carried_97 : decode cX6_carried 97 = .ok (.iload 4, 2) := by decide +kernel
theorem dX6_carried_99 : decode cX6_carried 99 = .ok (.iaload, 1) := by decide +kernel
theorem dX6_carried_100 : decode cX6_carried 100 = .ok (.iastore, 1) := by decide +kernel
theorem dX6_carried_101 : decode cX6_carried 101 = .ok (.aload_n 0, 1) := by decide +kernel
theorem dX6_carried_102 : decode cX6_carried 102 = .ok (.getfield 19, 3) := by decide +kernel
theorem dX6_carried_105 : decode cX6_carried 105 = .ok (.iload 4, 2) := by decide +kernel
theorem dX6_carried_107 : decode cX6_carried 107 = .ok (.iload_n 3, 1) := by decide +kernel
theorem dX6_carried_108 : decode cX6_carried 108 = .ok (.ifCond .eq 13, 3) := by decide +kernel
theorem dX6_carried_111 : decode cX6_carried 111 = .ok (.iload 5, 2) := by decide +kernel
theorem dX6_carried_113 : decode cX6_carried 113 = .ok (.iconst 3, 1) := by decide +kernel
theorem dX6_carried_114 : decode cX6_carried 114 = .ok (.if_icmp .ne 7, 3) := by decide +kernel
theorem dX6_carried_117 : decode cX6_carried 117 = .ok (.iload_n 2, 1) := by decide +kernel
theorem dX6_carried_118 : decode cX6_carried 118 = .ok (.goto 10, 3) := by decide +kernel
theorem dX6_carried_121 : decode cX6_carried 121 = .ok (.aload_n 0, 1) := by decide +kernel
theorem dX6_carried_122 : decode cX6_carried 122 = .ok (.getfield 19, 3) := by decide +kernel
theorem dX6_carried_125 : decode cX6_carried 125 = .ok (.iload 4, 2) := by decide +kernel
theorem dX6_carried_127 : decode cX6_carried 127 = .ok (.iaload, 1) := by decide +kernel
theorem dX6_carried_128 : decode cX6_carried 128 = .ok (.iastore, 1) := by decide +kernel
theorem dX6_carried_129 : decode cX6_carried 129 = .ok (.aload_n 0, 1) := by decide +kernel
theorem dX6_carried_130 : decode cX6_carried 130 = .ok (.getfield 22, 3) := by decide +kernel
theorem dX6_carried_133 : decode cX6_carried 133 = .ok (.iload 4, 2) := by decide +kernel
theorem dX6_carried_135 : decode cX6_carried 135 = .ok (.iload_n 3, 1) := by decide +kernel
theorem dX6_carried_136 : decode cX6_carried 136 = .ok (.ifCond .eq 13, 3) := by decide +kernel
theorem dX6_carried_139 : decode cX6_carried 139 = .ok (.iload 5, 2) := by decide +kernel
theorem dX6_carried_141 : decode cX6_carried 141 = .ok (.iconst 4, 1) := by decide +kernel
theorem dX6_carried_142 : decode cX6_carried 142 = .ok (.if_icmp .ne 7, 3) := by decide +kernel
theorem dX6_carried_145 : decode cX6_carried 145 = .ok (.iload_n 2, 1) := by decide +kernel
theorem dX6_carried_146 : decode cX6_carried 146 = .ok (.goto 10, 3) := by decide +kernel
theorem dX6_carried_149 : decode cX6_carried 149 = .ok (.aload_n 0, 1) := by decide +kernel
theorem dX6_carried_150 : decode cX6_carried 150 = .ok (.getfield 22, 3) := by decide +kernel
theorem dX6_carried_153 : decode cX6_carried 153 = .ok (.iload 4, 2) := by decide +kernel
theorem dX6_carried_155 : decode cX6_carried 155 = .ok (.iaload, 1) := by decide +kernel
theorem dX6_carried_156 : decode cX6_carried 156 = .ok (.iastore, 1) := by decide +kernel
theorem dX6_carried_157 : decode cX6_carried 157 = .ok (.iload 5, 2) := by decide +kernel
theorem dX6_carried_159 : decode cX6_carried 159 = .ok (.ifCond .ne 13, 3) := by decide +kernel
theorem dX6_carried_162 : decode cX6_carried 162 = .ok (.aload_n 0, 1) := by decide +kernel
theorem dX6_carried_163 : decode cX6_carried 163 = .ok (.getfield 7, 3) := by decide +kernel
theorem dX6_carried_166 : decode cX6_carried 166 = .ok (.iload 4, 2) := by decide +kernel
theorem dX6_carried_168 : decode cX6_carried 168 = .ok (.iaload, 1) := by decide +kernel
theorem dX6_carried_169 : decode cX6_carried 169 = .ok (.goto 58, 3) := by decide +kernel
theorem dX6_carried_172 : decode cX6_carried 172 = .ok (.iload 5, 2) := by decide +kernel
theorem dX6_carried_174 : decode cX6_carried 174 = .ok (.iconst 1, 1) := by decide +kernel
theorem dX6_carried_175 : decode cX6_carried 175 = .ok (.if_icmp .ne 13, 3) := by decide +kernel
theorem dX6_carried_178 : decode cX6_carried 178 = .ok (.aload_n 0, 1) := by decide +kernel
theorem dX6_carried_179 : decode cX6_carried 179 = .ok (.getfield 13, 3) := by decide +kernel
theorem dX6_carried_182 : decode cX6_carried 182 = .ok (.iload 4, 2) := by decide +kernel
theorem dX6_carried_184 : decode cX6_carried 184 = .ok (.iaload, 1) := by decide +kernel
theorem dX6_carried_185 : decode cX6_carried 185 = .ok (.goto 42, 3) := by decide +kernel
theorem dX6_carried_188 : decode cX6_carried 188 = .ok (.iload 5, 2) := by decide +kernel
theorem dX6_carried_190 : decode cX6_carried 190 = .ok (.iconst 2, 1) := by decide +kernel
theorem dX6_carried_191 : decode cX6_carried 191 = .ok (.if_icmp .ne 13, 3) := by decide +kernel
theorem dX6_carried_194 : decode cX6_carried 194 = .ok (.aload_n 0, 1) := by decide +kernel
theorem dX6_carried_195 : decode cX6_carried 195 = .ok (.getfield 16, 3) := by decide +kernel
theorem dX6_carried_198 : decode cX6_carried 198 = .ok (.iload 4, 2) := by decide +kernel
theorem dX6_carried_200 : decode cX6_carried 200 = .ok (.iaload, 1) := by decide +kernel
theorem dX6_carried_201 : decode cX6_carried 201 = .ok (.goto 26, 3) := by decide +kernel
theorem dX6_carried_204 : decode cX6_carried 204 = .ok (.iload 5, 2) := by decide +kernel
theorem dX6_carried_206 : decode cX6_carried 206 = .ok (.iconst 3, 1) := by decide +kernel
theorem dX6_carried_207 : decode cX6_carried 207 = .ok (.if_icmp .ne 13, 3) := by decide +kernel
theorem dX6_carried_210 : decode cX6_carried 210 = .ok (.aload_n 0, 1) := by decide +kernel
theorem dX6_carried_211 : decode cX6_carried 211 = .ok (.getfield 19, 3) := by decide +kernel
theorem dX6_carried_214 : decode cX6_carried 214 = .ok (.iload 4, 2) := by decide +kernel
theorem dX6_carried_216 : decode cX6_carried 216 = .ok (.iaload, 1) := by decide +kernel
theorem dX6_carried_217 : decode cX6_carried 217 = .ok (.goto 10, 3) := by decide +kernel
theorem dX6_carried_220 : decode cX6_carried 220 = .ok (.aload_n 0, 1) := by decide +kernel
theorem dX6_carried_221 : decode cX6_carried 221 = .ok (.getfield 22, 3) := by decide +kernel
theorem dX6_carried_224 : decode cX6_carried 224 = .ok (.iload 4, 2) := by decide +kernel
theorem dX6_carried_226 : decode cX6_carried 226 = .ok (.iaload, 1) := by decide +kernel
theorem dX6_carried_227 : decode cX6_carried 227 = .ok (.ireturn, 1) := by decide +kernel
theorem dX6_carried_228 : decode cX6_carried 228 = .ok (.aload_n 0, 1) := by decide +kernel
theorem dX6_carried_229 : decode cX6_carried 229 = .ok (.getfield 35, 3) := by decide +kernel
theorem dX6_carried_232 : decode cX6_carried 232 = .ok (.iload_n 1, 1) := by decide +kernel
theorem dX6_carried_233 : decode cX6_carried 233 = .ok (.bipush 30, 2) := by decide +kernel
theorem dX6_carried_235 : decode cX6_carried 235 = .ok (.isub, 1) := by decide +kernel
theorem dX6_carried_236 : decode cX6_carried 236 = .ok (.iload_n 3, 1) := by decide +kernel
theorem dX6_carried_237 : decode cX6_carried 237 = .ok (.ifCond .eq 7, 3) := by decide +kernel
theorem dX6_carried_240 : decode cX6_carried 240 = .ok (.iload_n 2, 1) := by decide +kernel
theorem dX6_carried_241 : decode cX6_carried 241 = .ok (.goto 12, 3) := by decide +kernel
theorem dX6_carried_244 : decode cX6_carried 244 = .ok (.aload_n 0, 1) := by decide +kernel
theorem dX6_carried_245 : decode cX6_carried 245 = .ok (.getfield 35, 3) := by decide +kernel
theorem dX6_carried_248 : decode cX6_carried 248 = .ok (.iload_n 1, 1) := by decide +kernel
theorem dX6_carried_249 : decode cX6_carried 249 = .ok (.bipush 30, 2) := by decide +kernel
theorem dX6_carried_251 : decode cX6_carried 251 = .ok (.isub, 1) := by decide +kernel
theorem dX6_carried_252 : decode cX6_carried 252 = .ok (.iaload, 1) := by decide +kernel
theorem dX6_carried_253 : decode cX6_carried 253 = .ok (.iastore, 1) := by decide +kernel
theorem dX6_carried_254 : decode cX6_carried 254 = .ok (.aload_n 0, 1) := by decide +kernel
theorem dX6_carried_255 : decode cX6_carried 255 = .ok (.getfield 35, 3) := by decide +kernel
theorem dX6_carried_258 : decode cX6_carried 258 = .ok (.iload_n 1, 1) := by decide +kernel
theorem dX6_carried_259 : decode cX6_carried 259 = .ok (.bipush 30, 2) := by decide +kernel
theorem dX6_carried_261 : decode cX6_carried 261 = .ok (.isub, 1) := by decide +kernel
theorem dX6_carried_262 : decode cX6_carried 262 = .ok (.iaload, 1) := by decide +kernel
theorem dX6_carried_263 : decode cX6_carried 263 = .ok (.ireturn, 1) := by decide +kernel
set_option maxRecDepth 20000 in
theorem ggX6_image_X6_carried : GoodIn wsX6_image wsX6_carried := goodIn_r _ [17, 18, 19, 20, 21, 22, 23, 24, 25, 26, 27, 28, 29, 30, 31, 32, 33, 34, 35, 36, 37, 38, 39, 40, 41, 42, 43, 44, 45, 46, 47, 48, 49, 50, 51, 52, 53, 54, 55, 56, 57, 58, 59] (by decide +kernel) (by decide +kernel)
set_option maxRecDepth 20000 in
theorem gX6_image_X6_carried : GoodIn wsX6_image (wsV RX6 232 RX6 yX6_carried wsX6_carried) := goodIn_app (goodIn_of _ (by decide +kernel)) ggX6_image_X6_carried
theorem dX6_image_0 : decode cX6_image 0 = .ok (.iconst 0, 1) := by decide +kernel
theorem dX6_image_1 : decode cX6_image 1 = .ok (.istore_n 1, 1) := by decide +kernel
theorem dX6_image_2 : decode cX6_image 2 = .ok (.iload_n 1, 1) := by decide +kernel
theorem dX6_image_3 : decode cX6_image 3 = .ok (.bipush 54, 2) := by decide +kernel
theorem dX6_image_5 : decode cX6_image 5 = .ok (.if_icmp .ge 22, 3) := by decide +kernel
theorem dX6_image_8 : decode cX6_image 8 = .ok (.aload_n 0, 1) := by decide +kernel
theorem dX6_image_9 : decode cX6_image 9 = .ok (.getfield 56, 3) := by decide +kernel
theorem dX6_image_12 : decode cX6_image 12 = .ok (.iload_n 1, 1) := by decide +kernel
theorem dX6_image_13 : decode cX6_image 13 = .ok (.aload_n 0, 1) := by decide +kernel
theorem dX6_image_14 : decode cX6_image 14 = .ok (.iload_n 1, 1) := by decide +kernel
theorem dX6_image_15 : decode cX6_image 15 = .ok (.iconst 0, 1) := by decide +kernel
theorem dX6_image_16 : decode cX6_image 16 = .ok (.iconst 0, 1) := by decide +kernel
theorem dX6_image_17 : decode cX6_image 17 = .ok (.invokevirtual 232, 3) := by decide +kernel
theorem dX6_image_20 : decode cX6_image 20 = .ok (.iastore, 1) := by decide +kernel
theorem dX6_image_21 : decode cX6_image 21 = .ok (.iinc 1 1, 3) := by decide +kernel
theorem dX6_image_24 : decode cX6_image 24 = .ok (.goto (-22), 3) := by decide +kernel
theorem dX6_image_27 : decode cX6_image 27 = .ok (.aload_n 0, 1) := by decide +kernel
theorem dX6_image_28 : decode cX6_image 28 = .ok (.getfield 56, 3) := by decide +kernel
theorem dX6_image_31 : decode cX6_image 31 = .ok (.bipush 54, 2) := by decide +kernel
theorem dX6_image_33 : decode cX6_image 33 = .ok (.aload_n 0, 1) := by decide +kernel
theorem dX6_image_34 : decode cX6_image 34 = .ok (.getfield 72, 3) := by decide +kernel
theorem dX6_image_37 : decode cX6_image 37 = .ok (.iastore, 1) := by decide +kernel
theorem dX6_image_38 : decode cX6_image 38 = .ok (.aload_n 0, 1) := by decide +kernel
theorem dX6_image_39 : decode cX6_image 39 = .ok (.getfield 56, 3) := by decide +kernel
theorem dX6_image_42 : decode cX6_image 42 = .ok (.bipush 55, 2) := by decide +kernel
theorem dX6_image_44 : decode cX6_image 44 = .ok (.aload_n 0, 1) := by decide +kernel
theorem dX6_image_45 : decode cX6_image 45 = .ok (.getfield 112, 3) := by decide +kernel
theorem dX6_image_48 : decode cX6_image 48 = .ok (.iastore, 1) := by decide +kernel
theorem dX6_image_49 : decode cX6_image 49 = .ok (.aload_n 0, 1) := by decide +kernel
theorem dX6_image_50 : decode cX6_image 50 = .ok (.getfield 56, 3) := by decide +kernel
theorem dX6_image_53 : decode cX6_image 53 = .ok (.bipush 56, 2) := by decide +kernel
theorem dX6_image_55 : decode cX6_image 55 = .ok (.aload_n 0, 1) := by decide +kernel
theorem dX6_image_56 : decode cX6_image 56 = .ok (.getfield 25, 3) := by decide +kernel
theorem dX6_image_59 : decode cX6_image 59 = .ok (.iastore, 1) := by decide +kernel
theorem dX6_image_60 : decode cX6_image 60 = .ok (.aload_n 0, 1) := by decide +kernel
theorem dX6_image_61 : decode cX6_image 61 = .ok (.getfield 56, 3) := by decide +kernel
theorem dX6_image_64 : decode cX6_image 64 = .ok (.bipush 57, 2) := by decide +kernel
theorem dX6_image_66 : decode cX6_image 66 = .ok (.aload_n 0, 1) := by decide +kernel
theorem dX6_image_67 : decode cX6_image 67 = .ok (.getfield 29, 3) := by decide +kernel
theorem dX6_image_70 : decode cX6_image 70 = .ok (.iastore, 1) := by decide +kernel
theorem dX6_image_71 : decode cX6_image 71 = .ok (.aload_n 0, 1) := by decide +kernel
theorem dX6_image_72 : decode cX6_image 72 = .ok (.getfield 56, 3) := by decide +kernel
theorem dX6_image_75 : decode cX6_image 75 = .ok (.bipush 58, 2) := by decide +kernel
theorem dX6_image_77 : decode cX6_image 77 = .ok (.aload_n 0, 1) := by decide +kernel
theorem dX6_image_78 : decode cX6_image 78 = .ok (.getfield 115, 3) := by decide +kernel
theorem dX6_image_81 : decode cX6_image 81 = .ok (.iastore, 1) := by decide +kernel
theorem dX6_image_82 : decode cX6_image 82 = .ok (.aload_n 0, 1) := by decide +kernel
theorem dX6_image_83 : decode cX6_image 83 = .ok (.getfield 56, 3) := by decide +kernel
theorem dX6_image_86 : decode cX6_image 86 = .ok (.bipush 59, 2) := by decide +kernel
theorem dX6_image_88 : decode cX6_image 88 = .ok (.aload_n 0, 1) := by decide +kernel
theorem dX6_image_89 : decode cX6_image 89 = .ok (.getfield 118, 3) := by decide +kernel
theorem dX6_image_92 : decode cX6_image 92 = .ok (.iastore, 1) := by decide +kernel
theorem dX6_image_93 : decode cX6_image 93 = .ok (.aload_n 0, 1) := by decide +kernel
theorem dX6_image_94 : decode cX6_image 94 = .ok (.getfield 56, 3) := by decide +kernel
theorem dX6_image_97 : decode cX6_image 97 = .ok (.bipush 60, 2) := by decide +kernel
theorem dX6_image_99 : decode cX6_image 99 = .ok (.aload_n 0, 1) := by decide +kernel
theorem dX6_image_100 : decode cX6_image 100 = .ok (.getfield 98, 3) := by decide +kernel
theorem dX6_image_103 : decode cX6_image 103 = .ok (.iastore, 1) := by decide +kernel
theorem dX6_image_104 : decode cX6_image 104 = .ok (.aload_n 0, 1) := by decide +kernel
theorem dX6_image_105 : decode cX6_image 105 = .ok (.getfield 56, 3) := by decide +kernel
theorem dX6_image_108 : decode cX6_image 108 = .ok (.bipush 61, 2) := by decide +kernel
theorem dX6_image_110 : decode cX6_image 110 = .ok (.aload_n 0, 1) := by decide +kernel
theorem dX6_image_111 : decode cX6_image 111 = .ok (.getfield 32, 3) := by decide +kernel
theorem dX6_image_114 : decode cX6_image 114 = .ok (.iastore, 1) := by decide +kernel
theorem dX6_image_115 : decode cX6_image 115 = .ok (.aload_n 0, 1) := by decide +kernel
theorem dX6_image_116 : decode cX6_image 116 = .ok (.getfield 56, 3) := by decide +kernel
theorem dX6_image_119 : decode cX6_image 119 = .ok (.bipush 62, 2) := by decide +kernel
theorem dX6_image_121 : decode cX6_image 121 = .ok (.aload_n 0, 1) := by decide +kernel
theorem dX6_image_122 : decode cX6_image 122 = .ok (.getfield 121, 3) := by decide +kernel
theorem dX6_image_125 : decode cX6_image 125 = .ok (.iastore, 1) := by decide +kernel
theorem dX6_image_126 : decode cX6_image 126 = .ok (.aload_n 0, 1) := by decide +kernel
theorem dX6_image_127 : decode cX6_image 127 = .ok (.getfield 56, 3) := by decide +kernel
theorem dX6_image_130 : decode cX6_image 130 = .ok (.bipush 63, 2) := by decide +kernel
theorem dX6_image_132 : decode cX6_image 132 = .ok (.aload_n 0, 1) := by decide +kernel
theorem dX6_image_133 : decode cX6_image 133 = .ok (.getfield 38, 3) := by decide +kernel
theorem dX6_image_136 : decode cX6_image 136 = .ok (.iastore, 1) := by decide +kernel
theorem dX6_image_137 : decode cX6_image 137 = .ok (.aload_n 0, 1) := by decide +kernel
theorem dX6_image_138 : decode cX6_image 138 = .ok (.iconst 1, 1) := by decide +kernel
theorem dX6_image_139 : decode cX6_image 139 = .ok (.putfield 236, 3) := by decide +kernel
theorem dX6_image_142 : decode cX6_image 142 = .ok (.iconst 1, 1) := by decide +kernel
theorem dX6_image_143 : decode cX6_image 143 = .ok (.ireturn, 1) := by decide +kernel
set_option maxRecDepth 20000 in
theorem ggX6_restore_X6_carried : GoodIn wsX6_restore wsX6_carried := goodIn_r _ [17, 18, 19, 20, 21, 22, 23, 24, 25, 26, 27, 28, 29, 30, 31, 32, 33, 34, 35, 36, 37, 38, 39, 40, 41, 42, 43, 44, 45, 46, 47, 48, 49, 50, 51, 52, 53, 54, 55, 56, 57, 58, 59] (by decide +kernel) (by decide +kernel)
set_option maxRecDepth 20000 in
theorem gX6_restore_X6_carried : GoodIn wsX6_restore (wsV RX6 232 RX6 yX6_carried wsX6_carried) := goodIn_app (goodIn_of _ (by decide +kernel)) ggX6_restore_X6_carried
theorem dX6_restore_0 : decode cX6_restore 0 = .ok (.aload_n 0, 1) := by decide +kernel
theorem dX6_restore_1 : decode cX6_restore 1 = .ok (.getfield 236, 3) := by decide +kernel
theorem dX6_restore_4 : decode cX6_restore 4 = .ok (.ifCond .ne 6, 3) := by decide +kernel
theorem dX6_restore_7 : decode cX6_restore 7 = .ok (.bipush (-4), 2) := by decide +kernel
theorem dX6_restore_9 : decode cX6_restore 9 = .ok (.ireturn, 1) := by decide +kernel
theorem dX6_restore_10 : decode cX6_restore 10 = .ok (.iconst 0, 1) := by decide +kernel
theorem dX6_restore_11 : decode cX6_restore 11 = .ok (.istore_n 1, 1) := by decide +kernel
theorem dX6_restore_12 : decode cX6_restore 12 = .ok (.iload_n 1, 1) := by decide +kernel
theorem dX6_restore_13 : decode cX6_restore 13 = .ok (.bipush 54, 2) := by decide +kernel
theorem dX6_restore_15 : decode cX6_restore 15 = .ok (.if_icmp .ge 22, 3) := by decide +kernel
theorem dX6_restore_18 : decode cX6_restore 18 = .ok (.aload_n 0, 1) := by decide +kernel
theorem dX6_restore_19 : decode cX6_restore 19 = .ok (.iload_n 1, 1) := by decide +kernel
theorem dX6_restore_20 : decode cX6_restore 20 = .ok (.aload_n 0, 1) := by decide +kernel
theorem dX6_restore_21 : decode cX6_restore 21 = .ok (.getfield 56, 3) := by decide +kernel
theorem dX6_restore_24 : decode cX6_restore 24 = .ok (.iload_n 1, 1) := by decide +kernel
theorem dX6_restore_25 : decode cX6_restore 25 = .ok (.iaload, 1) := by decide +kernel
theorem dX6_restore_26 : decode cX6_restore 26 = .ok (.iconst 1, 1) := by decide +kernel
theorem dX6_restore_27 : decode cX6_restore 27 = .ok (.invokevirtual 232, 3) := by decide +kernel
theorem dX6_restore_30 : decode cX6_restore 30 = .ok (.pop, 1) := by decide +kernel
theorem dX6_restore_31 : decode cX6_restore 31 = .ok (.iinc 1 1, 3) := by decide +kernel
theorem dX6_restore_34 : decode cX6_restore 34 = .ok (.goto (-22), 3) := by decide +kernel
theorem dX6_restore_37 : decode cX6_restore 37 = .ok (.aload_n 0, 1) := by decide +kernel
theorem dX6_restore_38 : decode cX6_restore 38 = .ok (.aload_n 0, 1) := by decide +kernel
theorem dX6_restore_39 : decode cX6_restore 39 = .ok (.getfield 56, 3) := by decide +kernel
theorem dX6_restore_42 : decode cX6_restore 42 = .ok (.bipush 54, 2) := by decide +kernel
theorem dX6_restore_44 : decode cX6_restore 44 = .ok (.iaload, 1) := by decide +kernel
theorem dX6_restore_45 : decode cX6_restore 45 = .ok (.putfield 72, 3) := by decide +kernel
theorem dX6_restore_48 : decode cX6_restore 48 = .ok (.aload_n 0, 1) := by decide +kernel
theorem dX6_restore_49 : decode cX6_restore 49 = .ok (.aload_n 0, 1) := by decide +kernel
theorem dX6_restore_50 : decode cX6_restore 50 = .ok (.getfield 56, 3) := by decide +kernel
theorem dX6_restore_53 : decode cX6_restore 53 = .ok (.bipush 55, 2) := by decide +kernel
theorem dX6_restore_55 : decode cX6_restore 55 = .ok (.iaload, 1) := by decide +kernel
theorem dX6_restore_56 : decode cX6_restore 56 = .ok (.putfield 112, 3) := by decide +kernel
theorem dX6_restore_59 : decode cX6_restore 59 = .ok (.aload_n 0, 1) := by decide +kernel
theorem dX6_restore_60 : decode cX6_restore 60 = .ok (.aload_n 0, 1) := by decide +kernel
theorem dX6_restore_61 : decode cX6_restore 61 = .ok (.getfield 56, 3) := by decide +kernel
theorem dX6_restore_64 : decode cX6_restore 64 = .ok (.bipush 56, 2) := by decide +kernel
theorem dX6_restore_66 : decode cX6_restore 66 = .ok (.iaload, 1) := by decide +kernel
theorem dX6_restore_67 : decode cX6_restore 67 = .ok (.putfield 25, 3) := by decide +kernel
theorem dX6_restore_70 : decode cX6_restore 70 = .ok (.aload_n 0, 1) := by decide +kernel
theorem dX6_restore_71 : decode cX6_restore 71 = .ok (.aload_n 0, 1) := by decide +kernel
theorem dX6_restore_72 : decode cX6_restore 72 = .ok (.getfield 56, 3) := by decide +kernel
theorem dX6_restore_75 : decode cX6_restore 75 = .ok (.bipush 57, 2) := by decide +kernel
theorem dX6_restore_77 : decode cX6_restore 77 = .ok (.iaload, 1) := by decide +kernel
theorem dX6_restore_78 : decode cX6_restore 78 = .ok (.putfield 29, 3) := by decide +kernel
theorem dX6_restore_81 : decode cX6_restore 81 = .ok (.aload_n 0, 1) := by decide +kernel
theorem dX6_restore_82 : decode cX6_restore 82 = .ok (.aload_n 0, 1) := by decide +kernel
theorem dX6_restore_83 : decode cX6_restore 83 = .ok (.getfield 56, 3) := by decide +kernel
theorem dX6_restore_86 : decode cX6_restore 86 = .ok (.bipush 58, 2) := by decide +kernel
theorem dX6_restore_88 : decode cX6_restore 88 = .ok (.iaload, 1) := by decide +kernel
theorem dX6_restore_89 : decode cX6_restore 89 = .ok (.putfield 115, 3) := by decide +kernel
theorem dX6_restore_92 : decode cX6_restore 92 = .ok (.aload_n 0, 1) := by decide +kernel
theorem dX6_restore_93 : decode cX6_restore 93 = .ok (.aload_n 0, 1) := by decide +kernel
theorem dX6_restore_94 : decode cX6_restore 94 = .ok (.getfield 56, 3) := by decide +kernel
theorem dX6_restore_97 : decode cX6_restore 97 = .ok (.bipush 59, 2) := by decide +kernel
theorem dX6_restore_99 : decode cX6_restore 99 = .ok (.iaload, 1) := by decide +kernel
theorem dX6_restore_100 : decode cX6_restore 100 = .ok (.putfield 118, 3) := by decide +kernel
theorem dX6_restore_103 : decode cX6_restore 103 = .ok (.aload_n 0, 1) := by decide +kernel
theorem dX6_restore_104 : decode cX6_restore 104 = .ok (.aload_n 0, 1) := by decide +kernel
theorem dX6_restore_105 : decode cX6_restore 105 = .ok (.getfield 56, 3) := by decide +kernel
theorem dX6_restore_108 : decode cX6_restore 108 = .ok (.bipush 60, 2) := by decide +kernel
theorem dX6_restore_110 : decode cX6_restore 110 = .ok (.iaload, 1) := by decide +kernel
theorem dX6_restore_111 : decode cX6_restore 111 = .ok (.putfield 98, 3) := by decide +kernel
theorem dX6_restore_114 : decode cX6_restore 114 = .ok (.aload_n 0, 1) := by decide +kernel
theorem dX6_restore_115 : decode cX6_restore 115 = .ok (.aload_n 0, 1) := by decide +kernel
theorem dX6_restore_116 : decode cX6_restore 116 = .ok (.getfield 56, 3) := by decide +kernel
theorem dX6_restore_119 : decode cX6_restore 119 = .ok (.bipush 61, 2) := by decide +kernel
theorem dX6_restore_121 : decode cX6_restore 121 = .ok (.iaload, 1) := by decide +kernel
theorem dX6_restore_122 : decode cX6_restore 122 = .ok (.putfield 32, 3) := by decide +kernel
theorem dX6_restore_125 : decode cX6_restore 125 = .ok (.aload_n 0, 1) := by decide +kernel
theorem dX6_restore_126 : decode cX6_restore 126 = .ok (.aload_n 0, 1) := by decide +kernel
theorem dX6_restore_127 : decode cX6_restore 127 = .ok (.getfield 56, 3) := by decide +kernel
theorem dX6_restore_130 : decode cX6_restore 130 = .ok (.bipush 62, 2) := by decide +kernel
theorem dX6_restore_132 : decode cX6_restore 132 = .ok (.iaload, 1) := by decide +kernel
theorem dX6_restore_133 : decode cX6_restore 133 = .ok (.putfield 121, 3) := by decide +kernel
theorem dX6_restore_136 : decode cX6_restore 136 = .ok (.aload_n 0, 1) := by decide +kernel
theorem dX6_restore_137 : decode cX6_restore 137 = .ok (.aload_n 0, 1) := by decide +kernel
theorem dX6_restore_138 : decode cX6_restore 138 = .ok (.getfield 56, 3) := by decide +kernel
theorem dX6_restore_141 : decode cX6_restore 141 = .ok (.bipush 63, 2) := by decide +kernel
theorem dX6_restore_143 : decode cX6_restore 143 = .ok (.iaload, 1) := by decide +kernel
theorem dX6_restore_144 : decode cX6_restore 144 = .ok (.putfield 38, 3) := by decide +kernel
theorem dX6_restore_147 : decode cX6_restore 147 = .ok (.iconst 1, 1) := by decide +kernel
theorem dX6_restore_148 : decode cX6_restore 148 = .ok (.ireturn, 1) := by decide +kernel
set_option maxRecDepth 20000 in
theorem ggX6_isSheet_X6_in : GoodIn wsX6_isSheet wsX6_in := goodIn_r _ [6] (by decide +kernel) (by decide +kernel)
set_option maxRecDepth 20000 in
theorem gX6_isSheet_X6_in : GoodIn wsX6_isSheet (va_wsS RX6 75 yX6_in wsX6_in) := goodIn_app (goodIn_of _ (by decide +kernel)) ggX6_isSheet_X6_in
theorem dX6_isSheet_0 : decode cX6_isSheet 0 = .ok (.iload_n 0, 1) := by decide +kernel
theorem dX6_isSheet_1 : decode cX6_isSheet 1 = .ok (.i2l, 1) := by decide +kernel
theorem dX6_isSheet_2 : decode cX6_isSheet 2 = .ok (.lconst 0, 1) := by decide +kernel
theorem dX6_isSheet_3 : decode cX6_isSheet 3 = .ok (.ldc2_w 83, 3) := by decide +kernel
theorem dX6_isSheet_6 : decode cX6_isSheet 6 = .ok (.invokestatic 75, 3) := by decide +kernel
theorem dX6_isSheet_9 : decode cX6_isSheet 9 = .ok (.ifCond .eq 19, 3) := by decide +kernel
theorem dX6_isSheet_12 : decode cX6_isSheet 12 = .ok (.iload_n 1, 1) := by decide +kernel
theorem dX6_isSheet_13 : decode cX6_isSheet 13 = .ok (.i2l, 1) := by decide +kernel
theorem dX6_isSheet_14 : decode cX6_isSheet 14 = .ok (.lconst 0, 1) := by decide +kernel
theorem dX6_isSheet_15 : decode cX6_isSheet 15 = .ok (.ldc2_w 105, 3) := by decide +kernel
theorem dX6_isSheet_18 : decode cX6_isSheet 18 = .ok (.invokestatic 75, 3) := by decide +kernel
theorem dX6_isSheet_21 : decode cX6_isSheet 21 = .ok (.ifCond .eq 7, 3) := by decide +kernel
theorem dX6_isSheet_24 : decode cX6_isSheet 24 = .ok (.iconst 1, 1) := by decide +kernel
theorem dX6_isSheet_25 : decode cX6_isSheet 25 = .ok (.goto 4, 3) := by decide +kernel
theorem dX6_isSheet_28 : decode cX6_isSheet 28 = .ok (.iconst 0, 1) := by decide +kernel
theorem dX6_isSheet_29 : decode cX6_isSheet 29 = .ok (.ireturn, 1) := by decide +kernel
theorem dX6_asLane_0 : decode cX6_asLane 0 = .ok (.iload_n 0, 1) := by decide +kernel
theorem dX6_asLane_1 : decode cX6_asLane 1 = .ok (.ifCond .ne 13, 3) := by decide +kernel
theorem dX6_asLane_4 : decode cX6_asLane 4 = .ok (.lload_n 1, 1) := by decide +kernel
theorem dX6_asLane_5 : decode cX6_asLane 5 = .ok (.bipush 56, 2) := by decide +kernel
theorem dX6_asLane_7 : decode cX6_asLane 7 = .ok (.lshl, 1) := by decide +kernel
theorem dX6_asLane_8 : decode cX6_asLane 8 = .ok (.bipush 56, 2) := by decide +kernel
theorem dX6_asLane_10 : decode cX6_asLane 10 = .ok (.lshr, 1) := by decide +kernel
theorem dX6_asLane_11 : decode cX6_asLane 11 = .ok (.goto 19, 3) := by decide +kernel
theorem dX6_asLane_14 : decode cX6_asLane 14 = .ok (.iload_n 0, 1) := by decide +kernel
theorem dX6_asLane_15 : decode cX6_asLane 15 = .ok (.iconst 1, 1) := by decide +kernel
theorem dX6_asLane_16 : decode cX6_asLane 16 = .ok (.if_icmp .ne 13, 3) := by decide +kernel
theorem dX6_asLane_19 : decode cX6_asLane 19 = .ok (.lload_n 1, 1) := by decide +kernel
theorem dX6_asLane_20 : decode cX6_asLane 20 = .ok (.bipush 48, 2) := by decide +kernel
theorem dX6_asLane_22 : decode cX6_asLane 22 = .ok (.lshl, 1) := by decide +kernel
theorem dX6_asLane_23 : decode cX6_asLane 23 = .ok (.bipush 48, 2) := by decide +kernel
theorem dX6_asLane_25 : decode cX6_asLane 25 = .ok (.lshr, 1) := by decide +kernel
theorem dX6_asLane_26 : decode cX6_asLane 26 = .ok (.goto 4, 3) := by decide +kernel
theorem dX6_asLane_29 : decode cX6_asLane 29 = .ok (.lload_n 1, 1) := by decide +kernel
theorem dX6_asLane_30 : decode cX6_asLane 30 = .ok (.lreturn, 1) := by decide +kernel
set_option maxRecDepth 20000 in
theorem ggX6_sheet_X6_isSheet : GoodIn wsX6_sheet wsX6_isSheet := goodIn_r _ [7, 8, 9, 10, 11, 6, 12] (by decide +kernel) (by decide +kernel)
set_option maxRecDepth 20000 in
theorem gX6_sheet_X6_isSheet : GoodIn wsX6_sheet (va_wsS RX6 239 yX6_isSheet wsX6_isSheet) := goodIn_app (goodIn_of _ (by decide +kernel)) ggX6_sheet_X6_isSheet
theorem dX6_sheet_0 : decode cX6_sheet 0 = .ok (.iload_n 1, 1) := by decide +kernel
theorem dX6_sheet_1 : decode cX6_sheet 1 = .ok (.iload_n 2, 1) := by decide +kernel
theorem dX6_sheet_2 : decode cX6_sheet 2 = .ok (.invokestatic 239, 3) := by decide +kernel
theorem dX6_sheet_5 : decode cX6_sheet 5 = .ok (.ifCond .eq 9, 3) := by decide +kernel
theorem dX6_sheet_8 : decode cX6_sheet 8 = .ok (.iload_n 3, 1) := by decide +kernel
theorem dX6_sheet_9 : decode cX6_sheet 9 = .ok (.bipush 24, 2) := by decide +kernel
theorem dX6_sheet_11 : decode cX6_sheet 11 = .ok (.if_icmp .le 5, 3) := by decide +kernel
theorem dX6_sheet_14 : decode cX6_sheet 14 = .ok (.iconst (-1), 1) := by decide +kernel
theorem dX6_sheet_15 : decode cX6_sheet 15 = .ok (.ireturn, 1) := by decide +kernel
theorem dX6_sheet_16 : decode cX6_sheet 16 = .ok (.iload_n 3, 1) := by decide +kernel
theorem dX6_sheet_17 : decode cX6_sheet 17 = .ok (.ifCond .ge 6, 3) := by decide +kernel
theorem dX6_sheet_20 : decode cX6_sheet 20 = .ok (.bipush (-14), 2) := by decide +kernel
theorem dX6_sheet_22 : decode cX6_sheet 22 = .ok (.ireturn, 1) := by decide +kernel
theorem dX6_sheet_23 : decode cX6_sheet 23 = .ok (.aload_n 0, 1) := by decide +kernel
theorem dX6_sheet_24 : decode cX6_sheet 24 = .ok (.getfield 59, 3) := by decide +kernel
theorem dX6_sheet_27 : decode cX6_sheet 27 = .ok (.iload_n 1, 1) := by decide +kernel
theorem dX6_sheet_28 : decode cX6_sheet 28 = .ok (.iload_n 2, 1) := by decide +kernel
theorem dX6_sheet_29 : decode cX6_sheet 29 = .ok (.iastore, 1) := by decide +kernel
theorem dX6_sheet_30 : decode cX6_sheet 30 = .ok (.aload_n 0, 1) := by decide +kernel
theorem dX6_sheet_31 : decode cX6_sheet 31 = .ok (.getfield 62, 3) := by decide +kernel
theorem dX6_sheet_34 : decode cX6_sheet 34 = .ok (.iload_n 1, 1) := by decide +kernel
theorem dX6_sheet_35 : decode cX6_sheet 35 = .ok (.iload_n 3, 1) := by decide +kernel
theorem dX6_sheet_36 : decode cX6_sheet 36 = .ok (.iastore, 1) := by decide +kernel
theorem dX6_sheet_37 : decode cX6_sheet 37 = .ok (.iconst 0, 1) := by decide +kernel
theorem dX6_sheet_38 : decode cX6_sheet 38 = .ok (.istore 4, 2) := by decide +kernel
theorem dX6_sheet_40 : decode cX6_sheet 40 = .ok (.iload 4, 2) := by decide +kernel
theorem dX6_sheet_42 : decode cX6_sheet 42 = .ok (.bipush 24, 2) := by decide +kernel
theorem dX6_sheet_44 : decode cX6_sheet 44 = .ok (.if_icmp .ge 22, 3) := by decide +kernel
theorem dX6_sheet_47 : decode cX6_sheet 47 = .ok (.aload_n 0, 1) := by decide +kernel
theorem dX6_sheet_48 : decode cX6_sheet 48 = .ok (.getfield 65, 3) := by decide +kernel
theorem dX6_sheet_51 : decode cX6_sheet 51 = .ok (.bipush 24, 2) := by decide +kernel
theorem dX6_sheet_53 : decode cX6_sheet 53 = .ok (.iload_n 1, 1) := by decide +kernel
theorem dX6_sheet_54 : decode cX6_sheet 54 = .ok (.imul, 1) := by decide +kernel
theorem dX6_sheet_55 : decode cX6_sheet 55 = .ok (.iload 4, 2) := by decide +kernel
theorem dX6_sheet_57 : decode cX6_sheet 57 = .ok (.iadd, 1) := by decide +kernel
theorem dX6_sheet_58 : decode cX6_sheet 58 = .ok (.lconst 0, 1) := by decide +kernel
theorem dX6_sheet_59 : decode cX6_sheet 59 = .ok (.lastore, 1) := by decide +kernel
theorem dX6_sheet_60 : decode cX6_sheet 60 = .ok (.iinc 4 1, 3) := by decide +kernel
theorem dX6_sheet_63 : decode cX6_sheet 63 = .ok (.goto (-23), 3) := by decide +kernel
theorem dX6_sheet_66 : decode cX6_sheet 66 = .ok (.iload_n 3, 1) := by decide +kernel
theorem dX6_sheet_67 : decode cX6_sheet 67 = .ok (.ireturn, 1) := by decide +kernel
set_option maxRecDepth 20000 in
theorem ggX6_drop_X6_in : GoodIn wsX6_drop wsX6_in := goodIn_r _ [7] (by decide +kernel) (by decide +kernel)
set_option maxRecDepth 20000 in
theorem gX6_drop_X6_in : GoodIn wsX6_drop (va_wsS RX6 75 yX6_in wsX6_in) := goodIn_app (goodIn_of _ (by decide +kernel)) ggX6_drop_X6_in
theorem dX6_drop_0 : decode cX6_drop 0 = .ok (.iload_n 1, 1) := by decide +kernel
theorem dX6_drop_1 : decode cX6_drop 1 = .ok (.i2l, 1) := by decide +kernel
theorem dX6_drop_2 : decode cX6_drop 2 = .ok (.lconst 0, 1) := by decide +kernel
theorem dX6_drop_3 : decode cX6_drop 3 = .ok (.ldc2_w 83, 3) := by decide +kernel
theorem dX6_drop_6 : decode cX6_drop 6 = .ok (.invokestatic 75, 3) := by decide +kernel
theorem dX6_drop_9 : decode cX6_drop 9 = .ok (.ifCond .ne 5, 3) := by decide +kernel
theorem dX6_drop_12 : decode cX6_drop 12 = .ok (.iconst (-1), 1) := by decide +kernel
theorem dX6_drop_13 : decode cX6_drop 13 = .ok (.ireturn, 1) := by decide +kernel
theorem dX6_drop_14 : decode cX6_drop 14 = .ok (.aload_n 0, 1) := by decide +kernel
theorem dX6_drop_15 : decode cX6_drop 15 = .ok (.getfield 59, 3) := by decide +kernel
theorem dX6_drop_18 : decode cX6_drop 18 = .ok (.iload_n 1, 1) := by decide +kernel
theorem dX6_drop_19 : decode cX6_drop 19 = .ok (.iaload, 1) := by decide +kernel
theorem dX6_drop_20 : decode cX6_drop 20 = .ok (.ifCond .ge 6, 3) := by decide +kernel
theorem dX6_drop_23 : decode cX6_drop 23 = .ok (.bipush (-11), 2) := by decide +kernel
theorem dX6_drop_25 : decode cX6_drop 25 = .ok (.ireturn, 1) := by decide +kernel
theorem dX6_drop_26 : decode cX6_drop 26 = .ok (.aload_n 0, 1) := by decide +kernel
theorem dX6_drop_27 : decode cX6_drop 27 = .ok (.getfield 59, 3) := by decide +kernel
theorem dX6_drop_30 : decode cX6_drop 30 = .ok (.iload_n 1, 1) := by decide +kernel
theorem dX6_drop_31 : decode cX6_drop 31 = .ok (.iconst (-1), 1) := by decide +kernel
theorem dX6_drop_32 : decode cX6_drop 32 = .ok (.iastore, 1) := by decide +kernel
theorem dX6_drop_33 : decode cX6_drop 33 = .ok (.aload_n 0, 1) := by decide +kernel
theorem dX6_drop_34 : decode cX6_drop 34 = .ok (.getfield 62, 3) := by decide +kernel
theorem dX6_drop_37 : decode cX6_drop 37 = .ok (.iload_n 1, 1) := by decide +kernel
theorem dX6_drop_38 : decode cX6_drop 38 = .ok (.iaload, 1) := by decide +kernel
theorem dX6_drop_39 : decode cX6_drop 39 = .ok (.ireturn, 1) := by decide +kernel
set_option maxRecDepth 20000 in
theorem ggX6_lacksRow_X6_in : GoodIn wsX6_lacksRow wsX6_in := goodIn_r _ [6] (by decide +kernel) (by decide +kernel)
set_option maxRecDepth 20000 in
theorem gX6_lacksRow_X6_in : GoodIn wsX6_lacksRow (va_wsS RX6 75 yX6_in wsX6_in) := goodIn_app (goodIn_of _ (by decide +kernel)) ggX6_lacksRow_X6_in
theorem dX6_lacksRow_0 : decode cX6_lacksRow 0 = .ok (.aload_n 0, 1) := by decide +kernel
theorem dX6_lacksRow_1 : decode cX6_lacksRow 1 = .ok (.getfield 59, 3) := by decide +kernel
theorem dX6_lacksRow_4 : decode cX6_lacksRow 4 = .ok (.iload_n 1, 1) := by decide +kernel
theorem dX6_lacksRow_5 : decode cX6_lacksRow 5 = .ok (.iaload, 1) := by decide +kernel
theorem dX6_lacksRow_6 : decode cX6_lacksRow 6 = .ok (.iload_n 2, 1) := by decide +kernel
theorem dX6_lacksRow_7 : decode cX6_lacksRow 7 = .ok (.if_icmp .eq 20, 3) := by decide +kernel
theorem dX6_lacksRow_10 : decode cX6_lacksRow 10 = .ok (.aload_n 0, 1) := by decide +kernel
theorem dX6_lacksRow_11 : decode cX6_lacksRow 11 = .ok (.getfield 59, 3) := by decide +kernel
theorem dX6_lacksRow_14 : decode cX6_lacksRow 14 = .ok (.iload_n 1, 1) := by decide +kernel
theorem dX6_lacksRow_15 : decode cX6_lacksRow 15 = .ok (.iaload, 1) := by decide +kernel
theorem dX6_lacksRow_16 : decode cX6_lacksRow 16 = .ok (.ifCond .ge 8, 3) := by decide +kernel
theorem dX6_lacksRow_19 : decode cX6_lacksRow 19 = .ok (.bipush (-11), 2) := by decide +kernel
theorem dX6_lacksRow_21 : decode cX6_lacksRow 21 = .ok (.goto 5, 3) := by decide +kernel
theorem dX6_lacksRow_24 : decode cX6_lacksRow 24 = .ok (.bipush (-12), 2) := by decide +kernel
theorem dX6_lacksRow_26 : decode cX6_lacksRow 26 = .ok (.ireturn, 1) := by decide +kernel
theorem dX6_lacksRow_27 : decode cX6_lacksRow 27 = .ok (.iload_n 3, 1) := by decide +kernel
theorem dX6_lacksRow_28 : decode cX6_lacksRow 28 = .ok (.i2l, 1) := by decide +kernel
theorem dX6_lacksRow_29 : decode cX6_lacksRow 29 = .ok (.lconst 0, 1) := by decide +kernel
theorem dX6_lacksRow_30 : decode cX6_lacksRow 30 = .ok (.aload_n 0, 1) := by decide +kernel
theorem dX6_lacksRow_31 : decode cX6_lacksRow 31 = .ok (.getfield 62, 3) := by decide +kernel
theorem dX6_lacksRow_34 : decode cX6_lacksRow 34 = .ok (.iload_n 1, 1) := by decide +kernel
theorem dX6_lacksRow_35 : decode cX6_lacksRow 35 = .ok (.iaload, 1) := by decide +kernel
theorem dX6_lacksRow_36 : decode cX6_lacksRow 36 = .ok (.iload 4, 2) := by decide +kernel
theorem dX6_lacksRow_38 : decode cX6_lacksRow 38 = .ok (.isub, 1) := by decide +kernel
theorem dX6_lacksRow_39 : decode cX6_lacksRow 39 = .ok (.i2l, 1) := by decide +kernel
theorem dX6_lacksRow_40 : decode cX6_lacksRow 40 = .ok (.invokestatic 75, 3) := by decide +kernel
theorem dX6_lacksRow_43 : decode cX6_lacksRow 43 = .ok (.ifCond .eq 7, 3) := by decide +kernel
theorem dX6_lacksRow_46 : decode cX6_lacksRow 46 = .ok (.iconst 0, 1) := by decide +kernel
theorem dX6_lacksRow_47 : decode cX6_lacksRow 47 = .ok (.goto 5, 3) := by decide +kernel
theorem dX6_lacksRow_50 : decode cX6_lacksRow 50 = .ok (.bipush (-13), 2) := by decide +kernel
theorem dX6_lacksRow_52 : decode cX6_lacksRow 52 = .ok (.ireturn, 1) := by decide +kernel
set_option maxRecDepth 20000 in
theorem ggX6_item_X6_isSheet : GoodIn wsX6_item wsX6_isSheet := goodIn_r _ [5, 6, 7, 8, 9, 4, 10] (by decide +kernel) (by decide +kernel)
set_option maxRecDepth 20000 in
theorem gX6_item_X6_isSheet : GoodIn wsX6_item (va_wsS RX6 239 yX6_isSheet wsX6_isSheet) := goodIn_app (goodIn_of _ (by decide +kernel)) ggX6_item_X6_isSheet
set_option maxRecDepth 20000 in
theorem ggX6_item_X6_lacksRow : GoodIn wsX6_item wsX6_lacksRow := goodIn_r _ [14, 15, 16, 8, 9, 4, 10, 20, 21, 22, 23, 24, 25, 26, 27, 28, 29, 30, 31, 32, 33, 34, 35, 36, 37, 38, 39, 40, 41, 42, 43, 44, 45, 46, 47, 48, 49, 50, 51, 52, 53, 54, 55] (by decide +kernel) (by decide +kernel)
set_option maxRecDepth 20000 in
theorem gX6_item_X6_lacksRow : GoodIn wsX6_item (wsV RX6 242 RX6 yX6_lacksRow wsX6_lacksRow) := goodIn_app (goodIn_of _ (by decide +kernel)) ggX6_item_X6_lacksRow
set_option maxRecDepth 20000 in
theorem ggX6_item_X6_asLane : GoodIn wsX6_item wsX6_asLane := goodIn_r _ [19] (by decide +kernel) (by decide +kernel)
set_option maxRecDepth 20000 in
theorem gX6_item_X6_asLane : GoodIn wsX6_item (va_wsS RX6 246 yX6_asLane wsX6_asLane) := goodIn_app (goodIn_of _ (by decide +kernel)) ggX6_item_X6_asLane
theorem dX6_item_0 : decode cX6_item 0 = .ok (.iload_n 1, 1) := by decide +kernel
theorem dX6_item_1 : decode cX6_item 1 = .ok (.iload_n 2, 1) := by decide +kernel
theorem dX6_item_2 : decode cX6_item 2 = .ok (.invokestatic 239, 3) := by decide +kernel
theorem dX6_item_5 : decode cX6_item 5 = .ok (.ifCond .ne 5, 3) := by decide +kernel
theorem dX6_item_8 : decode cX6_item 8 = .ok (.iconst (-1), 1) := by decide +kernel
theorem dX6_item_9 : decode cX6_item 9 = .ok (.ireturn, 1) := by decide +kernel
theorem dX6_item_10 : decode cX6_item 10 = .ok (.aload_n 0, 1) := by decide +kernel
theorem dX6_item_11 : decode cX6_item 11 = .ok (.iload_n 1, 1) := by decide +kernel
theorem dX6_item_12 : decode cX6_item 12 = .ok (.iload_n 2, 1) := by decide +kernel
theorem dX6_item_13 : decode cX6_item 13 = .ok (.iload_n 3, 1) := by decide +kernel
theorem dX6_item_14 : decode cX6_item 14 = .ok (.iconst 1, 1) := by decide +kernel
theorem dX6_item_15 : decode cX6_item 15 = .ok (.invokevirtual 242, 3) := by decide +kernel
theorem dX6_item_18 : decode cX6_item 18 = .ok (.istore 6, 2) := by decide +kernel
theorem dX6_item_20 : decode cX6_item 20 = .ok (.iload 6, 2) := by decide +kernel
theorem dX6_item_22 : decode cX6_item 22 = .ok (.ifCond .ge 6, 3) := by decide +kernel
theorem dX6_item_25 : decode cX6_item 25 = .ok (.iload 6, 2) := by decide +kernel
theorem dX6_item_27 : decode cX6_item 27 = .ok (.ireturn, 1) := by decide +kernel
theorem dX6_item_28 : decode cX6_item 28 = .ok (.aload_n 0, 1) := by decide +kernel
theorem dX6_item_29 : decode cX6_item 29 = .ok (.getfield 65, 3) := by decide +kernel
theorem dX6_item_32 : decode cX6_item 32 = .ok (.bipush 24, 2) := by decide +kernel
theorem dX6_item_34 : decode cX6_item 34 = .ok (.iload_n 1, 1) := by decide +kernel
theorem dX6_item_35 : decode cX6_item 35 = .ok (.imul, 1) := by decide +kernel
theorem dX6_item_36 : decode cX6_item 36 = .ok (.iload_n 3, 1) := by decide +kernel
theorem dX6_item_37 : decode cX6_item 37 = .ok (.iadd, 1) := by decide +kernel
theorem dX6_item_38 : decode cX6_item 38 = .ok (.iload_n 2, 1) := by decide +kernel
theorem dX6_item_39 : decode cX6_item 39 = .ok (.lload 4, 2) := by decide +kernel
theorem dX6_item_41 : decode cX6_item 41 = .ok (.invokestatic 246, 3) := by decide +kernel
theorem dX6_item_44 : decode cX6_item 44 = .ok (.lastore, 1) := by decide +kernel
theorem dX6_item_45 : decode cX6_item 45 = .ok (.iconst 1, 1) := by decide +kernel
theorem dX6_item_46 : decode cX6_item 46 = .ok (.ireturn, 1) := by decide +kernel
set_option maxRecDepth 20000 in
theorem ggX6_fits_X6_pailsOf : GoodIn wsX6_fits wsX6_pailsOf := goodIn_r _ [6] (by decide +kernel) (by decide +kernel)
set_option maxRecDepth 20000 in
theorem gX6_fits_X6_pailsOf : GoodIn wsX6_fits (va_wsS RX6 182 yX6_pailsOf wsX6_pailsOf) := goodIn_app (goodIn_of _ (by decide +kernel)) ggX6_fits_X6_pailsOf
set_option maxRecDepth 20000 in
theorem ggX6_fits_X6_feltBy : GoodIn wsX6_fits wsX6_feltBy := goodIn_r _ [10, 2, 11, 18, 19, 20, 21, 22, 23, 24, 25, 26, 27, 28, 29, 30, 31, 32, 33, 34, 35, 36, 37, 38, 39, 40, 41, 42, 43, 44, 45, 46, 47, 48, 49, 50, 51, 52, 53] (by decide +kernel) (by decide +kernel)
set_option maxRecDepth 20000 in
theorem gX6_fits_X6_feltBy : GoodIn wsX6_fits (wsV RX6 188 RX6 yX6_feltBy wsX6_feltBy) := goodIn_app (goodIn_of _ (by decide +kernel)) ggX6_fits_X6_feltBy
set_option maxRecDepth 20000 in
theorem ggX6_fits_X6_most9 : GoodIn wsX6_fits wsX6_most9 := goodIn_r _ [14] (by decide +kernel) (by decide +kernel)
set_option maxRecDepth 20000 in
theorem gX6_fits_X6_most9 : GoodIn wsX6_fits (va_wsS RX6 192 yX6_most9 wsX6_most9) := goodIn_app (goodIn_of _ (by decide +kernel)) ggX6_fits_X6_most9
set_option maxRecDepth 20000 in
theorem ggX6_fits_X6_wane : GoodIn wsX6_fits wsX6_wane := goodIn_r _ [17] (by decide +kernel) (by decide +kernel)
set_option maxRecDepth 20000 in
theorem gX6_fits_X6_wane : GoodIn wsX6_fits (va_wsS RX6 195 yX6_wane wsX6_wane) := goodIn_app (goodIn_of _ (by decide +kernel)) ggX6_fits_X6_wane
theorem dX6_fits_0 : decode cX6_fits 0 = .ok (.iload_n 3, 1) := by decide +kernel
theorem dX6_fits_1 : decode cX6_fits 1 = .ok (.istore 4, 2) := by decide +kernel
theorem dX6_fits_3 : decode cX6_fits 3 = .ok (.iconst 1, 1) := by decide +kernel
theorem dX6_fits_4 : decode cX6_fits 4 = .ok (.istore 5, 2) := by decide +kernel
theorem dX6_fits_6 : decode cX6_fits 6 = .ok (.iconst 0, 1) := by decide +kernel
theorem dX6_fits_7 : decode cX6_fits 7 = .ok (.istore 6, 2) := by decide +kernel
theorem dX6_fits_9 : decode cX6_fits 9 = .ok (.iload 6, 2) := by decide +kernel
theorem dX6_fits_11 : decode cX6_fits 11 = .ok (.iload_n 2, 1) := by decide +kernel
theorem dX6_fits_12 : decode cX6_fits 12 = .ok (.if_icmp .ge 82, 3) := by decide +kernel
theorem dX6_fits_15 : decode cX6_fits 15 = .ok (.iload 5, 2) := by decide +kernel
theorem dX6_fits_17 : decode cX6_fits 17 = .ok (.ifCond .eq 77, 3) := by decide +kernel
theorem dX6_fits_20 : decode cX6_fits 20 = .ok (.aload_n 0, 1) := by decide +kernel
theorem dX6_fits_21 : decode cX6_fits 21 = .ok (.getfield 65, 3) := by decide +kernel
theorem dX6_fits_24 : decode cX6_fits 24 = .ok (.iload_n 1, 1) := by decide +kernel
theorem dX6_fits_25 : decode cX6_fits 25 = .ok (.iconst 2, 1) := by decide +kernel
theorem dX6_fits_26 : decode cX6_fits 26 = .ok (.iload 6, 2) := by decide +kernel
theorem dX6_fits_28 : decode cX6_fits 28 = .ok (.imul, 1) := by decide +kernel
theorem dX6_fits_29 : decode cX6_fits 29 = .ok (.iadd, 1) := by decide +kernel
theorem dX6_fits_30 : decode cX6_fits 30 = .ok (.laload, 1) := by decide +kernel
theorem dX6_fits_31 : decode cX6_fits 31 = .ok (.l2i, 1) := by decide +kernel
theorem dX6_fits_32 : decode cX6_fits 32 = .ok (.istore 7, 2) := by decide +kernel
theorem dX6_fits_34 : decode cX6_fits 34 = .ok (.aload_n 0, 1) := by decide +kernel
theorem dX6_fits_35 : decode cX6_fits 35 = .ok (.getfield 7, 3) := by decide +kernel
theorem dX6_fits_38 : decode cX6_fits 38 = .ok (.iload 7, 2) := by decide +kernel
theorem dX6_fits_40 : decode cX6_fits 40 = .ok (.iaload, 1) := by decide +kernel
theorem dX6_fits_41 : decode cX6_fits 41 = .ok (.iload 4, 2) := by decide +kernel
theorem dX6_fits_43 : decode cX6_fits 43 = .ok (.invokestatic 182, 3) := by decide +kernel
theorem dX6_fits_46 : decode cX6_fits 46 = .ok (.i2l, 1) := by decide +kernel
theorem dX6_fits_47 : decode cX6_fits 47 = .ok (.aload_n 0, 1) := by decide +kernel
theorem dX6_fits_48 : decode cX6_fits 48 = .ok (.getfield 65, 3) := by decide +kernel
theorem dX6_fits_51 : decode cX6_fits 51 = .ok (.iload_n 1, 1) := by decide +kernel
theorem dX6_fits_52 : decode cX6_fits 52 = .ok (.iconst 2, 1) := by decide +kernel
theorem dX6_fits_53 : decode cX6_fits 53 = .ok (.iload 6, 2) := by decide +kernel
theorem dX6_fits_55 : decode cX6_fits 55 = .ok (.imul, 1) := by decide +kernel
theorem dX6_fits_56 : decode cX6_fits 56 = .ok (.iadd, 1) := by decide +kernel
theorem dX6_fits_57 : decode cX6_fits 57 = .ok (.iconst 1, 1) := by decide +kernel
theorem dX6_fits_58 : decode cX6_fits 58 = .ok (.iadd, 1) := by decide +kernel
theorem dX6_fits_59 : decode cX6_fits 59 = .ok (.laload, 1) := by decide +kernel
theorem dX6_fits_60 : decode cX6_fits 60 = .ok (.lcmp, 1) := by decide +kernel
theorem dX6_fits_61 : decode cX6_fits 61 = .ok (.ifCond .ne 7, 3) := by decide +kernel
theorem dX6_fits_64 : decode cX6_fits 64 = .ok (.iconst 1, 1) := by decide +kernel
theorem dX6_fits_65 : decode cX6_fits 65 = .ok (.goto 4, 3) := by decide +kernel
theorem dX6_fits_68 : decode cX6_fits 68 = .ok (.iconst 0, 1) := by decide +kernel
theorem dX6_fits_69 : decode cX6_fits 69 = .ok (.istore 5, 2) := by decide +kernel
theorem dX6_fits_71 : decode cX6_fits 71 = .ok (.iload 4, 2) := by decide +kernel
theorem dX6_fits_73 : decode cX6_fits 73 = .ok (.aload_n 0, 1) := by decide +kernel
theorem dX6_fits_74 : decode cX6_fits 74 = .ok (.iload 7, 2) := by decide +kernel
theorem dX6_fits_76 : decode cX6_fits 76 = .ok (.invokevirtual 188, 3) := by decide +kernel
theorem dX6_fits_79 : decode cX6_fits 79 = .ok (.iadd, 1) := by decide +kernel
theorem dX6_fits_80 : decode cX6_fits 80 = .ok (.invokestatic 192, 3) := by decide +kernel
theorem dX6_fits_83 : decode cX6_fits 83 = .ok (.invokestatic 195, 3) := by decide +kernel
theorem dX6_fits_86 : decode cX6_fits 86 = .ok (.istore 4, 2) := by decide +kernel
theorem dX6_fits_88 : decode cX6_fits 88 = .ok (.iinc 6 1, 3) := by decide +kernel
theorem dX6_fits_91 : decode cX6_fits 91 = .ok (.goto (-82), 3) := by decide +kernel
theorem dX6_fits_94 : decode cX6_fits 94 = .ok (.iload 5, 2) := by decide +kernel
theorem dX6_fits_96 : decode cX6_fits 96 = .ok (.ireturn, 1) := by decide +kernel
set_option maxRecDepth 20000 in
theorem ggX6_fit_X6_isSheet : GoodIn wsX6_fit wsX6_isSheet := goodIn_r _ [8, 9, 10, 11, 12, 7, 13] (by decide +kernel) (by decide +kernel)
set_option maxRecDepth 20000 in
theorem gX6_fit_X6_isSheet : GoodIn wsX6_fit (va_wsS RX6 239 yX6_isSheet wsX6_isSheet) := goodIn_app (goodIn_of _ (by decide +kernel)) ggX6_fit_X6_isSheet
set_option maxRecDepth 20000 in
theorem ggX6_fit_X6_in : GoodIn wsX6_fit wsX6_in := goodIn_r _ [13] (by decide +kernel) (by decide +kernel)
set_option maxRecDepth 20000 in
theorem gX6_fit_X6_in : GoodIn wsX6_fit (va_wsS RX6 75 yX6_in wsX6_in) := goodIn_app (goodIn_of _ (by decide +kernel)) ggX6_fit_X6_in
set_option maxRecDepth 20000 in
theorem ggX6_fit_X6_lacksRow : GoodIn wsX6_fit wsX6_lacksRow := goodIn_r _ [17, 18, 19, 11, 12, 7, 13, 39, 40, 41, 42, 43, 44, 45, 46, 47, 48, 49, 50, 51, 52, 53, 54, 55, 56, 57, 58, 59, 60, 61, 62, 63, 64, 65, 66, 67, 68, 69, 70, 71, 72, 73, 74] (by decide +kernel) (by decide +kernel)
set_option maxRecDepth 20000 in
theorem gX6_fit_X6_lacksRow : GoodIn wsX6_fit (wsV RX6 242 RX6 yX6_lacksRow wsX6_lacksRow) := goodIn_app (goodIn_of _ (by decide +kernel)) ggX6_fit_X6_lacksRow
set_option maxRecDepth 20000 in
theorem ggX6_fit_X6_fits : GoodIn wsX6_fit wsX6_fits := goodIn_r _ [23, 2, 24, 25, 26, 7, 27, 28, 29, 30, 31, 32, 33, 34, 35, 36, 37, 38, 39, 40, 41, 42, 43, 44, 45, 46, 47, 48, 49, 50, 51, 52, 53, 54, 55, 56, 57, 58, 59, 60, 61, 62, 63, 64, 65, 66, 67, 68, 69, 70, 71, 72, 73, 74] (by decide +kernel) (by decide +kernel)
set_option maxRecDepth 20000 in
theorem gX6_fit_X6_fits : GoodIn wsX6_fit (wsV RX6 250 RX6 yX6_fits wsX6_fits) := goodIn_app (goodIn_of _ (by decide +kernel)) ggX6_fit_X6_fits
theorem dX6_fit_0 : decode cX6_fit 0 = .ok (.iload_n 1, 1) := by decide +kernel
theorem dX6_fit_1 : decode cX6_fit 1 = .ok (.iload_n 2, 1) := by decide +kernel
theorem dX6_fit_2 : decode cX6_fit 2 = .ok (.invokestatic 239, 3) := by decide +kernel
theorem dX6_fit_5 : decode cX6_fit 5 = .ok (.ifCond .eq 16, 3) := by decide +kernel
theorem dX6_fit_8 : decode cX6_fit 8 = .ok (.iload 4, 2) := by decide +kernel
theorem dX6_fit_10 : decode cX6_fit 10 = .ok (.i2l, 1) := by decide +kernel
theorem dX6_fit_11 : decode cX6_fit 11 = .ok (.lconst 1, 1) := by decide +kernel
theorem dX6_fit_12 : decode cX6_fit 12 = .ok (.ldc2_w 124, 3) := by decide +kernel
theorem dX6_fit_15 : decode cX6_fit 15 = .ok (.invokestatic 75, 3) := by decide +kernel
theorem dX6_fit_18 : decode cX6_fit 18 = .ok (.ifCond .ne 5, 3) := by decide +kernel
theorem dX6_fit_21 : decode cX6_fit 21 = .ok (.iconst (-1), 1) := by decide +kernel
theorem dX6_fit_22 : decode cX6_fit 22 = .ok (.ireturn, 1) := by decide +kernel
theorem dX6_fit_23 : decode cX6_fit 23 = .ok (.aload_n 0, 1) := by decide +kernel
theorem dX6_fit_24 : decode cX6_fit 24 = .ok (.iload_n 1, 1) := by decide +kernel
theorem dX6_fit_25 : decode cX6_fit 25 = .ok (.iload_n 2, 1) := by decide +kernel
theorem dX6_fit_26 : decode cX6_fit 26 = .ok (.iload_n 3, 1) := by decide +kernel
theorem dX6_fit_27 : decode cX6_fit 27 = .ok (.iconst 2, 1) := by decide +kernel
theorem dX6_fit_28 : decode cX6_fit 28 = .ok (.iload 4, 2) := by decide +kernel
theorem dX6_fit_30 : decode cX6_fit 30 = .ok (.imul, 1) := by decide +kernel
theorem dX6_fit_31 : decode cX6_fit 31 = .ok (.invokevirtual 242, 3) := by decide +kernel
theorem dX6_fit_34 : decode cX6_fit 34 = .ok (.istore 5, 2) := by decide +kernel
theorem dX6_fit_36 : decode cX6_fit 36 = .ok (.iload 5, 2) := by decide +kernel
theorem dX6_fit_38 : decode cX6_fit 38 = .ok (.ifCond .ge 6, 3) := by decide +kernel
theorem dX6_fit_41 : decode cX6_fit 41 = .ok (.iload 5, 2) := by decide +kernel
theorem dX6_fit_43 : decode cX6_fit 43 = .ok (.ireturn, 1) := by decide +kernel
theorem dX6_fit_44 : decode cX6_fit 44 = .ok (.bipush 24, 2) := by decide +kernel
theorem dX6_fit_46 : decode cX6_fit 46 = .ok (.iload_n 1, 1) := by decide +kernel
theorem dX6_fit_47 : decode cX6_fit 47 = .ok (.imul, 1) := by decide +kernel
theorem dX6_fit_48 : decode cX6_fit 48 = .ok (.iload_n 3, 1) := by decide +kernel
theorem dX6_fit_49 : decode cX6_fit 49 = .ok (.iadd, 1) := by decide +kernel
theorem dX6_fit_50 : decode cX6_fit 50 = .ok (.istore 6, 2) := by decide +kernel
theorem dX6_fit_52 : decode cX6_fit 52 = .ok (.iconst 0, 1) := by decide +kernel
theorem dX6_fit_53 : decode cX6_fit 53 = .ok (.istore 7, 2) := by decide +kernel
theorem dX6_fit_55 : decode cX6_fit 55 = .ok (.iload 7, 2) := by decide +kernel
theorem dX6_fit_57 : decode cX6_fit 57 = .ok (.iload 4, 2) := by decide +kernel
theorem dX6_fit_59 : decode cX6_fit 59 = .ok (.if_icmp .ge 62, 3) := by decide +kernel
theorem dX6_fit_62 : decode cX6_fit 62 = .ok (.aload_n 0, 1) := by decide +kernel
theorem dX6_fit_63 : decode cX6_fit 63 = .ok (.getfield 65, 3) := by decide +kernel
theorem dX6_fit_66 : decode cX6_fit 66 = .ok (.iload 6, 2) := by decide +kernel
theorem dX6_fit_68 : decode cX6_fit 68 = .ok (.iconst 2, 1) := by decide +kernel
theorem dX6_fit_69 : decode cX6_fit 69 = .ok (.iload 7, 2) := by decide +kernel
theorem dX6_fit_71 : decode cX6_fit 71 = .ok (.imul, 1) := by decide +kernel
theorem dX6_fit_72 : decode cX6_fit 72 = .ok (.iadd, 1) := by decide +kernel
theorem dX6_fit_73 : decode cX6_fit 73 = .ok (.laload, 1) := by decide +kernel
theorem dX6_fit_74 : decode cX6_fit 74 = .ok (.lconst 0, 1) := by decide +kernel
theorem dX6_fit_75 : decode cX6_fit 75 = .ok (.aload_n 0, 1) := by decide +kernel
theorem dX6_fit_76 : decode cX6_fit 76 = .ok (.getfield 72, 3) := by decide +kernel
theorem dX6_fit_79 : decode cX6_fit 79 = .ok (.iconst 1, 1) := by decide +kernel
theorem dX6_fit_80 : decode cX6_fit 80 = .ok (.isub, 1) := by decide +kernel
theorem dX6_fit_81 : decode cX6_fit 81 = .ok (.i2l, 1) := by decide +kernel
theorem dX6_fit_82 : decode cX6_fit 82 = .ok (.invokestatic 75, 3) := by decide +kernel
theorem dX6_fit_85 : decode cX6_fit 85 = .ok (.ifCond .eq 27, 3) := by decide +kernel
theorem dX6_fit_88 : decode cX6_fit 88 = .ok (.aload_n 0, 1) := by decide +kernel
theorem dX6_fit_89 : decode cX6_fit 89 = .ok (.getfield 65, 3) := by decide +kernel
theorem dX6_fit_92 : decode cX6_fit 92 = .ok (.iload 6, 2) := by decide +kernel
theorem dX6_fit_94 : decode cX6_fit 94 = .ok (.iconst 2, 1) := by decide +kernel
theorem dX6_fit_95 : decode cX6_fit 95 = .ok (.iload 7, 2) := by decide +kernel
theorem dX6_fit_97 : decode cX6_fit 97 = .ok (.imul, 1) := by decide +kernel
theorem dX6_fit_98 : decode cX6_fit 98 = .ok (.iadd, 1) := by decide +kernel
theorem dX6_fit_99 : decode cX6_fit 99 = .ok (.iconst 1, 1) := by decide +kernel
theorem dX6_fit_100 : decode cX6_fit 100 = .ok (.iadd, 1) := by decide +kernel
theorem dX6_fit_101 : decode cX6_fit 101 = .ok (.laload, 1) := by decide +kernel
theorem dX6_fit_102 : decode cX6_fit 102 = .ok (.lconst 0, 1) := by decide +kernel
theorem dX6_fit_103 : decode cX6_fit 103 = .ok (.ldc2_w 81, 3) := by decide +kernel
theorem dX6_fit_106 : decode cX6_fit 106 = .ok (.invokestatic 75, 3) := by decide +kernel
theorem dX6_fit_109 : decode cX6_fit 109 = .ok (.ifCond .ne 6, 3) := by decide +kernel
theorem dX6_fit_112 : decode cX6_fit 112 = .ok (.bipush (-2), 2) := by decide +kernel
theorem dX6_fit_114 : decode cX6_fit 114 = .ok (.ireturn, 1) := by decide +kernel
theorem dX6_fit_115 : decode cX6_fit 115 = .ok (.iinc 7 1, 3) := by decide +kernel
theorem dX6_fit_118 : decode cX6_fit 118 = .ok (.goto (-63), 3) := by decide +kernel
theorem dX6_fit_121 : decode cX6_fit 121 = .ok (.iconst 0, 1) := by decide +kernel
theorem dX6_fit_122 : decode cX6_fit 122 = .ok (.istore 7, 2) := by decide +kernel
theorem dX6_fit_124 : decode cX6_fit 124 = .ok (.bipush (-9), 2) := by decide +kernel
theorem dX6_fit_126 : decode cX6_fit 126 = .ok (.istore 8, 2) := by decide +kernel
theorem dX6_fit_128 : decode cX6_fit 128 = .ok (.iload 8, 2) := by decide +kernel
theorem dX6_fit_130 : decode cX6_fit 130 = .ok (.bipush 9, 2) := by decide +kernel
end
section
theorem dX6_fit_132 : decode cX6_fit 132 = .ok (.if_icmp .gt 38, 3) := by decide +kernel
theorem dX6_fit_135 : decode cX6_fit 135 = .ok (.iload 7, 2) := by decide +kernel
theorem dX6_fit_137 : decode cX6_fit 137 = .ok (.aload_n 0, 1) := by decide +kernel
theorem dX6_fit_138 : decode cX6_fit 138 = .ok (.iload 6, 2) := by decide +kernel
theorem dX6_fit_140 : decode cX6_fit 140 = .ok (.iload 4, 2) := by decide +kernel
theorem dX6_fit_142 : decode cX6_fit 142 = .ok (.iload 8, 2) := by decide +kernel
theorem dX6_fit_144 : decode cX6_fit 144 = .ok (.invokevirtual 250, 3) := by decide +kernel
theorem dX6_fit_147 : decode cX6_fit 147 = .ok (.ifCond .eq 13, 3) := by decide +kernel
theorem dX6_fit_150 : decode cX6_fit 150 = .ok (.iconst 1, 1) := by decide +kernel
theorem dX6_fit_151 : decode cX6_fit 151 = .ok (.iload 8, 2) := by decide +kernel
theorem dX6_fit_153 : decode cX6_fit 153 = .ok (.bipush 9, 2) := by decide +kernel
theorem dX6_fit_155 : decode cX6_fit 155 = .ok (.iadd, 1) := by decide +kernel
theorem dX6_fit_156 : decode cX6_fit 156 = .ok (.ishl, 1) := by decide +kernel
theorem dX6_fit_157 : decode cX6_fit 157 = .ok (.goto 4, 3) := by decide +kernel
theorem dX6_fit_160 : decode cX6_fit 160 = .ok (.iconst 0, 1) := by decide +kernel
theorem dX6_fit_161 : decode cX6_fit 161 = .ok (.ior, 1) := by decide +kernel
theorem dX6_fit_162 : decode cX6_fit 162 = .ok (.istore 7, 2) := by decide +kernel
theorem dX6_fit_164 : decode cX6_fit 164 = .ok (.iinc 8 1, 3) := by decide +kernel
theorem dX6_fit_167 : decode cX6_fit 167 = .ok (.goto (-39), 3) := by decide +kernel
theorem dX6_fit_170 : decode cX6_fit 170 = .ok (.iload 7, 2) := by decide +kernel
theorem dX6_fit_172 : decode cX6_fit 172 = .ok (.ireturn, 1) := by decide +kernel
set_option maxRecDepth 20000 in
theorem ggX6_film_X6_isOne : GoodIn wsX6_film wsX6_isOne := goodIn_r _ [6, 7, 8, 9, 5, 10, 34, 35, 36, 37, 38, 39, 40, 41, 42, 43, 44, 45, 46, 47, 48, 49, 50, 51, 52, 53, 54, 55, 56, 57, 58, 59, 60, 61, 62, 63, 64, 65, 66, 67, 68, 69] (by decide +kernel) (by decide +kernel)
set_option maxRecDepth 20000 in
theorem gX6_film_X6_isOne : GoodIn wsX6_film (wsV RX6 91 RX6 yX6_isOne wsX6_isOne) := goodIn_app (goodIn_of _ (by decide +kernel)) ggX6_film_X6_isOne
set_option maxRecDepth 20000 in
theorem ggX6_film_X6_isSheet : GoodIn wsX6_film wsX6_isSheet := goodIn_r _ [13, 14, 15, 8, 9, 5, 10] (by decide +kernel) (by decide +kernel)
set_option maxRecDepth 20000 in
theorem gX6_film_X6_isSheet : GoodIn wsX6_film (va_wsS RX6 239 yX6_isSheet wsX6_isSheet) := goodIn_app (goodIn_of _ (by decide +kernel)) ggX6_film_X6_isSheet
set_option maxRecDepth 20000 in
theorem ggX6_film_X6_lacksRow : GoodIn wsX6_film wsX6_lacksRow := goodIn_r _ [19, 20, 21, 8, 9, 5, 10, 34, 35, 36, 37, 38, 39, 40, 41, 42, 43, 44, 45, 46, 47, 48, 49, 50, 51, 52, 53, 54, 55, 56, 57, 58, 59, 60, 61, 62, 63, 64, 65, 66, 67, 68, 69] (by decide +kernel) (by decide +kernel)
set_option maxRecDepth 20000 in
theorem gX6_film_X6_lacksRow : GoodIn wsX6_film (wsV RX6 242 RX6 yX6_lacksRow wsX6_lacksRow) := goodIn_app (goodIn_of _ (by decide +kernel)) ggX6_film_X6_lacksRow
set_option maxRecDepth 20000 in
theorem ggX6_film_X6_givesOf : GoodIn wsX6_film wsX6_givesOf := goodIn_r _ [25, 26, 27, 28, 29, 5, 30, 31, 32, 33, 34, 35, 36, 37, 38, 39, 40, 41, 42, 43, 44, 45, 46, 47, 48, 49, 50, 51, 52, 53, 54, 55, 56, 57, 58, 59, 60, 61, 62, 63, 64, 65, 66, 67, 68, 69] (by decide +kernel) (by decide +kernel)
set_option maxRecDepth 20000 in
theorem gX6_film_X6_givesOf : GoodIn wsX6_film (wsV RX6 222 RX6 yX6_givesOf wsX6_givesOf) := goodIn_app (goodIn_of _ (by decide +kernel)) ggX6_film_X6_givesOf
theorem dX6_film_0 : decode cX6_film 0 = .ok (.aload_n 0, 1) := by decide +kernel
theorem dX6_film_1 : decode cX6_film 1 = .ok (.iload_n 1, 1) := by decide +kernel
theorem dX6_film_2 : decode cX6_film 2 = .ok (.invokevirtual 91, 3) := by decide +kernel
theorem dX6_film_5 : decode cX6_film 5 = .ok (.ifCond .eq 11, 3) := by decide +kernel
theorem dX6_film_8 : decode cX6_film 8 = .ok (.iload_n 2, 1) := by decide +kernel
theorem dX6_film_9 : decode cX6_film 9 = .ok (.iload_n 3, 1) := by decide +kernel
theorem dX6_film_10 : decode cX6_film 10 = .ok (.invokestatic 239, 3) := by decide +kernel
theorem dX6_film_13 : decode cX6_film 13 = .ok (.ifCond .ne 5, 3) := by decide +kernel
theorem dX6_film_16 : decode cX6_film 16 = .ok (.iconst (-1), 1) := by decide +kernel
theorem dX6_film_17 : decode cX6_film 17 = .ok (.ireturn, 1) := by decide +kernel
theorem dX6_film_18 : decode cX6_film 18 = .ok (.aload_n 0, 1) := by decide +kernel
theorem dX6_film_19 : decode cX6_film 19 = .ok (.iload_n 2, 1) := by decide +kernel
theorem dX6_film_20 : decode cX6_film 20 = .ok (.iload_n 3, 1) := by decide +kernel
theorem dX6_film_21 : decode cX6_film 21 = .ok (.iload 4, 2) := by decide +kernel
theorem dX6_film_23 : decode cX6_film 23 = .ok (.bipush 19, 2) := by decide +kernel
theorem dX6_film_25 : decode cX6_film 25 = .ok (.invokevirtual 242, 3) := by decide +kernel
theorem dX6_film_28 : decode cX6_film 28 = .ok (.istore 5, 2) := by decide +kernel
theorem dX6_film_30 : decode cX6_film 30 = .ok (.iload 5, 2) := by decide +kernel
theorem dX6_film_32 : decode cX6_film 32 = .ok (.ifCond .ge 6, 3) := by decide +kernel
theorem dX6_film_35 : decode cX6_film 35 = .ok (.iload 5, 2) := by decide +kernel
theorem dX6_film_37 : decode cX6_film 37 = .ok (.ireturn, 1) := by decide +kernel
theorem dX6_film_38 : decode cX6_film 38 = .ok (.bipush (-9), 2) := by decide +kernel
theorem dX6_film_40 : decode cX6_film 40 = .ok (.istore 6, 2) := by decide +kernel
theorem dX6_film_42 : decode cX6_film 42 = .ok (.iload 6, 2) := by decide +kernel
theorem dX6_film_44 : decode cX6_film 44 = .ok (.bipush 9, 2) := by decide +kernel
theorem dX6_film_46 : decode cX6_film 46 = .ok (.if_icmp .gt 35, 3) := by decide +kernel
theorem dX6_film_49 : decode cX6_film 49 = .ok (.aload_n 0, 1) := by decide +kernel
theorem dX6_film_50 : decode cX6_film 50 = .ok (.getfield 65, 3) := by decide +kernel
theorem dX6_film_53 : decode cX6_film 53 = .ok (.bipush 24, 2) := by decide +kernel
theorem dX6_film_55 : decode cX6_film 55 = .ok (.iload_n 2, 1) := by decide +kernel
theorem dX6_film_56 : decode cX6_film 56 = .ok (.imul, 1) := by decide +kernel
theorem dX6_film_57 : decode cX6_film 57 = .ok (.iload 4, 2) := by decide +kernel
theorem dX6_film_59 : decode cX6_film 59 = .ok (.iadd, 1) := by decide +kernel
theorem dX6_film_60 : decode cX6_film 60 = .ok (.iload 6, 2) := by decide +kernel
theorem dX6_film_62 : decode cX6_film 62 = .ok (.iadd, 1) := by decide +kernel
theorem dX6_film_63 : decode cX6_film 63 = .ok (.bipush 9, 2) := by decide +kernel
theorem dX6_film_65 : decode cX6_film 65 = .ok (.iadd, 1) := by decide +kernel
theorem dX6_film_66 : decode cX6_film 66 = .ok (.aload_n 0, 1) := by decide +kernel
theorem dX6_film_67 : decode cX6_film 67 = .ok (.iload_n 1, 1) := by decide +kernel
theorem dX6_film_68 : decode cX6_film 68 = .ok (.iload 6, 2) := by decide +kernel
theorem dX6_film_70 : decode cX6_film 70 = .ok (.invokevirtual 222, 3) := by decide +kernel
theorem dX6_film_73 : decode cX6_film 73 = .ok (.i2l, 1) := by decide +kernel
theorem dX6_film_74 : decode cX6_film 74 = .ok (.lastore, 1) := by decide +kernel
theorem dX6_film_75 : decode cX6_film 75 = .ok (.iinc 6 1, 3) := by decide +kernel
theorem dX6_film_78 : decode cX6_film 78 = .ok (.goto (-36), 3) := by decide +kernel
theorem dX6_film_81 : decode cX6_film 81 = .ok (.bipush 19, 2) := by decide +kernel
theorem dX6_film_83 : decode cX6_film 83 = .ok (.ireturn, 1) := by decide +kernel
set_option maxRecDepth 20000 in
theorem ggX6_copy_X6_in : GoodIn wsX6_copy wsX6_in := goodIn_r _ [9] (by decide +kernel) (by decide +kernel)
set_option maxRecDepth 20000 in
theorem gX6_copy_X6_in : GoodIn wsX6_copy (va_wsS RX6 75 yX6_in wsX6_in) := goodIn_app (goodIn_of _ (by decide +kernel)) ggX6_copy_X6_in
theorem dX6_copy_0 : decode cX6_copy 0 = .ok (.iload_n 1, 1) := by decide +kernel
theorem dX6_copy_1 : decode cX6_copy 1 = .ok (.i2l, 1) := by decide +kernel
theorem dX6_copy_2 : decode cX6_copy 2 = .ok (.lconst 0, 1) := by decide +kernel
theorem dX6_copy_3 : decode cX6_copy 3 = .ok (.ldc2_w 83, 3) := by decide +kernel
theorem dX6_copy_6 : decode cX6_copy 6 = .ok (.invokestatic 75, 3) := by decide +kernel
theorem dX6_copy_9 : decode cX6_copy 9 = .ok (.ifCond .eq 15, 3) := by decide +kernel
theorem dX6_copy_12 : decode cX6_copy 12 = .ok (.iload_n 3, 1) := by decide +kernel
theorem dX6_copy_13 : decode cX6_copy 13 = .ok (.i2l, 1) := by decide +kernel
theorem dX6_copy_14 : decode cX6_copy 14 = .ok (.lconst 0, 1) := by decide +kernel
theorem dX6_copy_15 : decode cX6_copy 15 = .ok (.ldc2_w 83, 3) := by decide +kernel
theorem dX6_copy_18 : decode cX6_copy 18 = .ok (.invokestatic 75, 3) := by decide +kernel
theorem dX6_copy_21 : decode cX6_copy 21 = .ok (.ifCond .ne 5, 3) := by decide +kernel
theorem dX6_copy_24 : decode cX6_copy 24 = .ok (.iconst (-1), 1) := by decide +kernel
theorem dX6_copy_25 : decode cX6_copy 25 = .ok (.ireturn, 1) := by decide +kernel
theorem dX6_copy_26 : decode cX6_copy 26 = .ok (.aload_n 0, 1) := by decide +kernel
theorem dX6_copy_27 : decode cX6_copy 27 = .ok (.getfield 59, 3) := by decide +kernel
theorem dX6_copy_30 : decode cX6_copy 30 = .ok (.iload_n 1, 1) := by decide +kernel
theorem dX6_copy_31 : decode cX6_copy 31 = .ok (.iaload, 1) := by decide +kernel
theorem dX6_copy_32 : decode cX6_copy 32 = .ok (.ifCond .lt 12, 3) := by decide +kernel
theorem dX6_copy_35 : decode cX6_copy 35 = .ok (.aload_n 0, 1) := by decide +kernel
theorem dX6_copy_36 : decode cX6_copy 36 = .ok (.getfield 59, 3) := by decide +kernel
theorem dX6_copy_39 : decode cX6_copy 39 = .ok (.iload_n 3, 1) := by decide +kernel
theorem dX6_copy_40 : decode cX6_copy 40 = .ok (.iaload, 1) := by decide +kernel
theorem dX6_copy_41 : decode cX6_copy 41 = .ok (.ifCond .ge 6, 3) := by decide +kernel
theorem dX6_copy_44 : decode cX6_copy 44 = .ok (.bipush (-11), 2) := by decide +kernel
theorem dX6_copy_46 : decode cX6_copy 46 = .ok (.ireturn, 1) := by decide +kernel
theorem dX6_copy_47 : decode cX6_copy 47 = .ok (.aload_n 0, 1) := by decide +kernel
theorem dX6_copy_48 : decode cX6_copy 48 = .ok (.getfield 59, 3) := by decide +kernel
theorem dX6_copy_51 : decode cX6_copy 51 = .ok (.iload_n 1, 1) := by decide +kernel
theorem dX6_copy_52 : decode cX6_copy 52 = .ok (.iaload, 1) := by decide +kernel
theorem dX6_copy_53 : decode cX6_copy 53 = .ok (.aload_n 0, 1) := by decide +kernel
theorem dX6_copy_54 : decode cX6_copy 54 = .ok (.getfield 59, 3) := by decide +kernel
theorem dX6_copy_57 : decode cX6_copy 57 = .ok (.iload_n 3, 1) := by decide +kernel
theorem dX6_copy_58 : decode cX6_copy 58 = .ok (.iaload, 1) := by decide +kernel
theorem dX6_copy_59 : decode cX6_copy 59 = .ok (.if_icmp .eq 6, 3) := by decide +kernel
theorem dX6_copy_62 : decode cX6_copy 62 = .ok (.bipush (-12), 2) := by decide +kernel
theorem dX6_copy_64 : decode cX6_copy 64 = .ok (.ireturn, 1) := by decide +kernel
theorem dX6_copy_65 : decode cX6_copy 65 = .ok (.iload 5, 2) := by decide +kernel
theorem dX6_copy_67 : decode cX6_copy 67 = .ok (.ifCond .lt 44, 3) := by decide +kernel
theorem dX6_copy_70 : decode cX6_copy 70 = .ok (.iload_n 2, 1) := by decide +kernel
theorem dX6_copy_71 : decode cX6_copy 71 = .ok (.i2l, 1) := by decide +kernel
theorem dX6_copy_72 : decode cX6_copy 72 = .ok (.lconst 0, 1) := by decide +kernel
theorem dX6_copy_73 : decode cX6_copy 73 = .ok (.aload_n 0, 1) := by decide +kernel
theorem dX6_copy_74 : decode cX6_copy 74 = .ok (.getfield 62, 3) := by decide +kernel
theorem dX6_copy_77 : decode cX6_copy 77 = .ok (.iload_n 1, 1) := by decide +kernel
theorem dX6_copy_78 : decode cX6_copy 78 = .ok (.iaload, 1) := by decide +kernel
theorem dX6_copy_79 : decode cX6_copy 79 = .ok (.i2l, 1) := by decide +kernel
theorem dX6_copy_80 : decode cX6_copy 80 = .ok (.iload 5, 2) := by decide +kernel
theorem dX6_copy_82 : decode cX6_copy 82 = .ok (.i2l, 1) := by decide +kernel
theorem dX6_copy_83 : decode cX6_copy 83 = .ok (.lsub, 1) := by decide +kernel
theorem dX6_copy_84 : decode cX6_copy 84 = .ok (.invokestatic 75, 3) := by decide +kernel
theorem dX6_copy_87 : decode cX6_copy 87 = .ok (.ifCond .eq 24, 3) := by decide +kernel
theorem dX6_copy_90 : decode cX6_copy 90 = .ok (.iload 4, 2) := by decide +kernel
theorem dX6_copy_92 : decode cX6_copy 92 = .ok (.i2l, 1) := by decide +kernel
theorem dX6_copy_93 : decode cX6_copy 93 = .ok (.lconst 0, 1) := by decide +kernel
theorem dX6_copy_94 : decode cX6_copy 94 = .ok (.aload_n 0, 1) := by decide +kernel
theorem dX6_copy_95 : decode cX6_copy 95 = .ok (.getfield 62, 3) := by decide +kernel
theorem dX6_copy_98 : decode cX6_copy 98 = .ok (.iload_n 3, 1) := by decide +kernel
theorem dX6_copy_99 : decode cX6_copy 99 = .ok (.iaload, 1) := by decide +kernel
theorem dX6_copy_100 : decode cX6_copy 100 = .ok (.i2l, 1) := by decide +kernel
theorem dX6_copy_101 : decode cX6_copy 101 = .ok (.iload 5, 2) := by decide +kernel
theorem dX6_copy_103 : decode cX6_copy 103 = .ok (.i2l, 1) := by decide +kernel
theorem dX6_copy_104 : decode cX6_copy 104 = .ok (.lsub, 1) := by decide +kernel
theorem dX6_copy_105 : decode cX6_copy 105 = .ok (.invokestatic 75, 3) := by decide +kernel
theorem dX6_copy_108 : decode cX6_copy 108 = .ok (.ifCond .ne 6, 3) := by decide +kernel
theorem dX6_copy_111 : decode cX6_copy 111 = .ok (.bipush (-13), 2) := by decide +kernel
theorem dX6_copy_113 : decode cX6_copy 113 = .ok (.ireturn, 1) := by decide +kernel
theorem dX6_copy_114 : decode cX6_copy 114 = .ok (.iconst 0, 1) := by decide +kernel
theorem dX6_copy_115 : decode cX6_copy 115 = .ok (.istore 6, 2) := by decide +kernel
theorem dX6_copy_117 : decode cX6_copy 117 = .ok (.iload 6, 2) := by decide +kernel
theorem dX6_copy_119 : decode cX6_copy 119 = .ok (.iload 5, 2) := by decide +kernel
theorem dX6_copy_121 : decode cX6_copy 121 = .ok (.if_icmp .ge 30, 3) := by decide +kernel
theorem dX6_copy_124 : decode cX6_copy 124 = .ok (.aload_n 0, 1) := by decide +kernel
theorem dX6_copy_125 : decode cX6_copy 125 = .ok (.getfield 69, 3) := by decide +kernel
theorem dX6_copy_128 : decode cX6_copy 128 = .ok (.iload 6, 2) := by decide +kernel
theorem dX6_copy_130 : decode cX6_copy 130 = .ok (.aload_n 0, 1) := by decide +kernel
theorem dX6_copy_131 : decode cX6_copy 131 = .ok (.getfield 65, 3) := by decide +kernel
theorem dX6_copy_134 : decode cX6_copy 134 = .ok (.bipush 24, 2) := by decide +kernel
theorem dX6_copy_136 : decode cX6_copy 136 = .ok (.iload_n 1, 1) := by decide +kernel
theorem dX6_copy_137 : decode cX6_copy 137 = .ok (.imul, 1) := by decide +kernel
theorem dX6_copy_138 : decode cX6_copy 138 = .ok (.iload_n 2, 1) := by decide +kernel
theorem dX6_copy_139 : decode cX6_copy 139 = .ok (.iadd, 1) := by decide +kernel
theorem dX6_copy_140 : decode cX6_copy 140 = .ok (.iload 6, 2) := by decide +kernel
theorem dX6_copy_142 : decode cX6_copy 142 = .ok (.iadd, 1) := by decide +kernel
theorem dX6_copy_143 : decode cX6_copy 143 = .ok (.laload, 1) := by decide +kernel
theorem dX6_copy_144 : decode cX6_copy 144 = .ok (.lastore, 1) := by decide +kernel
theorem dX6_copy_145 : decode cX6_copy 145 = .ok (.iinc 6 1, 3) := by decide +kernel
theorem dX6_copy_148 : decode cX6_copy 148 = .ok (.goto (-31), 3) := by decide +kernel
theorem dX6_copy_151 : decode cX6_copy 151 = .ok (.iconst 0, 1) := by decide +kernel
theorem dX6_copy_152 : decode cX6_copy 152 = .ok (.istore 6, 2) := by decide +kernel
theorem dX6_copy_154 : decode cX6_copy 154 = .ok (.iload 6, 2) := by decide +kernel
theorem dX6_copy_156 : decode cX6_copy 156 = .ok (.iload 5, 2) := by decide +kernel
theorem dX6_copy_158 : decode cX6_copy 158 = .ok (.if_icmp .ge 31, 3) := by decide +kernel
theorem dX6_copy_161 : decode cX6_copy 161 = .ok (.aload_n 0, 1) := by decide +kernel
theorem dX6_copy_162 : decode cX6_copy 162 = .ok (.getfield 65, 3) := by decide +kernel
theorem dX6_copy_165 : decode cX6_copy 165 = .ok (.bipush 24, 2) := by decide +kernel
theorem dX6_copy_167 : decode cX6_copy 167 = .ok (.iload_n 3, 1) := by decide +kernel
theorem dX6_copy_168 : decode cX6_copy 168 = .ok (.imul, 1) := by decide +kernel
theorem dX6_copy_169 : decode cX6_copy 169 = .ok (.iload 4, 2) := by decide +kernel
theorem dX6_copy_171 : decode cX6_copy 171 = .ok (.iadd, 1) := by decide +kernel
theorem dX6_copy_172 : decode cX6_copy 172 = .ok (.iload 6, 2) := by decide +kernel
theorem dX6_copy_174 : decode cX6_copy 174 = .ok (.iadd, 1) := by decide +kernel
theorem dX6_copy_175 : decode cX6_copy 175 = .ok (.aload_n 0, 1) := by decide +kernel
theorem dX6_copy_176 : decode cX6_copy 176 = .ok (.getfield 69, 3) := by decide +kernel
theorem dX6_copy_179 : decode cX6_copy 179 = .ok (.iload 6, 2) := by decide +kernel
theorem dX6_copy_181 : decode cX6_copy 181 = .ok (.laload, 1) := by decide +kernel
theorem dX6_copy_182 : decode cX6_copy 182 = .ok (.lastore, 1) := by decide +kernel
theorem dX6_copy_183 : decode cX6_copy 183 = .ok (.iinc 6 1, 3) := by decide +kernel
theorem dX6_copy_186 : decode cX6_copy 186 = .ok (.goto (-32), 3) := by decide +kernel
theorem dX6_copy_189 : decode cX6_copy 189 = .ok (.iload 5, 2) := by decide +kernel
theorem dX6_copy_191 : decode cX6_copy 191 = .ok (.ireturn, 1) := by decide +kernel
theorem dJ6_compare_7cf53_0 : decode cJ6_compare_7cf53 0 = .ok (.iload_n 0, 1) := by decide +kernel
theorem dJ6_compare_7cf53_1 : decode cJ6_compare_7cf53 1 = .ok (.iload_n 1, 1) := by decide +kernel
theorem dJ6_compare_7cf53_2 : decode cJ6_compare_7cf53 2 = .ok (.if_icmp .ge 7, 3) := by decide +kernel
theorem dJ6_compare_7cf53_5 : decode cJ6_compare_7cf53 5 = .ok (.iconst (-1), 1) := by decide +kernel
theorem dJ6_compare_7cf53_6 : decode cJ6_compare_7cf53 6 = .ok (.goto 13, 3) := by decide +kernel
theorem dJ6_compare_7cf53_9 : decode cJ6_compare_7cf53 9 = .ok (.iload_n 0, 1) := by decide +kernel
theorem dJ6_compare_7cf53_10 : decode cJ6_compare_7cf53 10 = .ok (.iload_n 1, 1) := by decide +kernel
theorem dJ6_compare_7cf53_11 : decode cJ6_compare_7cf53 11 = .ok (.if_icmp .ne 7, 3) := by decide +kernel
theorem dJ6_compare_7cf53_14 : decode cJ6_compare_7cf53 14 = .ok (.iconst 0, 1) := by decide +kernel
theorem dJ6_compare_7cf53_15 : decode cJ6_compare_7cf53 15 = .ok (.goto 4, 3) := by decide +kernel
theorem dJ6_compare_7cf53_18 : decode cJ6_compare_7cf53 18 = .ok (.iconst 1, 1) := by decide +kernel
theorem dJ6_compare_7cf53_19 : decode cJ6_compare_7cf53 19 = .ok (.ireturn, 1) := by decide +kernel
theorem dJ9_max_7cf53_0 : decode cJ9_max_7cf53 0 = .ok (.iload_n 0, 1) := by decide +kernel
theorem dJ9_max_7cf53_1 : decode cJ9_max_7cf53 1 = .ok (.iload_n 1, 1) := by decide +kernel
theorem dJ9_max_7cf53_2 : decode cJ9_max_7cf53 2 = .ok (.if_icmp .lt 7, 3) := by decide +kernel
theorem dJ9_max_7cf53_5 : decode cJ9_max_7cf53 5 = .ok (.iload_n 0, 1) := by decide +kernel
theorem dJ9_max_7cf53_6 : decode cJ9_max_7cf53 6 = .ok (.goto 4, 3) := by decide +kernel
theorem dJ9_max_7cf53_9 : decode cJ9_max_7cf53 9 = .ok (.iload_n 1, 1) := by decide +kernel
theorem dJ9_max_7cf53_10 : decode cJ9_max_7cf53 10 = .ok (.ireturn, 1) := by decide +kernel
theorem dJ9_min_7cf53_0 : decode cJ9_min_7cf53 0 = .ok (.iload_n 0, 1) := by decide +kernel
theorem dJ9_min_7cf53_1 : decode cJ9_min_7cf53 1 = .ok (.iload_n 1, 1) := by decide +kernel
theorem dJ9_min_7cf53_2 : decode cJ9_min_7cf53 2 = .ok (.if_icmp .gt 7, 3) := by decide +kernel
theorem dJ9_min_7cf53_5 : decode cJ9_min_7cf53 5 = .ok (.iload_n 0, 1) := by decide +kernel
theorem dJ9_min_7cf53_6 : decode cJ9_min_7cf53 6 = .ok (.goto 4, 3) := by decide +kernel
theorem dJ9_min_7cf53_9 : decode cJ9_min_7cf53 9 = .ok (.iload_n 1, 1) := by decide +kernel
theorem dJ9_min_7cf53_10 : decode cJ9_min_7cf53 10 = .ok (.ireturn, 1) := by decide +kernel
set_option maxRecDepth 20000 in
theorem ggL_law_X5_init : GoodIn wsL_law wsX5_init := goodIn_r _ [9, 10, 11, 12, 13, 14, 15, 16, 17, 18, 19, 20, 21, 22, 23, 24, 25, 26, 27, 28, 29, 30, 31, 32, 33, 34, 35, 36, 37, 38, 39, 40, 41, 42, 43, 44, 45, 46, 47, 48, 49, 50, 51, 52, 53, 54, 55, 56, 57, 58, 59, 60, 61, 62, 63, 64, 65, 66, 67, 68, 69, 70, 71, 72, 73, 74, 75, 76, 77, 78, 79, 80, 81, 82, 83, 84, 85, 86, 87, 88, 738, 739, 740, 741, 742, 743, 744, 745, 746, 747, 748, 749, 694, 695, 696, 697, 698, 699, 700, 701, 750, 751, 752, 753, 754, 755, 756, 757, 758, 759, 760, 761, 762, 763, 764, 765, 766, 767, 768, 769, 770] (by decide +kernel) (by decide +kernel)
set_option maxRecDepth 20000 in
theorem gL_law_X5_init : GoodIn wsL_law (wsX5_init) := ggL_law_X5_init
set_option maxRecDepth 20000 in
theorem ggL_law_X6_init : GoodIn wsL_law wsX6_init := goodIn_r _ [91, 92, 11, 12, 27, 93, 94, 95, 96, 97, 98, 99, 100, 101, 102, 103, 104, 105, 106, 107, 108, 109, 110, 84, 111, 112, 702, 703, 704, 705, 706, 707, 708, 709, 710, 711, 712, 713, 714, 715, 716, 717, 718, 719, 720, 721, 722, 723, 724, 725, 726, 727, 728, 729, 730, 731, 732, 733, 734, 735, 736, 737] (by decide +kernel) (by decide +kernel)
set_option maxRecDepth 20000 in
theorem gL_law_X6_init : GoodIn wsL_law (wsX6_init) := ggL_law_X6_init
set_option maxRecDepth 20000 in
theorem ggL_law_X5_folk : GoodIn wsL_law wsX5_folk := goodIn_r _ [116, 16, 117, 118, 2, 119, 120, 25, 121, 122, 60, 56, 57, 58, 59, 694, 695, 696, 697, 698, 699, 700, 701, 738, 739, 740, 741, 742, 743, 744, 745, 746, 747, 748, 749, 753, 754, 755, 756, 757] (by decide +kernel) (by decide +kernel)
set_option maxRecDepth 20000 in
theorem gL_law_X5_folk : GoodIn wsL_law (wsV RL 13 RX5 yX5_folk wsX5_folk) := goodIn_app (goodIn_of _ (by decide +kernel)) ggL_law_X5_folk
set_option maxRecDepth 20000 in
theorem ggL_law_X6_folk : GoodIn wsL_law wsX6_folk := goodIn_r _ [126, 127, 128, 129, 130, 131, 132, 5, 133, 134, 135, 136, 137, 93, 94, 95, 96, 97, 702, 703, 704, 705, 706, 707, 708, 709, 710, 711, 712, 713, 714, 715, 716, 717, 718, 719, 720, 721, 722, 723, 724, 725, 726, 727, 728, 729, 730, 731, 732, 733, 734, 735, 736, 737] (by decide +kernel) (by decide +kernel)
set_option maxRecDepth 20000 in
theorem gL_law_X6_folk : GoodIn wsL_law (wsV RL 17 RX6 yX6_folk wsX6_folk) := goodIn_app (goodIn_of _ (by decide +kernel)) ggL_law_X6_folk
set_option maxRecDepth 20000 in
theorem ggL_law_X5_told : GoodIn wsL_law wsX5_told := goodIn_r _ [141, 16, 142, 143, 25, 144, 145, 60, 694, 695, 696, 697, 698, 699, 700, 701, 738, 739, 740, 741, 742, 743, 744, 745, 746, 747, 748, 749, 753, 754, 755, 756, 757] (by decide +kernel) (by decide +kernel)
set_option maxRecDepth 20000 in
theorem gL_law_X5_told : GoodIn wsL_law (wsV RL 18 RX5 yX5_told wsX5_told) := goodIn_app (goodIn_of _ (by decide +kernel)) ggL_law_X5_told
set_option maxRecDepth 20000 in
theorem ggL_law_X6_told : GoodIn wsL_law wsX6_told := goodIn_r _ [149, 150, 151, 97, 152, 93, 94, 95, 96, 153, 154, 155, 5, 156, 130, 131, 132, 133, 702, 703, 704, 705, 706, 707, 708, 709, 710, 711, 712, 713, 714, 715, 716, 717, 718, 719, 720, 721, 722, 723, 724, 725, 726, 727, 728, 729, 730, 731, 732, 733, 734, 735, 736, 737] (by decide +kernel) (by decide +kernel)
set_option maxRecDepth 20000 in
theorem gL_law_X6_told : GoodIn wsL_law (wsV RL 22 RX6 yX6_told wsX6_told) := goodIn_app (goodIn_of _ (by decide +kernel)) ggL_law_X6_told
set_option maxRecDepth 20000 in
theorem ggL_law_X5_quarrel : GoodIn wsL_law wsX5_quarrel := goodIn_r _ [160, 16, 143, 25, 144, 145, 60, 161, 162, 163, 59, 164, 165, 166, 167, 694, 695, 696, 697, 698, 699, 700, 701, 738, 739, 740, 741, 742, 743, 744, 745, 746, 747, 748, 749, 753, 754, 755, 756, 757] (by decide +kernel) (by decide +kernel)
set_option maxRecDepth 20000 in
theorem gL_law_X5_quarrel : GoodIn wsL_law (wsV RL 23 RX5 yX5_quarrel wsX5_quarrel) := goodIn_app (goodIn_of _ (by decide +kernel)) ggL_law_X5_quarrel
set_option maxRecDepth 20000 in
theorem ggL_law_X6_quarrel : GoodIn wsL_law wsX6_quarrel := goodIn_r _ [171, 96, 153, 154, 155, 5, 156, 130, 131, 132, 133, 172, 173, 174, 175, 702, 703, 704, 705, 706, 707, 708, 709, 710, 711, 712, 713, 714, 715, 716, 717, 718, 719, 720, 721, 722, 723, 724, 725, 726, 727, 728, 729, 730, 731, 732, 733, 734, 735, 736, 737] (by decide +kernel) (by decide +kernel)
set_option maxRecDepth 20000 in
theorem gL_law_X6_quarrel : GoodIn wsL_law (wsV RL 27 RX6 yX6_quarrel wsX6_quarrel) := goodIn_app (goodIn_of _ (by decide +kernel)) ggL_law_X6_quarrel
set_option maxRecDepth 20000 in
theorem ggL_law_X5_set : GoodIn wsL_law wsX5_set := goodIn_r _ [179, 142, 16, 180, 181, 2, 182, 117, 118, 119, 694, 695, 696, 697, 698, 699, 700, 701, 738, 739, 740, 741, 742, 743, 744, 745, 746, 747, 748, 749] (by decide +kernel) (by decide +kernel)
set_option maxRecDepth 20000 in
theorem gL_law_X5_set : GoodIn wsL_law (wsV RL 28 RX5 yX5_set wsX5_set) := goodIn_app (goodIn_of _ (by decide +kernel)) ggL_law_X5_set
set_option maxRecDepth 20000 in
theorem ggL_law_X6_set : GoodIn wsL_law wsX6_set := goodIn_r _ [186, 187, 188, 129, 151, 189, 98, 99, 131, 132, 5, 133, 190, 191, 192, 193, 702, 703, 704, 705, 706, 707, 708, 709, 710, 711, 712, 713, 714, 715, 716, 717, 718, 719, 720, 721, 722, 723, 724, 725, 726, 727, 728, 729, 730, 731, 732, 733, 734, 735, 736, 737] (by decide +kernel) (by decide +kernel)
set_option maxRecDepth 20000 in
theorem gL_law_X6_set : GoodIn wsL_law (wsV RL 31 RX6 yX6_set wsX6_set) := goodIn_app (goodIn_of _ (by decide +kernel)) ggL_law_X6_set
set_option maxRecDepth 20000 in
theorem ggL_law_X5_is : GoodIn wsL_law wsX5_is := goodIn_r _ [197, 16, 142, 694, 695, 696, 697, 698, 699, 700, 701, 738, 739, 740, 741, 742, 743, 744, 745, 746, 747, 748, 749, 753, 754, 755, 756, 757] (by decide +kernel) (by decide +kernel)
set_option maxRecDepth 20000 in
theorem gL_law_X5_is : GoodIn wsL_law (wsV RL 32 RX5 yX5_is wsX5_is) := goodIn_app (goodIn_of _ (by decide +kernel)) ggL_law_X5_is
set_option maxRecDepth 20000 in
theorem ggL_law_X6_is : GoodIn wsL_law wsX6_is := goodIn_r _ [201, 189, 98, 99, 202, 203, 152, 130, 204, 100, 151, 702, 703, 704, 705, 706, 707, 708, 709, 710, 711, 712, 713, 714, 715, 716, 717, 718, 719, 720, 721, 722, 723, 724, 725, 726, 727, 728, 729, 730, 731, 732, 733, 734, 735, 736, 737] (by decide +kernel) (by decide +kernel)
set_option maxRecDepth 20000 in
theorem gL_law_X6_is : GoodIn wsL_law (wsV RL 36 RX6 yX6_is wsX6_is) := goodIn_app (goodIn_of _ (by decide +kernel)) ggL_law_X6_is
set_option maxRecDepth 20000 in
theorem ggL_law_X5_type : GoodIn wsL_law wsX5_type := goodIn_r _ [208, 22, 117, 118, 2, 119, 209, 210, 211, 212, 213, 214, 215, 21, 216, 217, 66, 65, 694, 695, 696, 697, 698, 699, 700, 701, 750, 751, 752] (by decide +kernel) (by decide +kernel)
set_option maxRecDepth 20000 in
theorem gL_law_X5_type : GoodIn wsL_law (wsV RL 39 RX5 yX5_type wsX5_type) := goodIn_app (goodIn_of _ (by decide +kernel)) ggL_law_X5_type
set_option maxRecDepth 20000 in
theorem ggL_law_X6_type : GoodIn wsL_law wsX6_type := goodIn_r _ [221, 222, 223, 224, 225, 226, 103, 131, 132, 5, 133, 702, 703, 704, 705, 706, 707, 708, 709, 710, 711, 712, 713, 714, 715, 716, 717, 718, 719, 720, 721, 722, 723, 724, 725, 726, 727, 728, 729, 730, 731, 732, 733, 734, 735, 736, 737] (by decide +kernel) (by decide +kernel)
set_option maxRecDepth 20000 in
theorem gL_law_X6_type : GoodIn wsL_law (wsV RL 43 RX6 yX6_type wsX6_type) := goodIn_app (goodIn_of _ (by decide +kernel)) ggL_law_X6_type
set_option maxRecDepth 20000 in
theorem ggL_law_X5_village : GoodIn wsL_law wsX5_village := goodIn_r _ [230, 22, 26, 16, 231, 21, 232, 233, 67, 234, 235, 236, 237, 238, 239, 240, 241, 66, 65, 242, 243, 244, 245, 246, 247, 248, 118, 2, 119, 120, 25, 121, 122, 60, 56, 57, 58, 59, 249, 250, 251, 252, 253, 15, 254, 255, 41, 42, 51, 44, 256, 257, 258, 694, 695, 696, 697, 698, 699, 700, 701, 750, 751, 752, 753, 754, 755, 756, 757, 738, 739, 740, 741, 742, 743, 744, 745, 746, 747, 748, 749] (by decide +kernel) (by decide +kernel)
set_option maxRecDepth 20000 in
theorem gL_law_X5_village : GoodIn wsL_law (wsV RL 44 RX5 yX5_village wsX5_village) := goodIn_app (goodIn_of _ (by decide +kernel)) ggL_law_X5_village
set_option maxRecDepth 20000 in
theorem ggL_law_X6_village : GoodIn wsL_law wsX6_village := goodIn_r _ [262, 226, 263, 130, 204, 100, 264, 104, 265, 266, 267, 5, 268, 269, 270, 271, 272, 273, 274, 275, 276, 103, 277, 278, 279, 280, 131, 132, 133, 134, 135, 136, 137, 93, 94, 95, 96, 97, 702, 703, 704, 705, 706, 707, 708, 709, 710, 711, 712, 713, 714, 715, 716, 717, 718, 719, 720, 721, 722, 723, 724, 725, 726, 727, 728, 729, 730, 731, 732, 733, 734, 735, 736, 737] (by decide +kernel) (by decide +kernel)
set_option maxRecDepth 20000 in
theorem gL_law_X6_village : GoodIn wsL_law (wsV RL 48 RX6 yX6_village wsX6_village) := goodIn_app (goodIn_of _ (by decide +kernel)) ggL_law_X6_village
set_option maxRecDepth 20000 in
theorem ggL_law_X5_plan : GoodIn wsL_law wsX5_plan := goodIn_r _ [284, 22, 28, 16, 285, 21, 286, 287, 67, 238, 239, 240, 241, 66, 65, 143, 25, 144, 145, 60, 249, 250, 251, 252, 288, 15, 289, 290, 291, 292, 293, 294, 44, 43, 295, 296, 297, 298, 694, 695, 696, 697, 698, 699, 700, 701, 738, 739, 740, 741, 742, 743, 744, 745, 746, 747, 748, 749, 750, 751, 752, 753, 754, 755, 756, 757] (by decide +kernel) (by decide +kernel)
set_option maxRecDepth 20000 in
theorem gL_law_X5_plan : GoodIn wsL_law (wsV RL 49 RX5 yX5_plan wsX5_plan) := goodIn_app (goodIn_of _ (by decide +kernel)) ggL_law_X5_plan
set_option maxRecDepth 20000 in
theorem ggL_law_X6_plan : GoodIn wsL_law wsX6_plan := goodIn_r _ [302, 226, 263, 264, 204, 101, 104, 303, 304, 305, 5, 306, 273, 274, 275, 276, 103, 153, 154, 155, 156, 130, 131, 132, 133, 702, 703, 704, 705, 706, 707, 708, 709, 710, 711, 712, 713, 714, 715, 716, 717, 718, 719, 720, 721, 722, 723, 724, 725, 726, 727, 728, 729, 730, 731, 732, 733, 734, 735, 736, 737] (by decide +kernel) (by decide +kernel)
set_option maxRecDepth 20000 in
theorem gL_law_X6_plan : GoodIn wsL_law (wsV RL 52 RX6 yX6_plan wsX6_plan) := goodIn_app (goodIn_of _ (by decide +kernel)) ggL_law_X6_plan
set_option maxRecDepth 20000 in
theorem ggL_law_X5_may : GoodIn wsL_law wsX5_may := goodIn_r _ [310, 16, 311, 15, 312, 313, 41, 42, 143, 25, 144, 145, 60, 694, 695, 696, 697, 698, 699, 700, 701, 738, 739, 740, 741, 742, 743, 744, 745, 746, 747, 748, 749, 753, 754, 755, 756, 757] (by decide +kernel) (by decide +kernel)
set_option maxRecDepth 20000 in
theorem gL_law_X5_may : GoodIn wsL_law (wsV RL 53 RX5 yX5_may wsX5_may) := goodIn_app (goodIn_of _ (by decide +kernel)) ggL_law_X5_may
set_option maxRecDepth 20000 in
theorem ggL_law_X6_may : GoodIn wsL_law wsX6_may := goodIn_r _ [317, 130, 97, 152, 702, 703, 704, 705, 706, 707, 708, 709, 710, 711, 712, 713, 714, 715, 716, 717, 718, 719, 720, 721, 722, 723, 724, 725, 726, 727, 728, 729, 730, 731, 732, 733, 734, 735, 736, 737] (by decide +kernel) (by decide +kernel)
set_option maxRecDepth 20000 in
theorem gL_law_X6_may : GoodIn wsL_law (wsV RL 56 RX6 yX6_may wsX6_may) := goodIn_app (goodIn_of _ (by decide +kernel)) ggL_law_X6_may
set_option maxRecDepth 20000 in
theorem ggL_law_X5_draw : GoodIn wsL_law wsX5_draw := goodIn_r _ [321, 16, 143, 25, 144, 145, 60, 311, 15, 312, 313, 41, 42, 322, 323, 324, 50, 325, 326, 327, 51, 328, 329, 330, 331, 332, 45, 46, 48, 49, 333, 334, 335, 336, 292, 293, 294, 337, 161, 162, 163, 59, 164, 338, 339, 340, 341, 56, 342, 343, 344, 345, 346, 347, 348, 349, 350, 57, 351, 2, 352, 353, 354, 355, 356, 357, 358, 47, 359, 360, 361, 362, 363, 364, 365, 366, 367, 694, 695, 696, 697, 698, 699, 700, 701, 738, 739, 740, 741, 742, 743, 744, 745, 746, 747, 748, 749, 753, 754, 755, 756, 757] (by decide +kernel) (by decide +kernel)
set_option maxRecDepth 20000 in
theorem gL_law_X5_draw : GoodIn wsL_law (wsV RL 57 RX5 yX5_draw wsX5_draw) := goodIn_app (goodIn_of _ (by decide +kernel)) ggL_law_X5_draw
set_option maxRecDepth 20000 in
theorem ggL_law_X6_draw : GoodIn wsL_law wsX6_draw := goodIn_r _ [371, 97, 152, 153, 154, 155, 5, 156, 130, 131, 132, 133, 372, 373, 374, 375, 376, 377, 378, 379, 380, 189, 381, 98, 382, 383, 100, 384, 105, 385, 386, 387, 388, 389, 96, 93, 95, 99, 390, 391, 392, 393, 394, 395, 396, 397, 398, 399, 400, 401, 402, 94, 403, 404, 405, 406, 407, 408, 409, 410, 411, 412, 202, 203, 702, 703, 704, 705, 706, 707, 708, 709, 710, 711, 712, 713, 714, 715, 716, 717, 718, 719, 720, 721, 722, 723, 724, 725, 726, 727, 728, 729, 730, 731, 732, 733, 734, 735, 736, 737] (by decide +kernel) (by decide +kernel)
set_option maxRecDepth 20000 in
theorem gL_law_X6_draw : GoodIn wsL_law (wsV RL 60 RX6 yX6_draw wsX6_draw) := goodIn_app (goodIn_of _ (by decide +kernel)) ggL_law_X6_draw
set_option maxRecDepth 20000 in
theorem ggL_law_X5_pass : GoodIn wsL_law wsX5_pass := goodIn_r _ [416, 16, 117, 118, 2, 119, 322, 15, 323, 324, 50, 325, 326, 327, 51, 328, 311, 312, 313, 41, 42, 143, 25, 144, 145, 60, 329, 330, 331, 332, 45, 46, 48, 49, 333, 334, 335, 336, 292, 293, 294, 337, 161, 162, 163, 59, 164, 338, 339, 340, 341, 56, 342, 343, 344, 345, 346, 347, 348, 349, 350, 57, 351, 352, 353, 354, 355, 356, 357, 358, 47, 359, 360, 361, 362, 363, 364, 365, 366, 367, 694, 695, 696, 697, 698, 699, 700, 701, 738, 739, 740, 741, 742, 743, 744, 745, 746, 747, 748, 749, 753, 754, 755, 756, 757] (by decide +kernel) (by decide +kernel)
set_option maxRecDepth 20000 in
theorem gL_law_X5_pass : GoodIn wsL_law (wsV RL 61 RX5 yX5_pass wsX5_pass) := goodIn_app (goodIn_of _ (by decide +kernel)) ggL_law_X5_pass
set_option maxRecDepth 20000 in
theorem ggL_law_X6_pass : GoodIn wsL_law wsX6_pass := goodIn_r _ [420, 421, 152, 131, 132, 5, 133, 372, 373, 374, 375, 376, 377, 378, 379, 380, 189, 381, 98, 382, 383, 100, 384, 105, 97, 385, 386, 387, 388, 389, 96, 93, 95, 99, 390, 391, 392, 393, 394, 395, 396, 397, 398, 399, 400, 401, 402, 94, 403, 404, 405, 406, 407, 408, 409, 410, 411, 412, 202, 203, 702, 703, 704, 705, 706, 707, 708, 709, 710, 711, 712, 713, 714, 715, 716, 717, 718, 719, 720, 721, 722, 723, 724, 725, 726, 727, 728, 729, 730, 731, 732, 733, 734, 735, 736, 737] (by decide +kernel) (by decide +kernel)
set_option maxRecDepth 20000 in
theorem gL_law_X6_pass : GoodIn wsL_law (wsV RL 64 RX6 yX6_pass wsX6_pass) := goodIn_app (goodIn_of _ (by decide +kernel)) ggL_law_X6_pass
set_option maxRecDepth 20000 in
theorem ggL_law_X5_run : GoodIn wsL_law wsX5_run := goodIn_r _ [425, 16, 322, 15, 323, 324, 50, 426, 427, 428, 44, 43, 328, 311, 312, 313, 41, 42, 143, 25, 144, 145, 60, 429, 325, 326, 327, 51, 329, 330, 331, 332, 45, 46, 48, 49, 333, 334, 335, 336, 292, 293, 294, 337, 161, 162, 163, 59, 164, 338, 339, 340, 341, 56, 342, 343, 344, 345, 346, 347, 348, 349, 350, 57, 351, 2, 352, 353, 354, 355, 356, 357, 358, 47, 359, 360, 361, 362, 363, 364, 365, 366, 367, 694, 695, 696, 697, 698, 699, 700, 701, 738, 739, 740, 741, 742, 743, 744, 745, 746, 747, 748, 749, 753, 754, 755, 756, 757] (by decide +kernel) (by decide +kernel)
set_option maxRecDepth 20000 in
theorem gL_law_X5_run : GoodIn wsL_law (wsV RL 65 RX5 yX5_run wsX5_run) := goodIn_app (goodIn_of _ (by decide +kernel)) ggL_law_X5_run
set_option maxRecDepth 20000 in
theorem ggL_law_X6_run : GoodIn wsL_law wsX6_run := goodIn_r _ [433, 152, 204, 101, 372, 373, 374, 5, 375, 376, 377, 378, 379, 380, 189, 381, 98, 382, 383, 100, 384, 105, 97, 385, 386, 387, 388, 389, 96, 93, 95, 99, 390, 391, 392, 393, 394, 395, 396, 397, 398, 399, 400, 401, 402, 94, 403, 404, 405, 406, 407, 408, 409, 410, 411, 412, 202, 203, 702, 703, 704, 705, 706, 707, 708, 709, 710, 711, 712, 713, 714, 715, 716, 717, 718, 719, 720, 721, 722, 723, 724, 725, 726, 727, 728, 729, 730, 731, 732, 733, 734, 735, 736, 737] (by decide +kernel) (by decide +kernel)
set_option maxRecDepth 20000 in
theorem gL_law_X6_run : GoodIn wsL_law (wsV RL 68 RX6 yX6_run wsX6_run) := goodIn_app (goodIn_of _ (by decide +kernel)) ggL_law_X6_run
set_option maxRecDepth 20000 in
theorem ggL_law_X5_most : GoodIn wsL_law wsX5_most := goodIn_r _ [437, 16, 117, 118, 2, 119, 438, 439, 440, 441, 32, 442, 31, 443, 444, 72, 73, 445, 296, 297, 298, 76, 77, 78, 256, 25, 257, 258, 56, 57, 58, 59, 60, 446, 447, 448, 449, 292, 293, 294, 79, 80, 450, 451, 452, 453, 74, 454, 455, 456, 457, 75, 458, 459, 460, 360, 361, 362, 363, 364, 365, 366, 367, 353, 461, 333, 334, 335, 336, 337, 161, 162, 163, 164, 143, 144, 145, 338, 339, 340, 341, 342, 343, 344, 345, 346, 347, 348, 349, 350, 351, 352, 354, 694, 695, 696, 697, 698, 699, 700, 701, 738, 739, 740, 741, 742, 743, 744, 745, 746, 747, 748, 749, 758, 759, 760, 761, 762, 763, 764, 765, 766, 753, 754, 755, 756, 757] (by decide +kernel) (by decide +kernel)
set_option maxRecDepth 20000 in
theorem gL_law_X5_most : GoodIn wsL_law (wsV RL 69 RX5 yX5_most wsX5_most) := goodIn_app (goodIn_of _ (by decide +kernel)) ggL_law_X5_most
set_option maxRecDepth 20000 in
theorem ggL_law_X6_most : GoodIn wsL_law wsX6_most := goodIn_r _ [465, 466, 189, 131, 132, 5, 133, 467, 468, 469, 470, 106, 381, 130, 389, 376, 107, 377, 378, 379, 380, 98, 382, 152, 383, 100, 384, 105, 97, 385, 386, 387, 388, 96, 93, 95, 99, 390, 391, 392, 393, 394, 395, 396, 397, 398, 399, 400, 401, 402, 94, 403, 404, 405, 406, 407, 408, 471, 472, 473, 474, 702, 703, 704, 705, 706, 707, 708, 709, 710, 711, 712, 713, 714, 715, 716, 717, 718, 719, 720, 721, 722, 723, 724, 725, 726, 727, 728, 729, 730, 731, 732, 733, 734, 735, 736, 737] (by decide +kernel) (by decide +kernel)
set_option maxRecDepth 20000 in
theorem gL_law_X6_most : GoodIn wsL_law (wsV RL 72 RX6 yX6_most wsX6_most) := goodIn_app (goodIn_of _ (by decide +kernel)) ggL_law_X6_most
set_option maxRecDepth 20000 in
theorem ggL_law_X5_row : GoodIn wsL_law wsX5_row := goodIn_r _ [478, 16, 32, 117, 118, 2, 119, 438, 439, 440, 441, 442, 31, 443, 444, 72, 73, 445, 296, 297, 298, 76, 77, 78, 256, 25, 257, 258, 56, 57, 58, 59, 60, 446, 447, 448, 449, 292, 293, 294, 79, 80, 450, 451, 452, 453, 74, 454, 455, 456, 457, 75, 458, 459, 460, 360, 361, 362, 363, 364, 365, 366, 367, 353, 461, 333, 334, 335, 336, 337, 161, 162, 163, 164, 143, 144, 145, 338, 339, 340, 341, 342, 343, 344, 345, 346, 347, 348, 349, 350, 351, 352, 354, 694, 695, 696, 697, 698, 699, 700, 701, 738, 739, 740, 741, 742, 743, 744, 745, 746, 747, 748, 749, 758, 759, 760, 761, 762, 763, 764, 765, 766, 753, 754, 755, 756, 757] (by decide +kernel) (by decide +kernel)
set_option maxRecDepth 20000 in
theorem gL_law_X5_row : GoodIn wsL_law (wsV RL 73 RX5 yX5_row wsX5_row) := goodIn_app (goodIn_of _ (by decide +kernel)) ggL_law_X5_row
set_option maxRecDepth 20000 in
theorem ggL_law_X6_row : GoodIn wsL_law wsX6_row := goodIn_r _ [482, 466, 189, 107, 131, 132, 5, 133, 467, 468, 469, 470, 106, 381, 130, 389, 376, 377, 378, 379, 380, 98, 382, 152, 383, 100, 384, 105, 97, 385, 386, 387, 388, 96, 93, 95, 99, 390, 391, 392, 393, 394, 395, 396, 397, 398, 399, 400, 401, 402, 94, 403, 404, 405, 406, 407, 408, 471, 472, 473, 474, 702, 703, 704, 705, 706, 707, 708, 709, 710, 711, 712, 713, 714, 715, 716, 717, 718, 719, 720, 721, 722, 723, 724, 725, 726, 727, 728, 729, 730, 731, 732, 733, 734, 735, 736, 737] (by decide +kernel) (by decide +kernel)
set_option maxRecDepth 20000 in
theorem gL_law_X6_row : GoodIn wsL_law (wsV RL 76 RX6 yX6_row wsX6_row) := goodIn_app (goodIn_of _ (by decide +kernel)) ggL_law_X6_row
set_option maxRecDepth 20000 in
theorem ggL_law_X5_fewest : GoodIn wsL_law wsX5_fewest := goodIn_r _ [486, 32, 16, 117, 118, 2, 119, 442, 31, 443, 444, 72, 73, 445, 296, 297, 298, 76, 77, 78, 256, 25, 257, 258, 56, 57, 58, 59, 60, 446, 447, 448, 449, 292, 293, 294, 79, 80, 450, 451, 452, 453, 74, 454, 455, 456, 457, 75, 458, 459, 460, 360, 361, 362, 363, 364, 365, 366, 367, 353, 461, 333, 334, 335, 336, 337, 161, 162, 163, 164, 143, 144, 145, 338, 339, 340, 341, 342, 343, 344, 345, 346, 347, 348, 349, 350, 351, 352, 354, 694, 695, 696, 697, 698, 699, 700, 701, 738, 739, 740, 741, 742, 743, 744, 745, 746, 747, 748, 749, 758, 759, 760, 761, 762, 763, 764, 765, 766, 753, 754, 755, 756, 757] (by decide +kernel) (by decide +kernel)
set_option maxRecDepth 20000 in
theorem gL_law_X5_fewest : GoodIn wsL_law (wsV RL 77 RX5 yX5_fewest wsX5_fewest) := goodIn_app (goodIn_of _ (by decide +kernel)) ggL_law_X5_fewest
set_option maxRecDepth 20000 in
theorem ggL_law_X6_fewest : GoodIn wsL_law wsX6_fewest := goodIn_r _ [490, 491, 189, 131, 132, 5, 133, 467, 468, 469, 470, 106, 381, 130, 389, 376, 107, 377, 378, 379, 380, 98, 382, 152, 383, 100, 384, 105, 97, 385, 386, 387, 388, 96, 93, 95, 99, 390, 391, 392, 393, 394, 395, 396, 397, 398, 399, 400, 401, 402, 94, 403, 404, 405, 406, 407, 408, 471, 472, 473, 474, 702, 703, 704, 705, 706, 707, 708, 709, 710, 711, 712, 713, 714, 715, 716, 717, 718, 719, 720, 721, 722, 723, 724, 725, 726, 727, 728, 729, 730, 731, 732, 733, 734, 735, 736, 737] (by decide +kernel) (by decide +kernel)
set_option maxRecDepth 20000 in
theorem gL_law_X6_fewest : GoodIn wsL_law (wsV RL 80 RX6 yX6_fewest wsX6_fewest) := goodIn_app (goodIn_of _ (by decide +kernel)) ggL_law_X6_fewest
set_option maxRecDepth 20000 in
theorem ggL_law_X5_peace : GoodIn wsL_law wsX5_peace := goodIn_r _ [495, 32, 16, 442, 31, 443, 444, 72, 73, 445, 296, 297, 298, 76, 77, 78, 256, 25, 257, 258, 56, 57, 58, 59, 60, 446, 447, 448, 449, 292, 293, 294, 79, 80, 450, 451, 452, 453, 74, 454, 455, 456, 457, 75, 458, 459, 460, 360, 2, 361, 362, 363, 364, 365, 366, 367, 353, 461, 333, 334, 335, 336, 337, 161, 162, 163, 164, 143, 144, 145, 338, 339, 340, 341, 342, 343, 344, 345, 346, 347, 348, 349, 350, 351, 352, 354, 496, 497, 498, 499, 165, 166, 167, 694, 695, 696, 697, 698, 699, 700, 701, 738, 739, 740, 741, 742, 743, 744, 745, 746, 747, 748, 749, 753, 754, 755, 756, 757, 758, 759, 760, 761, 762, 763, 764, 765, 766] (by decide +kernel) (by decide +kernel)
set_option maxRecDepth 20000 in
theorem gL_law_X5_peace : GoodIn wsL_law (wsV RL 81 RX5 yX5_peace wsX5_peace) := goodIn_app (goodIn_of _ (by decide +kernel)) ggL_law_X5_peace
set_option maxRecDepth 20000 in
theorem ggL_law_X6_peace : GoodIn wsL_law wsX6_peace := goodIn_r _ [503, 189, 130, 96, 467, 468, 469, 5, 470, 106, 381, 389, 376, 107, 377, 378, 379, 380, 98, 382, 152, 383, 100, 384, 105, 97, 385, 386, 387, 388, 93, 95, 99, 390, 391, 392, 393, 394, 395, 396, 397, 398, 399, 400, 401, 402, 94, 403, 404, 405, 406, 407, 408, 471, 472, 473, 474, 172, 173, 174, 175, 702, 703, 704, 705, 706, 707, 708, 709, 710, 711, 712, 713, 714, 715, 716, 717, 718, 719, 720, 721, 722, 723, 724, 725, 726, 727, 728, 729, 730, 731, 732, 733, 734, 735, 736, 737] (by decide +kernel) (by decide +kernel)
set_option maxRecDepth 20000 in
theorem gL_law_X6_peace : GoodIn wsL_law (wsV RL 84 RX6 yX6_peace wsX6_peace) := goodIn_app (goodIn_of _ (by decide +kernel)) ggL_law_X6_peace
set_option maxRecDepth 20000 in
theorem ggL_law_X5_gives : GoodIn wsL_law wsX5_gives := goodIn_r _ [507, 16, 143, 25, 144, 145, 60, 180, 181, 2, 182, 117, 118, 119, 508, 15, 509, 510, 46, 41, 291, 292, 293, 294, 339, 340, 341, 56, 336, 342, 343, 344, 345, 346, 347, 694, 695, 696, 697, 698, 699, 700, 701, 738, 739, 740, 741, 742, 743, 744, 745, 746, 747, 748, 749, 753, 754, 755, 756, 757] (by decide +kernel) (by decide +kernel)
set_option maxRecDepth 20000 in
theorem gL_law_X5_gives : GoodIn wsL_law (wsV RL 85 RX5 yX5_gives wsX5_gives) := goodIn_app (goodIn_of _ (by decide +kernel)) ggL_law_X5_gives
set_option maxRecDepth 20000 in
theorem ggL_law_X6_gives : GoodIn wsL_law wsX6_gives := goodIn_r _ [514, 153, 154, 155, 5, 156, 130, 131, 132, 133, 190, 191, 192, 193, 129, 515, 516, 517, 518, 93, 98, 393, 394, 395, 396, 397, 398, 702, 703, 704, 705, 706, 707, 708, 709, 710, 711, 712, 713, 714, 715, 716, 717, 718, 719, 720, 721, 722, 723, 724, 725, 726, 727, 728, 729, 730, 731, 732, 733, 734, 735, 736, 737] (by decide +kernel) (by decide +kernel)
set_option maxRecDepth 20000 in
theorem gL_law_X6_gives : GoodIn wsL_law (wsV RL 88 RX6 yX6_gives wsX6_gives) := goodIn_app (goodIn_of _ (by decide +kernel)) ggL_law_X6_gives
set_option maxRecDepth 20000 in
theorem ggL_law_X5_stranger : GoodIn wsL_law wsX5_stranger := goodIn_r _ [522, 16, 180, 181, 2, 182, 117, 118, 119, 143, 25, 144, 145, 60, 523, 524, 525, 526, 527, 351, 352, 353, 292, 293, 294, 354, 343, 344, 528, 360, 361, 362, 363, 364, 365, 339, 340, 341, 56, 336, 342, 694, 695, 696, 697, 698, 699, 700, 701, 738, 739, 740, 741, 742, 743, 744, 745, 746, 747, 748, 749, 753, 754, 755, 756, 757] (by decide +kernel) (by decide +kernel)
set_option maxRecDepth 20000 in
theorem gL_law_X5_stranger : GoodIn wsL_law (wsV RL 89 RX5 yX5_stranger wsX5_stranger) := goodIn_app (goodIn_of _ (by decide +kernel)) ggL_law_X5_stranger
set_option maxRecDepth 20000 in
theorem ggL_law_X6_stranger : GoodIn wsL_law wsX6_stranger := goodIn_r _ [532, 129, 93, 190, 191, 5, 192, 193, 131, 132, 133, 153, 154, 155, 156, 130, 403, 404, 405, 406, 407, 408, 393, 394, 395, 702, 703, 704, 705, 706, 707, 708, 709, 710, 711, 712, 713, 714, 715, 716, 717, 718, 719, 720, 721, 722, 723, 724, 725, 726, 727, 728, 729, 730, 731, 732, 733, 734, 735, 736, 737] (by decide +kernel) (by decide +kernel)
set_option maxRecDepth 20000 in
theorem gL_law_X6_stranger : GoodIn wsL_law (wsV RL 92 RX6 yX6_stranger wsX6_stranger) := goodIn_app (goodIn_of _ (by decide +kernel)) ggL_law_X6_stranger
set_option maxRecDepth 20000 in
theorem ggL_law_X5_liar : GoodIn wsL_law wsX5_liar := goodIn_r _ [536, 16, 537, 538, 539, 2, 540, 143, 25, 144, 145, 60, 180, 181, 182, 117, 118, 119, 523, 524, 525, 526, 339, 340, 341, 56, 336, 292, 293, 294, 342, 343, 344, 694, 695, 696, 697, 698, 699, 700, 701, 738, 739, 740, 741, 742, 743, 744, 745, 746, 747, 748, 749, 753, 754, 755, 756, 757] (by decide +kernel) (by decide +kernel)
set_option maxRecDepth 20000 in
theorem gL_law_X5_liar : GoodIn wsL_law (wsV RL 93 RX5 yX5_liar wsX5_liar) := goodIn_app (goodIn_of _ (by decide +kernel)) ggL_law_X5_liar
set_option maxRecDepth 20000 in
theorem ggL_law_X6_liar : GoodIn wsL_law wsX6_liar := goodIn_r _ [544, 129, 93, 153, 154, 155, 5, 156, 130, 131, 132, 133, 190, 191, 192, 193, 393, 394, 395, 702, 703, 704, 705, 706, 707, 708, 709, 710, 711, 712, 713, 714, 715, 716, 717, 718, 719, 720, 721, 722, 723, 724, 725, 726, 727, 728, 729, 730, 731, 732, 733, 734, 735, 736, 737] (by decide +kernel) (by decide +kernel)
set_option maxRecDepth 20000 in
theorem gL_law_X6_liar : GoodIn wsL_law (wsV RL 97 RX6 yX6_liar wsX6_liar) := goodIn_app (goodIn_of _ (by decide +kernel)) ggL_law_X6_liar
set_option maxRecDepth 20000 in
theorem ggL_law_X5_other : GoodIn wsL_law wsX5_other := goodIn_r _ [548, 16, 117, 118, 2, 119, 438, 439, 440, 441, 32, 442, 31, 443, 444, 72, 73, 445, 296, 297, 298, 76, 77, 78, 256, 25, 257, 258, 56, 57, 58, 59, 60, 446, 447, 448, 449, 292, 293, 294, 79, 80, 450, 451, 452, 453, 74, 454, 455, 456, 457, 75, 458, 459, 460, 360, 361, 362, 363, 364, 365, 366, 367, 353, 461, 333, 334, 335, 336, 337, 161, 162, 163, 164, 143, 144, 145, 338, 339, 340, 341, 342, 343, 344, 345, 346, 347, 348, 349, 350, 351, 352, 354, 694, 695, 696, 697, 698, 699, 700, 701, 738, 739, 740, 741, 742, 743, 744, 745, 746, 747, 748, 749, 758, 759, 760, 761, 762, 763, 764, 765, 766, 753, 754, 755, 756, 757] (by decide +kernel) (by decide +kernel)
set_option maxRecDepth 20000 in
theorem gL_law_X5_other : GoodIn wsL_law (wsV RL 98 RX5 yX5_other wsX5_other) := goodIn_app (goodIn_of _ (by decide +kernel)) ggL_law_X5_other
set_option maxRecDepth 20000 in
theorem ggL_law_X6_other : GoodIn wsL_law wsX6_other := goodIn_r _ [552, 466, 189, 131, 132, 5, 133, 467, 468, 469, 470, 106, 381, 130, 389, 376, 107, 377, 378, 379, 380, 98, 382, 152, 383, 100, 384, 105, 97, 385, 386, 387, 388, 96, 93, 95, 99, 390, 391, 392, 393, 394, 395, 396, 397, 398, 399, 400, 401, 402, 94, 403, 404, 405, 406, 407, 408, 471, 472, 473, 474, 702, 703, 704, 705, 706, 707, 708, 709, 710, 711, 712, 713, 714, 715, 716, 717, 718, 719, 720, 721, 722, 723, 724, 725, 726, 727, 728, 729, 730, 731, 732, 733, 734, 735, 736, 737] (by decide +kernel) (by decide +kernel)
set_option maxRecDepth 20000 in
theorem gL_law_X6_other : GoodIn wsL_law (wsV RL 101 RX6 yX6_other wsX6_other) := goodIn_app (goodIn_of _ (by decide +kernel)) ggL_law_X6_other
set_option maxRecDepth 20000 in
theorem ggL_law_X5_drawn : GoodIn wsL_law wsX5_drawn := goodIn_r _ [556, 16, 117, 118, 2, 119, 322, 15, 323, 324, 50, 557, 558, 559, 52, 560, 561, 562, 563, 41, 328, 311, 312, 313, 42, 143, 25, 144, 145, 60, 325, 326, 327, 51, 329, 330, 331, 332, 45, 46, 48, 49, 333, 334, 335, 336, 292, 293, 294, 337, 161, 162, 163, 59, 164, 338, 339, 340, 341, 56, 342, 343, 344, 345, 346, 347, 348, 349, 350, 57, 351, 352, 353, 354, 355, 356, 357, 358, 47, 359, 360, 361, 362, 363, 364, 365, 366, 367, 694, 695, 696, 697, 698, 699, 700, 701, 738, 739, 740, 741, 742, 743, 744, 745, 746, 747, 748, 749, 753, 754, 755, 756, 757] (by decide +kernel) (by decide +kernel)
set_option maxRecDepth 20000 in
theorem gL_law_X5_drawn : GoodIn wsL_law (wsV RL 102 RX5 yX5_drawn wsX5_drawn) := goodIn_app (goodIn_of _ (by decide +kernel)) ggL_law_X5_drawn
set_option maxRecDepth 20000 in
theorem ggL_law_X6_drawn : GoodIn wsL_law wsX6_drawn := goodIn_r _ [567, 421, 152, 102, 568, 569, 570, 571, 130, 97, 131, 132, 5, 133, 372, 373, 374, 375, 376, 377, 378, 379, 380, 189, 381, 98, 382, 383, 100, 384, 105, 385, 386, 387, 388, 389, 96, 93, 95, 99, 390, 391, 392, 393, 394, 395, 396, 397, 398, 399, 400, 401, 402, 94, 403, 404, 405, 406, 407, 408, 409, 410, 411, 412, 202, 203, 702, 703, 704, 705, 706, 707, 708, 709, 710, 711, 712, 713, 714, 715, 716, 717, 718, 719, 720, 721, 722, 723, 724, 725, 726, 727, 728, 729, 730, 731, 732, 733, 734, 735, 736, 737] (by decide +kernel) (by decide +kernel)
set_option maxRecDepth 20000 in
theorem gL_law_X6_drawn : GoodIn wsL_law (wsV RL 105 RX6 yX6_drawn wsX6_drawn) := goodIn_app (goodIn_of _ (by decide +kernel)) ggL_law_X6_drawn
set_option maxRecDepth 20000 in
theorem ggL_law_X5_seed : GoodIn wsL_law wsX5_seed := goodIn_r _ [575, 16, 694, 695, 696, 697, 698, 699, 700, 701, 738, 739, 740, 741, 742, 743, 744, 745, 746, 747, 748, 749] (by decide +kernel) (by decide +kernel)
set_option maxRecDepth 20000 in
theorem gL_law_X5_seed : GoodIn wsL_law (wsV RL 106 RX5 yX5_seed wsX5_seed) := goodIn_app (goodIn_of _ (by decide +kernel)) ggL_law_X5_seed
set_option maxRecDepth 20000 in
theorem ggL_law_X6_seed : GoodIn wsL_law wsX6_seed := goodIn_r _ [579, 102, 702, 703, 704, 705, 706, 707, 708, 709, 710, 711, 712, 713, 714, 715, 716, 717, 718, 719, 720, 721, 722, 723, 724, 725, 726, 727, 728, 729, 730, 731, 732, 733, 734, 735, 736, 737] (by decide +kernel) (by decide +kernel)
set_option maxRecDepth 20000 in
theorem gL_law_X6_seed : GoodIn wsL_law (wsV RL 109 RX6 yX6_seed wsX6_seed) := goodIn_app (goodIn_of _ (by decide +kernel)) ggL_law_X6_seed
set_option maxRecDepth 20000 in
theorem ggL_law_X5_image : GoodIn wsL_law wsX5_image := goodIn_r _ [583, 17, 16, 18, 584, 15, 585, 586, 41, 42, 295, 296, 297, 298, 43, 44, 45, 46, 47, 48, 49, 50, 51, 52, 256, 25, 257, 258, 56, 57, 58, 59, 60, 694, 695, 696, 697, 698, 699, 700, 701, 738, 739, 740, 741, 742, 743, 744, 745, 746, 747, 748, 749, 753, 754, 755, 756, 757] (by decide +kernel) (by decide +kernel)
set_option maxRecDepth 20000 in
theorem gL_law_X5_image : GoodIn wsL_law (wsV RL 110 RX5 yX5_image wsX5_image) := goodIn_app (goodIn_of _ (by decide +kernel)) ggL_law_X5_image
set_option maxRecDepth 20000 in
theorem ggL_law_X6_image : GoodIn wsL_law wsX6_image := goodIn_r _ [590, 108, 130, 189, 98, 99, 202, 203, 152, 100, 204, 102, 591, 592, 593, 594, 5, 595, 93, 94, 95, 96, 97, 101, 702, 703, 704, 705, 706, 707, 708, 709, 710, 711, 712, 713, 714, 715, 716, 717, 718, 719, 720, 721, 722, 723, 724, 725, 726, 727, 728, 729, 730, 731, 732, 733, 734, 735, 736, 737] (by decide +kernel) (by decide +kernel)
set_option maxRecDepth 20000 in
theorem gL_law_X6_image : GoodIn wsL_law (wsV RL 113 RX6 yX6_image wsX6_image) := goodIn_app (goodIn_of _ (by decide +kernel)) ggL_law_X6_image
set_option maxRecDepth 20000 in
theorem ggL_law_X5_restore : GoodIn wsL_law wsX5_restore := goodIn_r _ [599, 18, 16, 17, 584, 15, 585, 586, 41, 42, 295, 296, 297, 298, 43, 44, 45, 46, 47, 48, 49, 50, 51, 52, 256, 25, 257, 258, 56, 57, 58, 59, 60, 694, 695, 696, 697, 698, 699, 700, 701, 738, 739, 740, 741, 742, 743, 744, 745, 746, 747, 748, 749, 753, 754, 755, 756, 757] (by decide +kernel) (by decide +kernel)
set_option maxRecDepth 20000 in
theorem gL_law_X5_restore : GoodIn wsL_law (wsV RL 114 RX5 yX5_restore wsX5_restore) := goodIn_app (goodIn_of _ (by decide +kernel)) ggL_law_X5_restore
set_option maxRecDepth 20000 in
theorem ggL_law_X6_restore : GoodIn wsL_law wsX6_restore := goodIn_r _ [603, 591, 108, 130, 189, 98, 99, 202, 203, 152, 100, 204, 102, 592, 593, 594, 5, 595, 93, 94, 95, 96, 97, 101, 702, 703, 704, 705, 706, 707, 708, 709, 710, 711, 712, 713, 714, 715, 716, 717, 718, 719, 720, 721, 722, 723, 724, 725, 726, 727, 728, 729, 730, 731, 732, 733, 734, 735, 736, 737] (by decide +kernel) (by decide +kernel)
set_option maxRecDepth 20000 in
theorem gL_law_X6_restore : GoodIn wsL_law (wsV RL 117 RX6 yX6_restore wsX6_restore) := goodIn_app (goodIn_of _ (by decide +kernel)) ggL_law_X6_restore
set_option maxRecDepth 20000 in
theorem ggL_law_X5_fit : GoodIn wsL_law wsX5_fit := goodIn_r _ [607, 34, 117, 118, 2, 119, 608, 609, 610, 611, 612, 613, 614, 615, 616, 617, 618, 36, 619, 620, 88, 621, 622, 623, 624, 16, 523, 524, 525, 526, 625, 626, 627, 628, 339, 25, 340, 341, 56, 336, 292, 293, 294, 342, 343, 344, 348, 349, 350, 57, 351, 352, 353, 354, 528, 360, 361, 362, 363, 364, 365, 694, 695, 696, 697, 698, 699, 700, 701, 767, 768, 769, 770, 738, 739, 740, 741, 742, 743, 744, 745, 746, 747, 748, 749, 753, 754, 755, 756, 757] (by decide +kernel) (by decide +kernel)
set_option maxRecDepth 20000 in
theorem gL_law_X5_fit : GoodIn wsL_law (wsV RL 118 RX5 yX5_fit wsX5_fit) := goodIn_app (goodIn_of _ (by decide +kernel)) ggL_law_X5_fit
set_option maxRecDepth 20000 in
theorem ggL_law_X6_fit : GoodIn wsL_law wsX6_fit := goodIn_r _ [632, 222, 111, 130, 129, 633, 634, 5, 635, 127, 187, 131, 132, 133, 636, 637, 638, 639, 109, 110, 640, 641, 642, 643, 93, 393, 394, 395, 399, 400, 401, 402, 94, 403, 404, 405, 406, 407, 408, 702, 703, 704, 705, 706, 707, 708, 709, 710, 711, 712, 713, 714, 715, 716, 717, 718, 719, 720, 721, 722, 723, 724, 725, 726, 727, 728, 729, 730, 731, 732, 733, 734, 735, 736, 737] (by decide +kernel) (by decide +kernel)
set_option maxRecDepth 20000 in
theorem gL_law_X6_fit : GoodIn wsL_law (wsV RL 122 RX6 yX6_fit wsX6_fit) := goodIn_app (goodIn_of _ (by decide +kernel)) ggL_law_X6_fit
set_option maxRecDepth 20000 in
theorem ggL_law_X5_film : GoodIn wsL_law wsX5_film := goodIn_r _ [647, 16, 34, 143, 25, 144, 145, 60, 608, 609, 610, 2, 611, 612, 613, 614, 117, 118, 119, 615, 616, 617, 618, 36, 619, 620, 88, 508, 15, 509, 510, 46, 41, 291, 292, 293, 294, 339, 340, 341, 56, 336, 342, 343, 344, 345, 346, 347, 648, 649, 650, 87, 85, 694, 695, 696, 697, 698, 699, 700, 701, 738, 739, 740, 741, 742, 743, 744, 745, 746, 747, 748, 749, 753, 754, 755, 756, 757, 767, 768, 769, 770] (by decide +kernel) (by decide +kernel)
set_option maxRecDepth 20000 in
theorem gL_law_X5_film : GoodIn wsL_law (wsV RL 123 RX5 yX5_film wsX5_film) := goodIn_app (goodIn_of _ (by decide +kernel)) ggL_law_X5_film
set_option maxRecDepth 20000 in
theorem ggL_law_X6_film : GoodIn wsL_law wsX6_film := goodIn_r _ [654, 111, 153, 154, 155, 5, 156, 130, 131, 132, 133, 633, 634, 635, 127, 187, 636, 637, 638, 639, 109, 110, 515, 516, 517, 518, 93, 98, 393, 394, 395, 396, 397, 398, 702, 703, 704, 705, 706, 707, 708, 709, 710, 711, 712, 713, 714, 715, 716, 717, 718, 719, 720, 721, 722, 723, 724, 725, 726, 727, 728, 729, 730, 731, 732, 733, 734, 735, 736, 737] (by decide +kernel) (by decide +kernel)
set_option maxRecDepth 20000 in
theorem gL_law_X6_film : GoodIn wsL_law (wsV RL 126 RX6 yX6_film wsX6_film) := goodIn_app (goodIn_of _ (by decide +kernel)) ggL_law_X6_film
set_option maxRecDepth 20000 in
theorem ggL_law_X5_sheet : GoodIn wsL_law wsX5_sheet := goodIn_r _ [658, 34, 612, 613, 2, 614, 117, 118, 119, 615, 616, 617, 659, 36, 660, 661, 86, 87, 88, 85, 694, 695, 696, 697, 698, 699, 700, 701, 767, 768, 769, 770] (by decide +kernel) (by decide +kernel)
set_option maxRecDepth 20000 in
theorem gL_law_X5_sheet : GoodIn wsL_law (wsV RL 127 RX5 yX5_sheet wsX5_sheet) := goodIn_app (goodIn_of _ (by decide +kernel)) ggL_law_X5_sheet
set_option maxRecDepth 20000 in
theorem ggL_law_X6_sheet : GoodIn wsL_law wsX6_sheet := goodIn_r _ [665, 109, 110, 111, 633, 634, 5, 635, 127, 187, 131, 132, 133, 702, 703, 704, 705, 706, 707, 708, 709, 710, 711, 712, 713, 714, 715, 716, 717, 718, 719, 720, 721, 722, 723, 724, 725, 726, 727, 728, 729, 730, 731, 732, 733, 734, 735, 736, 737] (by decide +kernel) (by decide +kernel)
set_option maxRecDepth 20000 in
theorem gL_law_X6_sheet : GoodIn wsL_law (wsV RL 130 RX6 yX6_sheet wsX6_sheet) := goodIn_app (goodIn_of _ (by decide +kernel)) ggL_law_X6_sheet
set_option maxRecDepth 20000 in
theorem ggL_law_X5_drop : GoodIn wsL_law wsX5_drop := goodIn_r _ [669, 34, 612, 613, 2, 614, 117, 118, 119, 694, 695, 696, 697, 698, 699, 700, 701, 767, 768, 769, 770] (by decide +kernel) (by decide +kernel)
set_option maxRecDepth 20000 in
theorem gL_law_X5_drop : GoodIn wsL_law (wsV RL 131 RX5 yX5_drop wsX5_drop) := goodIn_app (goodIn_of _ (by decide +kernel)) ggL_law_X5_drop
set_option maxRecDepth 20000 in
theorem ggL_law_X6_drop : GoodIn wsL_law wsX6_drop := goodIn_r _ [673, 127, 109, 110, 131, 132, 5, 133, 702, 703, 704, 705, 706, 707, 708, 709, 710, 711, 712, 713, 714, 715, 716, 717, 718, 719, 720, 721, 722, 723, 724, 725, 726, 727, 728, 729, 730, 731, 732, 733, 734, 735, 736, 737] (by decide +kernel) (by decide +kernel)
set_option maxRecDepth 20000 in
theorem gL_law_X6_drop : GoodIn wsL_law (wsV RL 134 RX6 yX6_drop wsX6_drop) := goodIn_app (goodIn_of _ (by decide +kernel)) ggL_law_X6_drop
set_option maxRecDepth 20000 in
theorem ggL_law_X5_item : GoodIn wsL_law wsX5_item := goodIn_r _ [677, 34, 608, 609, 610, 2, 611, 612, 613, 614, 117, 118, 119, 615, 616, 617, 618, 36, 619, 620, 88, 648, 649, 650, 87, 85, 694, 695, 696, 697, 698, 699, 700, 701, 767, 768, 769, 770] (by decide +kernel) (by decide +kernel)
set_option maxRecDepth 20000 in
theorem gL_law_X5_item : GoodIn wsL_law (wsV RL 135 RX5 yX5_item wsX5_item) := goodIn_app (goodIn_of _ (by decide +kernel)) ggL_law_X5_item
set_option maxRecDepth 20000 in
theorem ggL_law_X6_item : GoodIn wsL_law wsX6_item := goodIn_r _ [681, 111, 633, 634, 5, 635, 127, 187, 131, 132, 133, 636, 637, 638, 639, 109, 110, 682, 683, 684, 702, 703, 704, 705, 706, 707, 708, 709, 710, 711, 712, 713, 714, 715, 716, 717, 718, 719, 720, 721, 722, 723, 724, 725, 726, 727, 728, 729, 730, 731, 732, 733, 734, 735, 736, 737] (by decide +kernel) (by decide +kernel)
set_option maxRecDepth 20000 in
theorem gL_law_X6_item : GoodIn wsL_law (wsV RL 139 RX6 yX6_item wsX6_item) := goodIn_app (goodIn_of _ (by decide +kernel)) ggL_law_X6_item
set_option maxRecDepth 20000 in
theorem ggL_law_X5_copy : GoodIn wsL_law wsX5_copy := goodIn_r _ [688, 34, 689, 296, 297, 298, 612, 613, 2, 614, 117, 118, 119, 618, 36, 619, 620, 88, 694, 695, 696, 697, 698, 699, 700, 701, 767, 768, 769, 770] (by decide +kernel) (by decide +kernel)
set_option maxRecDepth 20000 in
theorem gL_law_X5_copy : GoodIn wsL_law (wsV RL 140 RX5 yX5_copy wsX5_copy) := goodIn_app (goodIn_of _ (by decide +kernel)) ggL_law_X5_copy
set_option maxRecDepth 20000 in
theorem ggL_law_X6_copy : GoodIn wsL_law wsX6_copy := goodIn_r _ [693, 127, 109, 110, 112, 111, 131, 132, 5, 133, 702, 703, 704, 705, 706, 707, 708, 709, 710, 711, 712, 713, 714, 715, 716, 717, 718, 719, 720, 721, 722, 723, 724, 725, 726, 727, 728, 729, 730, 731, 732, 733, 734, 735, 736, 737] (by decide +kernel) (by decide +kernel)
set_option maxRecDepth 20000 in
theorem gL_law_X6_copy : GoodIn wsL_law (wsV RL 144 RX6 yX6_copy wsX6_copy) := goodIn_app (goodIn_of _ (by decide +kernel)) ggL_law_X6_copy
theorem dL_law_0 : decode cL_law 0 = .ok (.new 7, 3) := by decide +kernel
theorem dL_law_3 : decode cL_law 3 = .ok (.dup, 1) := by decide +kernel
theorem dL_law_4 : decode cL_law 4 = .ok (.invokespecial 9, 3) := by decide +kernel
theorem dL_law_7 : decode cL_law 7 = .ok (.astore_n 1, 1) := by decide +kernel
theorem dL_law_8 : decode cL_law 8 = .ok (.new 10, 3) := by decide +kernel
theorem dL_law_11 : decode cL_law 11 = .ok (.dup, 1) := by decide +kernel
theorem dL_law_12 : decode cL_law 12 = .ok (.invokespecial 12, 3) := by decide +kernel
theorem dL_law_15 : decode cL_law 15 = .ok (.astore_n 2, 1) := by decide +kernel
theorem dL_law_16 : decode cL_law 16 = .ok (.iconst 0, 1) := by decide +kernel
theorem dL_law_17 : decode cL_law 17 = .ok (.istore_n 3, 1) := by decide +kernel
theorem dL_law_18 : decode cL_law 18 = .ok (.iload_n 3, 1) := by decide +kernel
theorem dL_law_19 : decode cL_law 19 = .ok (.aload_n 0, 1) := by decide +kernel
theorem dL_law_20 : decode cL_law 20 = .ok (.arraylength, 1) := by decide +kernel
theorem dL_law_21 : decode cL_law 21 = .ok (.bipush 7, 2) := by decide +kernel
theorem dL_law_23 : decode cL_law 23 = .ok (.isub, 1) := by decide +kernel
theorem dL_law_24 : decode cL_law 24 = .ok (.if_icmp .gt 1158, 3) := by decide +kernel
theorem dL_law_27 : decode cL_law 27 = .ok (.aload_n 0, 1) := by decide +kernel
theorem dL_law_28 : decode cL_law 28 = .ok (.iload_n 3, 1) := by decide +kernel
theorem dL_law_29 : decode cL_law 29 = .ok (.iaload, 1) := by decide +kernel
theorem dL_law_30 : decode cL_law 30 = .ok (.bipush 31, 2) := by decide +kernel
theorem dL_law_32 : decode cL_law 32 = .ok (.iand, 1) := by decide +kernel
theorem dL_law_33 : decode cL_law 33 = .ok (.tableswitch 1143 0 29 #[135, 178, 211, 270, 303, 326, 389, 402, 415, 428, 451, 474, 487, 510, 543, 566, 579, 612, 655, 730, 753, 776, 799, 812, 825, 878, 931, 974, 997, 1080], 135) := by decide +kernel
theorem dL_law_168 : decode cL_law 168 = .ok (.aload_n 1, 1) := by decide +kernel
theorem dL_law_169 : decode cL_law 169 = .ok (.aload_n 0, 1) := by decide +kernel
theorem dL_law_170 : decode cL_law 170 = .ok (.iload_n 3, 1) := by decide +kernel
theorem dL_law_171 : decode cL_law 171 = .ok (.iconst 1, 1) := by decide +kernel
theorem dL_law_172 : decode cL_law 172 = .ok (.iadd, 1) := by decide +kernel
theorem dL_law_173 : decode cL_law 173 = .ok (.iaload, 1) := by decide +kernel
theorem dL_law_174 : decode cL_law 174 = .ok (.aload_n 0, 1) := by decide +kernel
theorem dL_law_175 : decode cL_law 175 = .ok (.iload_n 3, 1) := by decide +kernel
theorem dL_law_176 : decode cL_law 176 = .ok (.iconst 2, 1) := by decide +kernel
theorem dL_law_177 : decode cL_law 177 = .ok (.iadd, 1) := by decide +kernel
theorem dL_law_178 : decode cL_law 178 = .ok (.iaload, 1) := by decide +kernel
theorem dL_law_179 : decode cL_law 179 = .ok (.aload_n 0, 1) := by decide +kernel
theorem dL_law_180 : decode cL_law 180 = .ok (.iload_n 3, 1) := by decide +kernel
theorem dL_law_181 : decode cL_law 181 = .ok (.iconst 3, 1) := by decide +kernel
theorem dL_law_182 : decode cL_law 182 = .ok (.iadd, 1) := by decide +kernel
theorem dL_law_183 : decode cL_law 183 = .ok (.iaload, 1) := by decide +kernel
theorem dL_law_184 : decode cL_law 184 = .ok (.invokevirtual 13, 3) := by decide +kernel
theorem dL_law_187 : decode cL_law 187 = .ok (.aload_n 2, 1) := by decide +kernel
theorem dL_law_188 : decode cL_law 188 = .ok (.aload_n 0, 1) := by decide +kernel
theorem dL_law_189 : decode cL_law 189 = .ok (.iload_n 3, 1) := by decide +kernel
theorem dL_law_190 : decode cL_law 190 = .ok (.iconst 1, 1) := by decide +kernel
theorem dL_law_191 : decode cL_law 191 = .ok (.iadd, 1) := by decide +kernel
theorem dL_law_192 : decode cL_law 192 = .ok (.iaload, 1) := by decide +kernel
theorem dL_law_193 : decode cL_law 193 = .ok (.aload_n 0, 1) := by decide +kernel
theorem dL_law_194 : decode cL_law 194 = .ok (.iload_n 3, 1) := by decide +kernel
theorem dL_law_195 : decode cL_law 195 = .ok (.iconst 2, 1) := by decide +kernel
theorem dL_law_196 : decode cL_law 196 = .ok (.iadd, 1) := by decide +kernel
theorem dL_law_197 : decode cL_law 197 = .ok (.iaload, 1) := by decide +kernel
theorem dL_law_198 : decode cL_law 198 = .ok (.aload_n 0, 1) := by decide +kernel
theorem dL_law_199 : decode cL_law 199 = .ok (.iload_n 3, 1) := by decide +kernel
theorem dL_law_200 : decode cL_law 200 = .ok (.iconst 3, 1) := by decide +kernel
theorem dL_law_201 : decode cL_law 201 = .ok (.iadd, 1) := by decide +kernel
theorem dL_law_202 : decode cL_law 202 = .ok (.iaload, 1) := by decide +kernel
theorem dL_law_203 : decode cL_law 203 = .ok (.invokevirtual 17, 3) := by decide +kernel
theorem dL_law_206 : decode cL_law 206 = .ok (.if_icmp .eq 970, 3) := by decide +kernel
theorem dL_law_209 : decode cL_law 209 = .ok (.iconst 0, 1) := by decide +kernel
theorem dL_law_210 : decode cL_law 210 = .ok (.ireturn, 1) := by decide +kernel
theorem dL_law_211 : decode cL_law 211 = .ok (.aload_n 1, 1) := by decide +kernel
theorem dL_law_212 : decode cL_law 212 = .ok (.aload_n 0, 1) := by decide +kernel
theorem dL_law_213 : decode cL_law 213 = .ok (.iload_n 3, 1) := by decide +kernel
theorem dL_law_214 : decode cL_law 214 = .ok (.iconst 1, 1) := by decide +kernel
theorem dL_law_215 : decode cL_law 215 = .ok (.iadd, 1) := by decide +kernel
theorem dL_law_216 : decode cL_law 216 = .ok (.iaload, 1) := by decide +kernel
theorem dL_law_217 : decode cL_law 217 = .ok (.aload_n 0, 1) := by decide +kernel
theorem dL_law_218 : decode cL_law 218 = .ok (.iload_n 3, 1) := by decide +kernel
theorem dL_law_219 : decode cL_law 219 = .ok (.iconst 2, 1) := by decide +kernel
theorem dL_law_220 : decode cL_law 220 = .ok (.iadd, 1) := by decide +kernel
theorem dL_law_221 : decode cL_law 221 = .ok (.iaload, 1) := by decide +kernel
theorem dL_law_222 : decode cL_law 222 = .ok (.invokevirtual 18, 3) := by decide +kernel
theorem dL_law_225 : decode cL_law 225 = .ok (.aload_n 2, 1) := by decide +kernel
theorem dL_law_226 : decode cL_law 226 = .ok (.aload_n 0, 1) := by decide +kernel
theorem dL_law_227 : decode cL_law 227 = .ok (.iload_n 3, 1) := by decide +kernel
theorem dL_law_228 : decode cL_law 228 = .ok (.iconst 1, 1) := by decide +kernel
theorem dL_law_229 : decode cL_law 229 = .ok (.iadd, 1) := by decide +kernel
theorem dL_law_230 : decode cL_law 230 = .ok (.iaload, 1) := by decide +kernel
theorem dL_law_231 : decode cL_law 231 = .ok (.aload_n 0, 1) := by decide +kernel
theorem dL_law_232 : decode cL_law 232 = .ok (.iload_n 3, 1) := by decide +kernel
theorem dL_law_233 : decode cL_law 233 = .ok (.iconst 2, 1) := by decide +kernel
theorem dL_law_234 : decode cL_law 234 = .ok (.iadd, 1) := by decide +kernel
theorem dL_law_235 : decode cL_law 235 = .ok (.iaload, 1) := by decide +kernel
theorem dL_law_236 : decode cL_law 236 = .ok (.invokevirtual 22, 3) := by decide +kernel
theorem dL_law_239 : decode cL_law 239 = .ok (.if_icmp .eq 937, 3) := by decide +kernel
theorem dL_law_242 : decode cL_law 242 = .ok (.iconst 0, 1) := by decide +kernel
theorem dL_law_243 : decode cL_law 243 = .ok (.ireturn, 1) := by decide +kernel
theorem dL_law_244 : decode cL_law 244 = .ok (.aload_n 1, 1) := by decide +kernel
theorem dL_law_245 : decode cL_law 245 = .ok (.aload_n 0, 1) := by decide +kernel
theorem dL_law_246 : decode cL_law 246 = .ok (.iload_n 3, 1) := by decide +kernel
theorem dL_law_247 : decode cL_law 247 = .ok (.iconst 1, 1) := by decide +kernel
theorem dL_law_248 : decode cL_law 248 = .ok (.iadd, 1) := by decide +kernel
theorem dL_law_249 : decode cL_law 249 = .ok (.iaload, 1) := by decide +kernel
theorem dL_law_250 : decode cL_law 250 = .ok (.aload_n 0, 1) := by decide +kernel
theorem dL_law_251 : decode cL_law 251 = .ok (.iload_n 3, 1) := by decide +kernel
theorem dL_law_252 : decode cL_law 252 = .ok (.iconst 2, 1) := by decide +kernel
theorem dL_law_253 : decode cL_law 253 = .ok (.iadd, 1) := by decide +kernel
theorem dL_law_254 : decode cL_law 254 = .ok (.iaload, 1) := by decide +kernel
theorem dL_law_255 : decode cL_law 255 = .ok (.aload_n 0, 1) := by decide +kernel
theorem dL_law_256 : decode cL_law 256 = .ok (.iload_n 3, 1) := by decide +kernel
theorem dL_law_257 : decode cL_law 257 = .ok (.iconst 3, 1) := by decide +kernel
theorem dL_law_258 : decode cL_law 258 = .ok (.iadd, 1) := by decide +kernel
theorem dL_law_259 : decode cL_law 259 = .ok (.iaload, 1) := by decide +kernel
theorem dL_law_260 : decode cL_law 260 = .ok (.ifCond .eq 7, 3) := by decide +kernel
theorem dL_law_263 : decode cL_law 263 = .ok (.iconst 1, 1) := by decide +kernel
theorem dL_law_264 : decode cL_law 264 = .ok (.goto 4, 3) := by decide +kernel
theorem dL_law_267 : decode cL_law 267 = .ok (.iconst 0, 1) := by decide +kernel
theorem dL_law_268 : decode cL_law 268 = .ok (.invokevirtual 23, 3) := by decide +kernel
theorem dL_law_271 : decode cL_law 271 = .ok (.aload_n 2, 1) := by decide +kernel
theorem dL_law_272 : decode cL_law 272 = .ok (.aload_n 0, 1) := by decide +kernel
theorem dL_law_273 : decode cL_law 273 = .ok (.iload_n 3, 1) := by decide +kernel
theorem dL_law_274 : decode cL_law 274 = .ok (.iconst 1, 1) := by decide +kernel
theorem dL_law_275 : decode cL_law 275 = .ok (.iadd, 1) := by decide +kernel
theorem dL_law_276 : decode cL_law 276 = .ok (.iaload, 1) := by decide +kernel
theorem dL_law_277 : decode cL_law 277 = .ok (.aload_n 0, 1) := by decide +kernel
theorem dL_law_278 : decode cL_law 278 = .ok (.iload_n 3, 1) := by decide +kernel
theorem dL_law_279 : decode cL_law 279 = .ok (.iconst 2, 1) := by decide +kernel
theorem dL_law_280 : decode cL_law 280 = .ok (.iadd, 1) := by decide +kernel
theorem dL_law_281 : decode cL_law 281 = .ok (.iaload, 1) := by decide +kernel
theorem dL_law_282 : decode cL_law 282 = .ok (.aload_n 0, 1) := by decide +kernel
theorem dL_law_283 : decode cL_law 283 = .ok (.iload_n 3, 1) := by decide +kernel
theorem dL_law_284 : decode cL_law 284 = .ok (.iconst 3, 1) := by decide +kernel
theorem dL_law_285 : decode cL_law 285 = .ok (.iadd, 1) := by decide +kernel
theorem dL_law_286 : decode cL_law 286 = .ok (.iaload, 1) := by decide +kernel
theorem dL_law_287 : decode cL_law 287 = .ok (.ifCond .eq 7, 3) := by decide +kernel
theorem dL_law_290 : decode cL_law 290 = .ok (.iconst 1, 1) := by decide +kernel
theorem dL_law_291 : decode cL_law 291 = .ok (.goto 4, 3) := by decide +kernel
theorem dL_law_294 : decode cL_law 294 = .ok (.iconst 0, 1) := by decide +kernel
theorem dL_law_295 : decode cL_law 295 = .ok (.invokevirtual 27, 3) := by decide +kernel
theorem dL_law_298 : decode cL_law 298 = .ok (.if_icmp .eq 878, 3) := by decide +kernel
theorem dL_law_301 : decode cL_law 301 = .ok (.iconst 0, 1) := by decide +kernel
theorem dL_law_302 : decode cL_law 302 = .ok (.ireturn, 1) := by decide +kernel
theorem dL_law_303 : decode cL_law 303 = .ok (.aload_n 1, 1) := by decide +kernel
theorem dL_law_304 : decode cL_law 304 = .ok (.aload_n 0, 1) := by decide +kernel
theorem dL_law_305 : decode cL_law 305 = .ok (.iload_n 3, 1) := by decide +kernel
theorem dL_law_306 : decode cL_law 306 = .ok (.iconst 1, 1) := by decide +kernel
theorem dL_law_307 : decode cL_law 307 = .ok (.iadd, 1) := by decide +kernel
theorem dL_law_308 : decode cL_law 308 = .ok (.iaload, 1) := by decide +kernel
theorem dL_law_309 : decode cL_law 309 = .ok (.aload_n 0, 1) := by decide +kernel
theorem dL_law_310 : decode cL_law 310 = .ok (.iload_n 3, 1) := by decide +kernel
theorem dL_law_311 : decode cL_law 311 = .ok (.iconst 2, 1) := by decide +kernel
theorem dL_law_312 : decode cL_law 312 = .ok (.iadd, 1) := by decide +kernel
theorem dL_law_313 : decode cL_law 313 = .ok (.iaload, 1) := by decide +kernel
theorem dL_law_314 : decode cL_law 314 = .ok (.invokevirtual 28, 3) := by decide +kernel
theorem dL_law_317 : decode cL_law 317 = .ok (.aload_n 2, 1) := by decide +kernel
theorem dL_law_318 : decode cL_law 318 = .ok (.aload_n 0, 1) := by decide +kernel
theorem dL_law_319 : decode cL_law 319 = .ok (.iload_n 3, 1) := by decide +kernel
theorem dL_law_320 : decode cL_law 320 = .ok (.iconst 1, 1) := by decide +kernel
theorem dL_law_321 : decode cL_law 321 = .ok (.iadd, 1) := by decide +kernel
theorem dL_law_322 : decode cL_law 322 = .ok (.iaload, 1) := by decide +kernel
theorem dL_law_323 : decode cL_law 323 = .ok (.aload_n 0, 1) := by decide +kernel
theorem dL_law_324 : decode cL_law 324 = .ok (.iload_n 3, 1) := by decide +kernel
theorem dL_law_325 : decode cL_law 325 = .ok (.iconst 2, 1) := by decide +kernel
theorem dL_law_326 : decode cL_law 326 = .ok (.iadd, 1) := by decide +kernel
theorem dL_law_327 : decode cL_law 327 = .ok (.iaload, 1) := by decide +kernel
theorem dL_law_328 : decode cL_law 328 = .ok (.invokevirtual 31, 3) := by decide +kernel
theorem dL_law_331 : decode cL_law 331 = .ok (.if_icmp .eq 845, 3) := by decide +kernel
theorem dL_law_334 : decode cL_law 334 = .ok (.iconst 0, 1) := by decide +kernel
theorem dL_law_335 : decode cL_law 335 = .ok (.ireturn, 1) := by decide +kernel
theorem dL_law_336 : decode cL_law 336 = .ok (.aload_n 1, 1) := by decide +kernel
theorem dL_law_337 : decode cL_law 337 = .ok (.aload_n 0, 1) := by decide +kernel
theorem dL_law_338 : decode cL_law 338 = .ok (.iload_n 3, 1) := by decide +kernel
theorem dL_law_339 : decode cL_law 339 = .ok (.iconst 1, 1) := by decide +kernel
theorem dL_law_340 : decode cL_law 340 = .ok (.iadd, 1) := by decide +kernel
theorem dL_law_341 : decode cL_law 341 = .ok (.iaload, 1) := by decide +kernel
theorem dL_law_342 : decode cL_law 342 = .ok (.invokevirtual 32, 3) := by decide +kernel
theorem dL_law_345 : decode cL_law 345 = .ok (.aload_n 2, 1) := by decide +kernel
theorem dL_law_346 : decode cL_law 346 = .ok (.aload_n 0, 1) := by decide +kernel
theorem dL_law_347 : decode cL_law 347 = .ok (.iload_n 3, 1) := by decide +kernel
theorem dL_law_348 : decode cL_law 348 = .ok (.iconst 1, 1) := by decide +kernel
theorem dL_law_349 : decode cL_law 349 = .ok (.iadd, 1) := by decide +kernel
theorem dL_law_350 : decode cL_law 350 = .ok (.iaload, 1) := by decide +kernel
theorem dL_law_351 : decode cL_law 351 = .ok (.invokevirtual 36, 3) := by decide +kernel
theorem dL_law_354 : decode cL_law 354 = .ok (.if_icmp .eq 822, 3) := by decide +kernel
theorem dL_law_357 : decode cL_law 357 = .ok (.iconst 0, 1) := by decide +kernel
theorem dL_law_358 : decode cL_law 358 = .ok (.ireturn, 1) := by decide +kernel
theorem dL_law_359 : decode cL_law 359 = .ok (.aload_n 1, 1) := by decide +kernel
theorem dL_law_360 : decode cL_law 360 = .ok (.aload_n 0, 1) := by decide +kernel
theorem dL_law_361 : decode cL_law 361 = .ok (.iload_n 3, 1) := by decide +kernel
theorem dL_law_362 : decode cL_law 362 = .ok (.iconst 1, 1) := by decide +kernel
theorem dL_law_363 : decode cL_law 363 = .ok (.iadd, 1) := by decide +kernel
theorem dL_law_364 : decode cL_law 364 = .ok (.iaload, 1) := by decide +kernel
theorem dL_law_365 : decode cL_law 365 = .ok (.i2l, 1) := by decide +kernel
theorem dL_law_366 : decode cL_law 366 = .ok (.bipush 32, 2) := by decide +kernel
theorem dL_law_368 : decode cL_law 368 = .ok (.lshl, 1) := by decide +kernel
theorem dL_law_369 : decode cL_law 369 = .ok (.aload_n 0, 1) := by decide +kernel
theorem dL_law_370 : decode cL_law 370 = .ok (.iload_n 3, 1) := by decide +kernel
theorem dL_law_371 : decode cL_law 371 = .ok (.iconst 2, 1) := by decide +kernel
theorem dL_law_372 : decode cL_law 372 = .ok (.iadd, 1) := by decide +kernel
theorem dL_law_373 : decode cL_law 373 = .ok (.iaload, 1) := by decide +kernel
theorem dL_law_374 : decode cL_law 374 = .ok (.i2l, 1) := by decide +kernel
theorem dL_law_375 : decode cL_law 375 = .ok (.ldc2_w 37, 3) := by decide +kernel
theorem dL_law_378 : decode cL_law 378 = .ok (.land, 1) := by decide +kernel
theorem dL_law_379 : decode cL_law 379 = .ok (.lor, 1) := by decide +kernel
theorem dL_law_380 : decode cL_law 380 = .ok (.aload_n 0, 1) := by decide +kernel
theorem dL_law_381 : decode cL_law 381 = .ok (.iload_n 3, 1) := by decide +kernel
theorem dL_law_382 : decode cL_law 382 = .ok (.iconst 3, 1) := by decide +kernel
theorem dL_law_383 : decode cL_law 383 = .ok (.iadd, 1) := by decide +kernel
theorem dL_law_384 : decode cL_law 384 = .ok (.iaload, 1) := by decide +kernel
theorem dL_law_385 : decode cL_law 385 = .ok (.invokevirtual 39, 3) := by decide +kernel
theorem dL_law_388 : decode cL_law 388 = .ok (.aload_n 2, 1) := by decide +kernel
theorem dL_law_389 : decode cL_law 389 = .ok (.aload_n 0, 1) := by decide +kernel
theorem dL_law_390 : decode cL_law 390 = .ok (.iload_n 3, 1) := by decide +kernel
theorem dL_law_391 : decode cL_law 391 = .ok (.iconst 1, 1) := by decide +kernel
theorem dL_law_392 : decode cL_law 392 = .ok (.iadd, 1) := by decide +kernel
theorem dL_law_393 : decode cL_law 393 = .ok (.iaload, 1) := by decide +kernel
theorem dL_law_394 : decode cL_law 394 = .ok (.i2l, 1) := by decide +kernel
theorem dL_law_395 : decode cL_law 395 = .ok (.bipush 32, 2) := by decide +kernel
theorem dL_law_397 : decode cL_law 397 = .ok (.lshl, 1) := by decide +kernel
theorem dL_law_398 : decode cL_law 398 = .ok (.aload_n 0, 1) := by decide +kernel
theorem dL_law_399 : decode cL_law 399 = .ok (.iload_n 3, 1) := by decide +kernel
theorem dL_law_400 : decode cL_law 400 = .ok (.iconst 2, 1) := by decide +kernel
theorem dL_law_401 : decode cL_law 401 = .ok (.iadd, 1) := by decide +kernel
theorem dL_law_402 : decode cL_law 402 = .ok (.iaload, 1) := by decide +kernel
theorem dL_law_403 : decode cL_law 403 = .ok (.i2l, 1) := by decide +kernel
theorem dL_law_404 : decode cL_law 404 = .ok (.ldc2_w 37, 3) := by decide +kernel
theorem dL_law_407 : decode cL_law 407 = .ok (.land, 1) := by decide +kernel
theorem dL_law_408 : decode cL_law 408 = .ok (.lor, 1) := by decide +kernel
theorem dL_law_409 : decode cL_law 409 = .ok (.aload_n 0, 1) := by decide +kernel
theorem dL_law_410 : decode cL_law 410 = .ok (.iload_n 3, 1) := by decide +kernel
theorem dL_law_411 : decode cL_law 411 = .ok (.iconst 3, 1) := by decide +kernel
theorem dL_law_412 : decode cL_law 412 = .ok (.iadd, 1) := by decide +kernel
theorem dL_law_413 : decode cL_law 413 = .ok (.iaload, 1) := by decide +kernel
theorem dL_law_414 : decode cL_law 414 = .ok (.invokevirtual 43, 3) := by decide +kernel
theorem dL_law_417 : decode cL_law 417 = .ok (.if_icmp .eq 759, 3) := by decide +kernel
theorem dL_law_420 : decode cL_law 420 = .ok (.iconst 0, 1) := by decide +kernel
theorem dL_law_421 : decode cL_law 421 = .ok (.ireturn, 1) := by decide +kernel
theorem dL_law_422 : decode cL_law 422 = .ok (.aload_n 1, 1) := by decide +kernel
theorem dL_law_423 : decode cL_law 423 = .ok (.invokevirtual 44, 3) := by decide +kernel
theorem dL_law_426 : decode cL_law 426 = .ok (.aload_n 2, 1) := by decide +kernel
theorem dL_law_427 : decode cL_law 427 = .ok (.invokevirtual 48, 3) := by decide +kernel
theorem dL_law_430 : decode cL_law 430 = .ok (.if_icmp .eq 746, 3) := by decide +kernel
theorem dL_law_433 : decode cL_law 433 = .ok (.iconst 0, 1) := by decide +kernel
theorem dL_law_434 : decode cL_law 434 = .ok (.ireturn, 1) := by decide +kernel
theorem dL_law_435 : decode cL_law 435 = .ok (.aload_n 1, 1) := by decide +kernel
theorem dL_law_436 : decode cL_law 436 = .ok (.invokevirtual 49, 3) := by decide +kernel
theorem dL_law_439 : decode cL_law 439 = .ok (.aload_n 2, 1) := by decide +kernel
theorem dL_law_440 : decode cL_law 440 = .ok (.invokevirtual 52, 3) := by decide +kernel
theorem dL_law_443 : decode cL_law 443 = .ok (.if_icmp .eq 733, 3) := by decide +kernel
theorem dL_law_446 : decode cL_law 446 = .ok (.iconst 0, 1) := by decide +kernel
theorem dL_law_447 : decode cL_law 447 = .ok (.ireturn, 1) := by decide +kernel
theorem dL_law_448 : decode cL_law 448 = .ok (.aload_n 1, 1) := by decide +kernel
theorem dL_law_449 : decode cL_law 449 = .ok (.invokevirtual 53, 3) := by decide +kernel
theorem dL_law_452 : decode cL_law 452 = .ok (.aload_n 2, 1) := by decide +kernel
theorem dL_law_453 : decode cL_law 453 = .ok (.invokevirtual 56, 3) := by decide +kernel
theorem dL_law_456 : decode cL_law 456 = .ok (.if_icmp .eq 720, 3) := by decide +kernel
theorem dL_law_459 : decode cL_law 459 = .ok (.iconst 0, 1) := by decide +kernel
theorem dL_law_460 : decode cL_law 460 = .ok (.ireturn, 1) := by decide +kernel
theorem dL_law_461 : decode cL_law 461 = .ok (.aload_n 1, 1) := by decide +kernel
theorem dL_law_462 : decode cL_law 462 = .ok (.aload_n 0, 1) := by decide +kernel
theorem dL_law_463 : decode cL_law 463 = .ok (.iload_n 3, 1) := by decide +kernel
theorem dL_law_464 : decode cL_law 464 = .ok (.iconst 1, 1) := by decide +kernel
theorem dL_law_465 : decode cL_law 465 = .ok (.iadd, 1) := by decide +kernel
theorem dL_law_466 : decode cL_law 466 = .ok (.iaload, 1) := by decide +kernel
theorem dL_law_467 : decode cL_law 467 = .ok (.invokevirtual 57, 3) := by decide +kernel
theorem dL_law_470 : decode cL_law 470 = .ok (.aload_n 2, 1) := by decide +kernel
theorem dL_law_471 : decode cL_law 471 = .ok (.aload_n 0, 1) := by decide +kernel
theorem dL_law_472 : decode cL_law 472 = .ok (.iload_n 3, 1) := by decide +kernel
theorem dL_law_473 : decode cL_law 473 = .ok (.iconst 1, 1) := by decide +kernel
theorem dL_law_474 : decode cL_law 474 = .ok (.iadd, 1) := by decide +kernel
theorem dL_law_475 : decode cL_law 475 = .ok (.iaload, 1) := by decide +kernel
theorem dL_law_476 : decode cL_law 476 = .ok (.invokevirtual 60, 3) := by decide +kernel
theorem dL_law_479 : decode cL_law 479 = .ok (.if_icmp .eq 697, 3) := by decide +kernel
theorem dL_law_482 : decode cL_law 482 = .ok (.iconst 0, 1) := by decide +kernel
theorem dL_law_483 : decode cL_law 483 = .ok (.ireturn, 1) := by decide +kernel
theorem dL_law_484 : decode cL_law 484 = .ok (.aload_n 1, 1) := by decide +kernel
theorem dL_law_485 : decode cL_law 485 = .ok (.aload_n 0, 1) := by decide +kernel
theorem dL_law_486 : decode cL_law 486 = .ok (.iload_n 3, 1) := by decide +kernel
theorem dL_law_487 : decode cL_law 487 = .ok (.iconst 1, 1) := by decide +kernel
theorem dL_law_488 : decode cL_law 488 = .ok (.iadd, 1) := by decide +kernel
theorem dL_law_489 : decode cL_law 489 = .ok (.iaload, 1) := by decide +kernel
theorem dL_law_490 : decode cL_law 490 = .ok (.invokevirtual 61, 3) := by decide +kernel
theorem dL_law_493 : decode cL_law 493 = .ok (.aload_n 2, 1) := by decide +kernel
theorem dL_law_494 : decode cL_law 494 = .ok (.aload_n 0, 1) := by decide +kernel
theorem dL_law_495 : decode cL_law 495 = .ok (.iload_n 3, 1) := by decide +kernel
theorem dL_law_496 : decode cL_law 496 = .ok (.iconst 1, 1) := by decide +kernel
theorem dL_law_497 : decode cL_law 497 = .ok (.iadd, 1) := by decide +kernel
theorem dL_law_498 : decode cL_law 498 = .ok (.iaload, 1) := by decide +kernel
theorem dL_law_499 : decode cL_law 499 = .ok (.invokevirtual 64, 3) := by decide +kernel
theorem dL_law_502 : decode cL_law 502 = .ok (.if_icmp .eq 674, 3) := by decide +kernel
theorem dL_law_505 : decode cL_law 505 = .ok (.iconst 0, 1) := by decide +kernel
theorem dL_law_506 : decode cL_law 506 = .ok (.ireturn, 1) := by decide +kernel
theorem dL_law_507 : decode cL_law 507 = .ok (.aload_n 1, 1) := by decide +kernel
theorem dL_law_508 : decode cL_law 508 = .ok (.invokevirtual 65, 3) := by decide +kernel
theorem dL_law_511 : decode cL_law 511 = .ok (.aload_n 2, 1) := by decide +kernel
theorem dL_law_512 : decode cL_law 512 = .ok (.invokevirtual 68, 3) := by decide +kernel
theorem dL_law_515 : decode cL_law 515 = .ok (.if_icmp .eq 661, 3) := by decide +kernel
theorem dL_law_518 : decode cL_law 518 = .ok (.iconst 0, 1) := by decide +kernel
theorem dL_law_519 : decode cL_law 519 = .ok (.ireturn, 1) := by decide +kernel
theorem dL_law_520 : decode cL_law 520 = .ok (.aload_n 1, 1) := by decide +kernel
theorem dL_law_521 : decode cL_law 521 = .ok (.aload_n 0, 1) := by decide +kernel
theorem dL_law_522 : decode cL_law 522 = .ok (.iload_n 3, 1) := by decide +kernel
theorem dL_law_523 : decode cL_law 523 = .ok (.iconst 1, 1) := by decide +kernel
theorem dL_law_524 : decode cL_law 524 = .ok (.iadd, 1) := by decide +kernel
theorem dL_law_525 : decode cL_law 525 = .ok (.iaload, 1) := by decide +kernel
theorem dL_law_526 : decode cL_law 526 = .ok (.invokevirtual 69, 3) := by decide +kernel
theorem dL_law_529 : decode cL_law 529 = .ok (.aload_n 2, 1) := by decide +kernel
theorem dL_law_530 : decode cL_law 530 = .ok (.aload_n 0, 1) := by decide +kernel
theorem dL_law_531 : decode cL_law 531 = .ok (.iload_n 3, 1) := by decide +kernel
theorem dL_law_532 : decode cL_law 532 = .ok (.iconst 1, 1) := by decide +kernel
theorem dL_law_533 : decode cL_law 533 = .ok (.iadd, 1) := by decide +kernel
theorem dL_law_534 : decode cL_law 534 = .ok (.iaload, 1) := by decide +kernel
theorem dL_law_535 : decode cL_law 535 = .ok (.invokevirtual 72, 3) := by decide +kernel
theorem dL_law_538 : decode cL_law 538 = .ok (.if_icmp .eq 638, 3) := by decide +kernel
theorem dL_law_541 : decode cL_law 541 = .ok (.iconst 0, 1) := by decide +kernel
theorem dL_law_542 : decode cL_law 542 = .ok (.ireturn, 1) := by decide +kernel
theorem dL_law_543 : decode cL_law 543 = .ok (.aload_n 1, 1) := by decide +kernel
theorem dL_law_544 : decode cL_law 544 = .ok (.aload_n 0, 1) := by decide +kernel
theorem dL_law_545 : decode cL_law 545 = .ok (.iload_n 3, 1) := by decide +kernel
theorem dL_law_546 : decode cL_law 546 = .ok (.iconst 1, 1) := by decide +kernel
theorem dL_law_547 : decode cL_law 547 = .ok (.iadd, 1) := by decide +kernel
theorem dL_law_548 : decode cL_law 548 = .ok (.iaload, 1) := by decide +kernel
theorem dL_law_549 : decode cL_law 549 = .ok (.aload_n 0, 1) := by decide +kernel
theorem dL_law_550 : decode cL_law 550 = .ok (.iload_n 3, 1) := by decide +kernel
theorem dL_law_551 : decode cL_law 551 = .ok (.iconst 2, 1) := by decide +kernel
theorem dL_law_552 : decode cL_law 552 = .ok (.iadd, 1) := by decide +kernel
theorem dL_law_553 : decode cL_law 553 = .ok (.iaload, 1) := by decide +kernel
theorem dL_law_554 : decode cL_law 554 = .ok (.invokevirtual 73, 3) := by decide +kernel
theorem dL_law_557 : decode cL_law 557 = .ok (.aload_n 2, 1) := by decide +kernel
theorem dL_law_558 : decode cL_law 558 = .ok (.aload_n 0, 1) := by decide +kernel
theorem dL_law_559 : decode cL_law 559 = .ok (.iload_n 3, 1) := by decide +kernel
theorem dL_law_560 : decode cL_law 560 = .ok (.iconst 1, 1) := by decide +kernel
theorem dL_law_561 : decode cL_law 561 = .ok (.iadd, 1) := by decide +kernel
theorem dL_law_562 : decode cL_law 562 = .ok (.iaload, 1) := by decide +kernel
theorem dL_law_563 : decode cL_law 563 = .ok (.aload_n 0, 1) := by decide +kernel
theorem dL_law_564 : decode cL_law 564 = .ok (.iload_n 3, 1) := by decide +kernel
theorem dL_law_565 : decode cL_law 565 = .ok (.iconst 2, 1) := by decide +kernel
theorem dL_law_566 : decode cL_law 566 = .ok (.iadd, 1) := by decide +kernel
theorem dL_law_567 : decode cL_law 567 = .ok (.iaload, 1) := by decide +kernel
theorem dL_law_568 : decode cL_law 568 = .ok (.invokevirtual 76, 3) := by decide +kernel
theorem dL_law_571 : decode cL_law 571 = .ok (.if_icmp .eq 605, 3) := by decide +kernel
theorem dL_law_574 : decode cL_law 574 = .ok (.iconst 0, 1) := by decide +kernel
theorem dL_law_575 : decode cL_law 575 = .ok (.ireturn, 1) := by decide +kernel
theorem dL_law_576 : decode cL_law 576 = .ok (.aload_n 1, 1) := by decide +kernel
theorem dL_law_577 : decode cL_law 577 = .ok (.aload_n 0, 1) := by decide +kernel
theorem dL_law_578 : decode cL_law 578 = .ok (.iload_n 3, 1) := by decide +kernel
theorem dL_law_579 : decode cL_law 579 = .ok (.iconst 1, 1) := by decide +kernel
theorem dL_law_580 : decode cL_law 580 = .ok (.iadd, 1) := by decide +kernel
theorem dL_law_581 : decode cL_law 581 = .ok (.iaload, 1) := by decide +kernel
theorem dL_law_582 : decode cL_law 582 = .ok (.invokevirtual 77, 3) := by decide +kernel
theorem dL_law_585 : decode cL_law 585 = .ok (.aload_n 2, 1) := by decide +kernel
theorem dL_law_586 : decode cL_law 586 = .ok (.aload_n 0, 1) := by decide +kernel
theorem dL_law_587 : decode cL_law 587 = .ok (.iload_n 3, 1) := by decide +kernel
theorem dL_law_588 : decode cL_law 588 = .ok (.iconst 1, 1) := by decide +kernel
theorem dL_law_589 : decode cL_law 589 = .ok (.iadd, 1) := by decide +kernel
theorem dL_law_590 : decode cL_law 590 = .ok (.iaload, 1) := by decide +kernel
theorem dL_law_591 : decode cL_law 591 = .ok (.invokevirtual 80, 3) := by decide +kernel
theorem dL_law_594 : decode cL_law 594 = .ok (.if_icmp .eq 582, 3) := by decide +kernel
theorem dL_law_597 : decode cL_law 597 = .ok (.iconst 0, 1) := by decide +kernel
theorem dL_law_598 : decode cL_law 598 = .ok (.ireturn, 1) := by decide +kernel
theorem dL_law_599 : decode cL_law 599 = .ok (.aload_n 1, 1) := by decide +kernel
theorem dL_law_600 : decode cL_law 600 = .ok (.invokevirtual 81, 3) := by decide +kernel
theorem dL_law_603 : decode cL_law 603 = .ok (.aload_n 2, 1) := by decide +kernel
theorem dL_law_604 : decode cL_law 604 = .ok (.invokevirtual 84, 3) := by decide +kernel
theorem dL_law_607 : decode cL_law 607 = .ok (.if_icmp .eq 569, 3) := by decide +kernel
theorem dL_law_610 : decode cL_law 610 = .ok (.iconst 0, 1) := by decide +kernel
theorem dL_law_611 : decode cL_law 611 = .ok (.ireturn, 1) := by decide +kernel
theorem dL_law_612 : decode cL_law 612 = .ok (.aload_n 1, 1) := by decide +kernel
theorem dL_law_613 : decode cL_law 613 = .ok (.aload_n 0, 1) := by decide +kernel
theorem dL_law_614 : decode cL_law 614 = .ok (.iload_n 3, 1) := by decide +kernel
theorem dL_law_615 : decode cL_law 615 = .ok (.iconst 1, 1) := by decide +kernel
theorem dL_law_616 : decode cL_law 616 = .ok (.iadd, 1) := by decide +kernel
theorem dL_law_617 : decode cL_law 617 = .ok (.iaload, 1) := by decide +kernel
theorem dL_law_618 : decode cL_law 618 = .ok (.aload_n 0, 1) := by decide +kernel
theorem dL_law_619 : decode cL_law 619 = .ok (.iload_n 3, 1) := by decide +kernel
theorem dL_law_620 : decode cL_law 620 = .ok (.iconst 2, 1) := by decide +kernel
theorem dL_law_621 : decode cL_law 621 = .ok (.iadd, 1) := by decide +kernel
theorem dL_law_622 : decode cL_law 622 = .ok (.iaload, 1) := by decide +kernel
theorem dL_law_623 : decode cL_law 623 = .ok (.invokevirtual 85, 3) := by decide +kernel
theorem dL_law_626 : decode cL_law 626 = .ok (.aload_n 2, 1) := by decide +kernel
theorem dL_law_627 : decode cL_law 627 = .ok (.aload_n 0, 1) := by decide +kernel
theorem dL_law_628 : decode cL_law 628 = .ok (.iload_n 3, 1) := by decide +kernel
theorem dL_law_629 : decode cL_law 629 = .ok (.iconst 1, 1) := by decide +kernel
theorem dL_law_630 : decode cL_law 630 = .ok (.iadd, 1) := by decide +kernel
theorem dL_law_631 : decode cL_law 631 = .ok (.iaload, 1) := by decide +kernel
theorem dL_law_632 : decode cL_law 632 = .ok (.aload_n 0, 1) := by decide +kernel
theorem dL_law_633 : decode cL_law 633 = .ok (.iload_n 3, 1) := by decide +kernel
theorem dL_law_634 : decode cL_law 634 = .ok (.iconst 2, 1) := by decide +kernel
theorem dL_law_635 : decode cL_law 635 = .ok (.iadd, 1) := by decide +kernel
theorem dL_law_636 : decode cL_law 636 = .ok (.iaload, 1) := by decide +kernel
theorem dL_law_637 : decode cL_law 637 = .ok (.invokevirtual 88, 3) := by decide +kernel
theorem dL_law_640 : decode cL_law 640 = .ok (.if_icmp .eq 536, 3) := by decide +kernel
theorem dL_law_643 : decode cL_law 643 = .ok (.iconst 0, 1) := by decide +kernel
theorem dL_law_644 : decode cL_law 644 = .ok (.ireturn, 1) := by decide +kernel
theorem dL_law_645 : decode cL_law 645 = .ok (.aload_n 1, 1) := by decide +kernel
theorem dL_law_646 : decode cL_law 646 = .ok (.aload_n 0, 1) := by decide +kernel
theorem dL_law_647 : decode cL_law 647 = .ok (.iload_n 3, 1) := by decide +kernel
theorem dL_law_648 : decode cL_law 648 = .ok (.iconst 1, 1) := by decide +kernel
theorem dL_law_649 : decode cL_law 649 = .ok (.iadd, 1) := by decide +kernel
theorem dL_law_650 : decode cL_law 650 = .ok (.iaload, 1) := by decide +kernel
theorem dL_law_651 : decode cL_law 651 = .ok (.aload_n 0, 1) := by decide +kernel
theorem dL_law_652 : decode cL_law 652 = .ok (.iload_n 3, 1) := by decide +kernel
theorem dL_law_653 : decode cL_law 653 = .ok (.iconst 2, 1) := by decide +kernel
theorem dL_law_654 : decode cL_law 654 = .ok (.iadd, 1) := by decide +kernel
theorem dL_law_655 : decode cL_law 655 = .ok (.iaload, 1) := by decide +kernel
theorem dL_law_656 : decode cL_law 656 = .ok (.aload_n 0, 1) := by decide +kernel
theorem dL_law_657 : decode cL_law 657 = .ok (.iload_n 3, 1) := by decide +kernel
theorem dL_law_658 : decode cL_law 658 = .ok (.iconst 3, 1) := by decide +kernel
theorem dL_law_659 : decode cL_law 659 = .ok (.iadd, 1) := by decide +kernel
theorem dL_law_660 : decode cL_law 660 = .ok (.iaload, 1) := by decide +kernel
theorem dL_law_661 : decode cL_law 661 = .ok (.invokevirtual 89, 3) := by decide +kernel
theorem dL_law_664 : decode cL_law 664 = .ok (.aload_n 2, 1) := by decide +kernel
theorem dL_law_665 : decode cL_law 665 = .ok (.aload_n 0, 1) := by decide +kernel
theorem dL_law_666 : decode cL_law 666 = .ok (.iload_n 3, 1) := by decide +kernel
theorem dL_law_667 : decode cL_law 667 = .ok (.iconst 1, 1) := by decide +kernel
theorem dL_law_668 : decode cL_law 668 = .ok (.iadd, 1) := by decide +kernel
theorem dL_law_669 : decode cL_law 669 = .ok (.iaload, 1) := by decide +kernel
theorem dL_law_670 : decode cL_law 670 = .ok (.aload_n 0, 1) := by decide +kernel
theorem dL_law_671 : decode cL_law 671 = .ok (.iload_n 3, 1) := by decide +kernel
theorem dL_law_672 : decode cL_law 672 = .ok (.iconst 2, 1) := by decide +kernel
theorem dL_law_673 : decode cL_law 673 = .ok (.iadd, 1) := by decide +kernel
theorem dL_law_674 : decode cL_law 674 = .ok (.iaload, 1) := by decide +kernel
theorem dL_law_675 : decode cL_law 675 = .ok (.aload_n 0, 1) := by decide +kernel
theorem dL_law_676 : decode cL_law 676 = .ok (.iload_n 3, 1) := by decide +kernel
theorem dL_law_677 : decode cL_law 677 = .ok (.iconst 3, 1) := by decide +kernel
theorem dL_law_678 : decode cL_law 678 = .ok (.iadd, 1) := by decide +kernel
theorem dL_law_679 : decode cL_law 679 = .ok (.iaload, 1) := by decide +kernel
theorem dL_law_680 : decode cL_law 680 = .ok (.invokevirtual 92, 3) := by decide +kernel
theorem dL_law_683 : decode cL_law 683 = .ok (.if_icmp .eq 493, 3) := by decide +kernel
theorem dL_law_686 : decode cL_law 686 = .ok (.iconst 0, 1) := by decide +kernel
theorem dL_law_687 : decode cL_law 687 = .ok (.ireturn, 1) := by decide +kernel
theorem dL_law_688 : decode cL_law 688 = .ok (.aload_n 1, 1) := by decide +kernel
theorem dL_law_689 : decode cL_law 689 = .ok (.aload_n 0, 1) := by decide +kernel
theorem dL_law_690 : decode cL_law 690 = .ok (.iload_n 3, 1) := by decide +kernel
theorem dL_law_691 : decode cL_law 691 = .ok (.iconst 1, 1) := by decide +kernel
theorem dL_law_692 : decode cL_law 692 = .ok (.iadd, 1) := by decide +kernel
theorem dL_law_693 : decode cL_law 693 = .ok (.iaload, 1) := by decide +kernel
theorem dL_law_694 : decode cL_law 694 = .ok (.aload_n 0, 1) := by decide +kernel
theorem dL_law_695 : decode cL_law 695 = .ok (.iload_n 3, 1) := by decide +kernel
theorem dL_law_696 : decode cL_law 696 = .ok (.iconst 2, 1) := by decide +kernel
theorem dL_law_697 : decode cL_law 697 = .ok (.iadd, 1) := by decide +kernel
theorem dL_law_698 : decode cL_law 698 = .ok (.iaload, 1) := by decide +kernel
theorem dL_law_699 : decode cL_law 699 = .ok (.aload_n 0, 1) := by decide +kernel
theorem dL_law_700 : decode cL_law 700 = .ok (.iload_n 3, 1) := by decide +kernel
theorem dL_law_701 : decode cL_law 701 = .ok (.iconst 3, 1) := by decide +kernel
theorem dL_law_702 : decode cL_law 702 = .ok (.iadd, 1) := by decide +kernel
theorem dL_law_703 : decode cL_law 703 = .ok (.iaload, 1) := by decide +kernel
theorem dL_law_704 : decode cL_law 704 = .ok (.aload_n 0, 1) := by decide +kernel
theorem dL_law_705 : decode cL_law 705 = .ok (.iload_n 3, 1) := by decide +kernel
theorem dL_law_706 : decode cL_law 706 = .ok (.iconst 4, 1) := by decide +kernel
theorem dL_law_707 : decode cL_law 707 = .ok (.iadd, 1) := by decide +kernel
theorem dL_law_708 : decode cL_law 708 = .ok (.iaload, 1) := by decide +kernel
theorem dL_law_709 : decode cL_law 709 = .ok (.aload_n 0, 1) := by decide +kernel
theorem dL_law_710 : decode cL_law 710 = .ok (.iload_n 3, 1) := by decide +kernel
theorem dL_law_711 : decode cL_law 711 = .ok (.iconst 5, 1) := by decide +kernel
theorem dL_law_712 : decode cL_law 712 = .ok (.iadd, 1) := by decide +kernel
theorem dL_law_713 : decode cL_law 713 = .ok (.iaload, 1) := by decide +kernel
theorem dL_law_714 : decode cL_law 714 = .ok (.aload_n 0, 1) := by decide +kernel
theorem dL_law_715 : decode cL_law 715 = .ok (.iload_n 3, 1) := by decide +kernel
theorem dL_law_716 : decode cL_law 716 = .ok (.bipush 6, 2) := by decide +kernel
theorem dL_law_718 : decode cL_law 718 = .ok (.iadd, 1) := by decide +kernel
theorem dL_law_719 : decode cL_law 719 = .ok (.iaload, 1) := by decide +kernel
theorem dL_law_720 : decode cL_law 720 = .ok (.invokevirtual 93, 3) := by decide +kernel
theorem dL_law_723 : decode cL_law 723 = .ok (.aload_n 2, 1) := by decide +kernel
theorem dL_law_724 : decode cL_law 724 = .ok (.aload_n 0, 1) := by decide +kernel
theorem dL_law_725 : decode cL_law 725 = .ok (.iload_n 3, 1) := by decide +kernel
theorem dL_law_726 : decode cL_law 726 = .ok (.iconst 1, 1) := by decide +kernel
theorem dL_law_727 : decode cL_law 727 = .ok (.iadd, 1) := by decide +kernel
theorem dL_law_728 : decode cL_law 728 = .ok (.iaload, 1) := by decide +kernel
theorem dL_law_729 : decode cL_law 729 = .ok (.aload_n 0, 1) := by decide +kernel
theorem dL_law_730 : decode cL_law 730 = .ok (.iload_n 3, 1) := by decide +kernel
theorem dL_law_731 : decode cL_law 731 = .ok (.iconst 2, 1) := by decide +kernel
theorem dL_law_732 : decode cL_law 732 = .ok (.iadd, 1) := by decide +kernel
theorem dL_law_733 : decode cL_law 733 = .ok (.iaload, 1) := by decide +kernel
theorem dL_law_734 : decode cL_law 734 = .ok (.aload_n 0, 1) := by decide +kernel
theorem dL_law_735 : decode cL_law 735 = .ok (.iload_n 3, 1) := by decide +kernel
theorem dL_law_736 : decode cL_law 736 = .ok (.iconst 3, 1) := by decide +kernel
theorem dL_law_737 : decode cL_law 737 = .ok (.iadd, 1) := by decide +kernel
theorem dL_law_738 : decode cL_law 738 = .ok (.iaload, 1) := by decide +kernel
theorem dL_law_739 : decode cL_law 739 = .ok (.aload_n 0, 1) := by decide +kernel
theorem dL_law_740 : decode cL_law 740 = .ok (.iload_n 3, 1) := by decide +kernel
theorem dL_law_741 : decode cL_law 741 = .ok (.iconst 4, 1) := by decide +kernel
theorem dL_law_742 : decode cL_law 742 = .ok (.iadd, 1) := by decide +kernel
theorem dL_law_743 : decode cL_law 743 = .ok (.iaload, 1) := by decide +kernel
theorem dL_law_744 : decode cL_law 744 = .ok (.aload_n 0, 1) := by decide +kernel
theorem dL_law_745 : decode cL_law 745 = .ok (.iload_n 3, 1) := by decide +kernel
theorem dL_law_746 : decode cL_law 746 = .ok (.iconst 5, 1) := by decide +kernel
theorem dL_law_747 : decode cL_law 747 = .ok (.iadd, 1) := by decide +kernel
theorem dL_law_748 : decode cL_law 748 = .ok (.iaload, 1) := by decide +kernel
theorem dL_law_749 : decode cL_law 749 = .ok (.aload_n 0, 1) := by decide +kernel
theorem dL_law_750 : decode cL_law 750 = .ok (.iload_n 3, 1) := by decide +kernel
theorem dL_law_751 : decode cL_law 751 = .ok (.bipush 6, 2) := by decide +kernel
theorem dL_law_753 : decode cL_law 753 = .ok (.iadd, 1) := by decide +kernel
theorem dL_law_754 : decode cL_law 754 = .ok (.iaload, 1) := by decide +kernel
theorem dL_law_755 : decode cL_law 755 = .ok (.invokevirtual 97, 3) := by decide +kernel
theorem dL_law_758 : decode cL_law 758 = .ok (.if_icmp .eq 418, 3) := by decide +kernel
theorem dL_law_761 : decode cL_law 761 = .ok (.iconst 0, 1) := by decide +kernel
theorem dL_law_762 : decode cL_law 762 = .ok (.ireturn, 1) := by decide +kernel
theorem dL_law_763 : decode cL_law 763 = .ok (.aload_n 1, 1) := by decide +kernel
theorem dL_law_764 : decode cL_law 764 = .ok (.aload_n 0, 1) := by decide +kernel
theorem dL_law_765 : decode cL_law 765 = .ok (.iload_n 3, 1) := by decide +kernel
theorem dL_law_766 : decode cL_law 766 = .ok (.iconst 1, 1) := by decide +kernel
theorem dL_law_767 : decode cL_law 767 = .ok (.iadd, 1) := by decide +kernel
theorem dL_law_768 : decode cL_law 768 = .ok (.iaload, 1) := by decide +kernel
theorem dL_law_769 : decode cL_law 769 = .ok (.invokevirtual 98, 3) := by decide +kernel
theorem dL_law_772 : decode cL_law 772 = .ok (.aload_n 2, 1) := by decide +kernel
theorem dL_law_773 : decode cL_law 773 = .ok (.aload_n 0, 1) := by decide +kernel
theorem dL_law_774 : decode cL_law 774 = .ok (.iload_n 3, 1) := by decide +kernel
theorem dL_law_775 : decode cL_law 775 = .ok (.iconst 1, 1) := by decide +kernel
theorem dL_law_776 : decode cL_law 776 = .ok (.iadd, 1) := by decide +kernel
theorem dL_law_777 : decode cL_law 777 = .ok (.iaload, 1) := by decide +kernel
theorem dL_law_778 : decode cL_law 778 = .ok (.invokevirtual 101, 3) := by decide +kernel
theorem dL_law_781 : decode cL_law 781 = .ok (.if_icmp .eq 395, 3) := by decide +kernel
theorem dL_law_784 : decode cL_law 784 = .ok (.iconst 0, 1) := by decide +kernel
theorem dL_law_785 : decode cL_law 785 = .ok (.ireturn, 1) := by decide +kernel
theorem dL_law_786 : decode cL_law 786 = .ok (.aload_n 1, 1) := by decide +kernel
theorem dL_law_787 : decode cL_law 787 = .ok (.aload_n 0, 1) := by decide +kernel
theorem dL_law_788 : decode cL_law 788 = .ok (.iload_n 3, 1) := by decide +kernel
theorem dL_law_789 : decode cL_law 789 = .ok (.iconst 1, 1) := by decide +kernel
theorem dL_law_790 : decode cL_law 790 = .ok (.iadd, 1) := by decide +kernel
theorem dL_law_791 : decode cL_law 791 = .ok (.iaload, 1) := by decide +kernel
theorem dL_law_792 : decode cL_law 792 = .ok (.invokevirtual 102, 3) := by decide +kernel
theorem dL_law_795 : decode cL_law 795 = .ok (.aload_n 2, 1) := by decide +kernel
theorem dL_law_796 : decode cL_law 796 = .ok (.aload_n 0, 1) := by decide +kernel
theorem dL_law_797 : decode cL_law 797 = .ok (.iload_n 3, 1) := by decide +kernel
theorem dL_law_798 : decode cL_law 798 = .ok (.iconst 1, 1) := by decide +kernel
theorem dL_law_799 : decode cL_law 799 = .ok (.iadd, 1) := by decide +kernel
theorem dL_law_800 : decode cL_law 800 = .ok (.iaload, 1) := by decide +kernel
theorem dL_law_801 : decode cL_law 801 = .ok (.invokevirtual 105, 3) := by decide +kernel
theorem dL_law_804 : decode cL_law 804 = .ok (.if_icmp .eq 372, 3) := by decide +kernel
theorem dL_law_807 : decode cL_law 807 = .ok (.iconst 0, 1) := by decide +kernel
theorem dL_law_808 : decode cL_law 808 = .ok (.ireturn, 1) := by decide +kernel
theorem dL_law_809 : decode cL_law 809 = .ok (.aload_n 1, 1) := by decide +kernel
theorem dL_law_810 : decode cL_law 810 = .ok (.aload_n 0, 1) := by decide +kernel
theorem dL_law_811 : decode cL_law 811 = .ok (.iload_n 3, 1) := by decide +kernel
theorem dL_law_812 : decode cL_law 812 = .ok (.iconst 1, 1) := by decide +kernel
theorem dL_law_813 : decode cL_law 813 = .ok (.iadd, 1) := by decide +kernel
theorem dL_law_814 : decode cL_law 814 = .ok (.iaload, 1) := by decide +kernel
theorem dL_law_815 : decode cL_law 815 = .ok (.invokevirtual 106, 3) := by decide +kernel
theorem dL_law_818 : decode cL_law 818 = .ok (.aload_n 2, 1) := by decide +kernel
theorem dL_law_819 : decode cL_law 819 = .ok (.aload_n 0, 1) := by decide +kernel
theorem dL_law_820 : decode cL_law 820 = .ok (.iload_n 3, 1) := by decide +kernel
theorem dL_law_821 : decode cL_law 821 = .ok (.iconst 1, 1) := by decide +kernel
theorem dL_law_822 : decode cL_law 822 = .ok (.iadd, 1) := by decide +kernel
theorem dL_law_823 : decode cL_law 823 = .ok (.iaload, 1) := by decide +kernel
theorem dL_law_824 : decode cL_law 824 = .ok (.invokevirtual 109, 3) := by decide +kernel
theorem dL_law_827 : decode cL_law 827 = .ok (.if_icmp .eq 349, 3) := by decide +kernel
theorem dL_law_830 : decode cL_law 830 = .ok (.iconst 0, 1) := by decide +kernel
theorem dL_law_831 : decode cL_law 831 = .ok (.ireturn, 1) := by decide +kernel
theorem dL_law_832 : decode cL_law 832 = .ok (.aload_n 1, 1) := by decide +kernel
theorem dL_law_833 : decode cL_law 833 = .ok (.invokevirtual 110, 3) := by decide +kernel
theorem dL_law_836 : decode cL_law 836 = .ok (.aload_n 2, 1) := by decide +kernel
theorem dL_law_837 : decode cL_law 837 = .ok (.invokevirtual 113, 3) := by decide +kernel
theorem dL_law_840 : decode cL_law 840 = .ok (.if_icmp .eq 336, 3) := by decide +kernel
theorem dL_law_843 : decode cL_law 843 = .ok (.iconst 0, 1) := by decide +kernel
theorem dL_law_844 : decode cL_law 844 = .ok (.ireturn, 1) := by decide +kernel
theorem dL_law_845 : decode cL_law 845 = .ok (.aload_n 1, 1) := by decide +kernel
theorem dL_law_846 : decode cL_law 846 = .ok (.invokevirtual 114, 3) := by decide +kernel
theorem dL_law_849 : decode cL_law 849 = .ok (.aload_n 2, 1) := by decide +kernel
theorem dL_law_850 : decode cL_law 850 = .ok (.invokevirtual 117, 3) := by decide +kernel
theorem dL_law_853 : decode cL_law 853 = .ok (.if_icmp .eq 323, 3) := by decide +kernel
theorem dL_law_856 : decode cL_law 856 = .ok (.iconst 0, 1) := by decide +kernel
theorem dL_law_857 : decode cL_law 857 = .ok (.ireturn, 1) := by decide +kernel
theorem dL_law_858 : decode cL_law 858 = .ok (.aload_n 1, 1) := by decide +kernel
theorem dL_law_859 : decode cL_law 859 = .ok (.aload_n 0, 1) := by decide +kernel
theorem dL_law_860 : decode cL_law 860 = .ok (.iload_n 3, 1) := by decide +kernel
theorem dL_law_861 : decode cL_law 861 = .ok (.iconst 1, 1) := by decide +kernel
theorem dL_law_862 : decode cL_law 862 = .ok (.iadd, 1) := by decide +kernel
theorem dL_law_863 : decode cL_law 863 = .ok (.iaload, 1) := by decide +kernel
theorem dL_law_864 : decode cL_law 864 = .ok (.aload_n 0, 1) := by decide +kernel
theorem dL_law_865 : decode cL_law 865 = .ok (.iload_n 3, 1) := by decide +kernel
theorem dL_law_866 : decode cL_law 866 = .ok (.iconst 2, 1) := by decide +kernel
theorem dL_law_867 : decode cL_law 867 = .ok (.iadd, 1) := by decide +kernel
theorem dL_law_868 : decode cL_law 868 = .ok (.iaload, 1) := by decide +kernel
theorem dL_law_869 : decode cL_law 869 = .ok (.aload_n 0, 1) := by decide +kernel
theorem dL_law_870 : decode cL_law 870 = .ok (.iload_n 3, 1) := by decide +kernel
theorem dL_law_871 : decode cL_law 871 = .ok (.iconst 3, 1) := by decide +kernel
theorem dL_law_872 : decode cL_law 872 = .ok (.iadd, 1) := by decide +kernel
theorem dL_law_873 : decode cL_law 873 = .ok (.iaload, 1) := by decide +kernel
theorem dL_law_874 : decode cL_law 874 = .ok (.aload_n 0, 1) := by decide +kernel
theorem dL_law_875 : decode cL_law 875 = .ok (.iload_n 3, 1) := by decide +kernel
theorem dL_law_876 : decode cL_law 876 = .ok (.iconst 4, 1) := by decide +kernel
theorem dL_law_877 : decode cL_law 877 = .ok (.iadd, 1) := by decide +kernel
theorem dL_law_878 : decode cL_law 878 = .ok (.iaload, 1) := by decide +kernel
theorem dL_law_879 : decode cL_law 879 = .ok (.invokevirtual 118, 3) := by decide +kernel
theorem dL_law_882 : decode cL_law 882 = .ok (.aload_n 2, 1) := by decide +kernel
theorem dL_law_883 : decode cL_law 883 = .ok (.aload_n 0, 1) := by decide +kernel
theorem dL_law_884 : decode cL_law 884 = .ok (.iload_n 3, 1) := by decide +kernel
theorem dL_law_885 : decode cL_law 885 = .ok (.iconst 1, 1) := by decide +kernel
theorem dL_law_886 : decode cL_law 886 = .ok (.iadd, 1) := by decide +kernel
theorem dL_law_887 : decode cL_law 887 = .ok (.iaload, 1) := by decide +kernel
theorem dL_law_888 : decode cL_law 888 = .ok (.aload_n 0, 1) := by decide +kernel
theorem dL_law_889 : decode cL_law 889 = .ok (.iload_n 3, 1) := by decide +kernel
theorem dL_law_890 : decode cL_law 890 = .ok (.iconst 2, 1) := by decide +kernel
theorem dL_law_891 : decode cL_law 891 = .ok (.iadd, 1) := by decide +kernel
theorem dL_law_892 : decode cL_law 892 = .ok (.iaload, 1) := by decide +kernel
theorem dL_law_893 : decode cL_law 893 = .ok (.aload_n 0, 1) := by decide +kernel
theorem dL_law_894 : decode cL_law 894 = .ok (.iload_n 3, 1) := by decide +kernel
theorem dL_law_895 : decode cL_law 895 = .ok (.iconst 3, 1) := by decide +kernel
theorem dL_law_896 : decode cL_law 896 = .ok (.iadd, 1) := by decide +kernel
theorem dL_law_897 : decode cL_law 897 = .ok (.iaload, 1) := by decide +kernel
theorem dL_law_898 : decode cL_law 898 = .ok (.aload_n 0, 1) := by decide +kernel
theorem dL_law_899 : decode cL_law 899 = .ok (.iload_n 3, 1) := by decide +kernel
theorem dL_law_900 : decode cL_law 900 = .ok (.iconst 4, 1) := by decide +kernel
theorem dL_law_901 : decode cL_law 901 = .ok (.iadd, 1) := by decide +kernel
theorem dL_law_902 : decode cL_law 902 = .ok (.iaload, 1) := by decide +kernel
theorem dL_law_903 : decode cL_law 903 = .ok (.invokevirtual 122, 3) := by decide +kernel
theorem dL_law_906 : decode cL_law 906 = .ok (.if_icmp .eq 270, 3) := by decide +kernel
theorem dL_law_909 : decode cL_law 909 = .ok (.iconst 0, 1) := by decide +kernel
theorem dL_law_910 : decode cL_law 910 = .ok (.ireturn, 1) := by decide +kernel
theorem dL_law_911 : decode cL_law 911 = .ok (.aload_n 1, 1) := by decide +kernel
theorem dL_law_912 : decode cL_law 912 = .ok (.aload_n 0, 1) := by decide +kernel
theorem dL_law_913 : decode cL_law 913 = .ok (.iload_n 3, 1) := by decide +kernel
theorem dL_law_914 : decode cL_law 914 = .ok (.iconst 1, 1) := by decide +kernel
theorem dL_law_915 : decode cL_law 915 = .ok (.iadd, 1) := by decide +kernel
theorem dL_law_916 : decode cL_law 916 = .ok (.iaload, 1) := by decide +kernel
theorem dL_law_917 : decode cL_law 917 = .ok (.aload_n 0, 1) := by decide +kernel
theorem dL_law_918 : decode cL_law 918 = .ok (.iload_n 3, 1) := by decide +kernel
theorem dL_law_919 : decode cL_law 919 = .ok (.iconst 2, 1) := by decide +kernel
theorem dL_law_920 : decode cL_law 920 = .ok (.iadd, 1) := by decide +kernel
theorem dL_law_921 : decode cL_law 921 = .ok (.iaload, 1) := by decide +kernel
theorem dL_law_922 : decode cL_law 922 = .ok (.aload_n 0, 1) := by decide +kernel
theorem dL_law_923 : decode cL_law 923 = .ok (.iload_n 3, 1) := by decide +kernel
theorem dL_law_924 : decode cL_law 924 = .ok (.iconst 3, 1) := by decide +kernel
theorem dL_law_925 : decode cL_law 925 = .ok (.iadd, 1) := by decide +kernel
theorem dL_law_926 : decode cL_law 926 = .ok (.iaload, 1) := by decide +kernel
theorem dL_law_927 : decode cL_law 927 = .ok (.aload_n 0, 1) := by decide +kernel
theorem dL_law_928 : decode cL_law 928 = .ok (.iload_n 3, 1) := by decide +kernel
theorem dL_law_929 : decode cL_law 929 = .ok (.iconst 4, 1) := by decide +kernel
theorem dL_law_930 : decode cL_law 930 = .ok (.iadd, 1) := by decide +kernel
theorem dL_law_931 : decode cL_law 931 = .ok (.iaload, 1) := by decide +kernel
theorem dL_law_932 : decode cL_law 932 = .ok (.invokevirtual 123, 3) := by decide +kernel
theorem dL_law_935 : decode cL_law 935 = .ok (.aload_n 2, 1) := by decide +kernel
theorem dL_law_936 : decode cL_law 936 = .ok (.aload_n 0, 1) := by decide +kernel
theorem dL_law_937 : decode cL_law 937 = .ok (.iload_n 3, 1) := by decide +kernel
theorem dL_law_938 : decode cL_law 938 = .ok (.iconst 1, 1) := by decide +kernel
theorem dL_law_939 : decode cL_law 939 = .ok (.iadd, 1) := by decide +kernel
theorem dL_law_940 : decode cL_law 940 = .ok (.iaload, 1) := by decide +kernel
theorem dL_law_941 : decode cL_law 941 = .ok (.aload_n 0, 1) := by decide +kernel
theorem dL_law_942 : decode cL_law 942 = .ok (.iload_n 3, 1) := by decide +kernel
theorem dL_law_943 : decode cL_law 943 = .ok (.iconst 2, 1) := by decide +kernel
theorem dL_law_944 : decode cL_law 944 = .ok (.iadd, 1) := by decide +kernel
theorem dL_law_945 : decode cL_law 945 = .ok (.iaload, 1) := by decide +kernel
theorem dL_law_946 : decode cL_law 946 = .ok (.aload_n 0, 1) := by decide +kernel
theorem dL_law_947 : decode cL_law 947 = .ok (.iload_n 3, 1) := by decide +kernel
theorem dL_law_948 : decode cL_law 948 = .ok (.iconst 3, 1) := by decide +kernel
theorem dL_law_949 : decode cL_law 949 = .ok (.iadd, 1) := by decide +kernel
theorem dL_law_950 : decode cL_law 950 = .ok (.iaload, 1) := by decide +kernel
theorem dL_law_951 : decode cL_law 951 = .ok (.aload_n 0, 1) := by decide +kernel
theorem dL_law_952 : decode cL_law 952 = .ok (.iload_n 3, 1) := by decide +kernel
theorem dL_law_953 : decode cL_law 953 = .ok (.iconst 4, 1) := by decide +kernel
theorem dL_law_954 : decode cL_law 954 = .ok (.iadd, 1) := by decide +kernel
theorem dL_law_955 : decode cL_law 955 = .ok (.iaload, 1) := by decide +kernel
theorem dL_law_956 : decode cL_law 956 = .ok (.invokevirtual 126, 3) := by decide +kernel
theorem dL_law_959 : decode cL_law 959 = .ok (.if_icmp .eq 217, 3) := by decide +kernel
theorem dL_law_962 : decode cL_law 962 = .ok (.iconst 0, 1) := by decide +kernel
theorem dL_law_963 : decode cL_law 963 = .ok (.ireturn, 1) := by decide +kernel
theorem dL_law_964 : decode cL_law 964 = .ok (.aload_n 1, 1) := by decide +kernel
theorem dL_law_965 : decode cL_law 965 = .ok (.aload_n 0, 1) := by decide +kernel
theorem dL_law_966 : decode cL_law 966 = .ok (.iload_n 3, 1) := by decide +kernel
theorem dL_law_967 : decode cL_law 967 = .ok (.iconst 1, 1) := by decide +kernel
theorem dL_law_968 : decode cL_law 968 = .ok (.iadd, 1) := by decide +kernel
theorem dL_law_969 : decode cL_law 969 = .ok (.iaload, 1) := by decide +kernel
theorem dL_law_970 : decode cL_law 970 = .ok (.aload_n 0, 1) := by decide +kernel
theorem dL_law_971 : decode cL_law 971 = .ok (.iload_n 3, 1) := by decide +kernel
theorem dL_law_972 : decode cL_law 972 = .ok (.iconst 2, 1) := by decide +kernel
theorem dL_law_973 : decode cL_law 973 = .ok (.iadd, 1) := by decide +kernel
theorem dL_law_974 : decode cL_law 974 = .ok (.iaload, 1) := by decide +kernel
theorem dL_law_975 : decode cL_law 975 = .ok (.aload_n 0, 1) := by decide +kernel
theorem dL_law_976 : decode cL_law 976 = .ok (.iload_n 3, 1) := by decide +kernel
theorem dL_law_977 : decode cL_law 977 = .ok (.iconst 3, 1) := by decide +kernel
theorem dL_law_978 : decode cL_law 978 = .ok (.iadd, 1) := by decide +kernel
theorem dL_law_979 : decode cL_law 979 = .ok (.iaload, 1) := by decide +kernel
theorem dL_law_980 : decode cL_law 980 = .ok (.invokevirtual 127, 3) := by decide +kernel
theorem dL_law_983 : decode cL_law 983 = .ok (.aload_n 2, 1) := by decide +kernel
theorem dL_law_984 : decode cL_law 984 = .ok (.aload_n 0, 1) := by decide +kernel
theorem dL_law_985 : decode cL_law 985 = .ok (.iload_n 3, 1) := by decide +kernel
theorem dL_law_986 : decode cL_law 986 = .ok (.iconst 1, 1) := by decide +kernel
theorem dL_law_987 : decode cL_law 987 = .ok (.iadd, 1) := by decide +kernel
theorem dL_law_988 : decode cL_law 988 = .ok (.iaload, 1) := by decide +kernel
theorem dL_law_989 : decode cL_law 989 = .ok (.aload_n 0, 1) := by decide +kernel
theorem dL_law_990 : decode cL_law 990 = .ok (.iload_n 3, 1) := by decide +kernel
theorem dL_law_991 : decode cL_law 991 = .ok (.iconst 2, 1) := by decide +kernel
theorem dL_law_992 : decode cL_law 992 = .ok (.iadd, 1) := by decide +kernel
theorem dL_law_993 : decode cL_law 993 = .ok (.iaload, 1) := by decide +kernel
theorem dL_law_994 : decode cL_law 994 = .ok (.aload_n 0, 1) := by decide +kernel
theorem dL_law_995 : decode cL_law 995 = .ok (.iload_n 3, 1) := by decide +kernel
theorem dL_law_996 : decode cL_law 996 = .ok (.iconst 3, 1) := by decide +kernel
theorem dL_law_997 : decode cL_law 997 = .ok (.iadd, 1) := by decide +kernel
theorem dL_law_998 : decode cL_law 998 = .ok (.iaload, 1) := by decide +kernel
theorem dL_law_999 : decode cL_law 999 = .ok (.invokevirtual 130, 3) := by decide +kernel
theorem dL_law_1002 : decode cL_law 1002 = .ok (.if_icmp .eq 174, 3) := by decide +kernel
theorem dL_law_1005 : decode cL_law 1005 = .ok (.iconst 0, 1) := by decide +kernel
theorem dL_law_1006 : decode cL_law 1006 = .ok (.ireturn, 1) := by decide +kernel
theorem dL_law_1007 : decode cL_law 1007 = .ok (.aload_n 1, 1) := by decide +kernel
theorem dL_law_1008 : decode cL_law 1008 = .ok (.aload_n 0, 1) := by decide +kernel
theorem dL_law_1009 : decode cL_law 1009 = .ok (.iload_n 3, 1) := by decide +kernel
theorem dL_law_1010 : decode cL_law 1010 = .ok (.iconst 1, 1) := by decide +kernel
theorem dL_law_1011 : decode cL_law 1011 = .ok (.iadd, 1) := by decide +kernel
theorem dL_law_1012 : decode cL_law 1012 = .ok (.iaload, 1) := by decide +kernel
theorem dL_law_1013 : decode cL_law 1013 = .ok (.invokevirtual 131, 3) := by decide +kernel
theorem dL_law_1016 : decode cL_law 1016 = .ok (.aload_n 2, 1) := by decide +kernel
theorem dL_law_1017 : decode cL_law 1017 = .ok (.aload_n 0, 1) := by decide +kernel
theorem dL_law_1018 : decode cL_law 1018 = .ok (.iload_n 3, 1) := by decide +kernel
theorem dL_law_1019 : decode cL_law 1019 = .ok (.iconst 1, 1) := by decide +kernel
theorem dL_law_1020 : decode cL_law 1020 = .ok (.iadd, 1) := by decide +kernel
theorem dL_law_1021 : decode cL_law 1021 = .ok (.iaload, 1) := by decide +kernel
theorem dL_law_1022 : decode cL_law 1022 = .ok (.invokevirtual 134, 3) := by decide +kernel
theorem dL_law_1025 : decode cL_law 1025 = .ok (.if_icmp .eq 151, 3) := by decide +kernel
theorem dL_law_1028 : decode cL_law 1028 = .ok (.iconst 0, 1) := by decide +kernel
theorem dL_law_1029 : decode cL_law 1029 = .ok (.ireturn, 1) := by decide +kernel
theorem dL_law_1030 : decode cL_law 1030 = .ok (.aload_n 1, 1) := by decide +kernel
theorem dL_law_1031 : decode cL_law 1031 = .ok (.aload_n 0, 1) := by decide +kernel
theorem dL_law_1032 : decode cL_law 1032 = .ok (.iload_n 3, 1) := by decide +kernel
theorem dL_law_1033 : decode cL_law 1033 = .ok (.iconst 1, 1) := by decide +kernel
theorem dL_law_1034 : decode cL_law 1034 = .ok (.iadd, 1) := by decide +kernel
theorem dL_law_1035 : decode cL_law 1035 = .ok (.iaload, 1) := by decide +kernel
theorem dL_law_1036 : decode cL_law 1036 = .ok (.aload_n 0, 1) := by decide +kernel
theorem dL_law_1037 : decode cL_law 1037 = .ok (.iload_n 3, 1) := by decide +kernel
theorem dL_law_1038 : decode cL_law 1038 = .ok (.iconst 2, 1) := by decide +kernel
theorem dL_law_1039 : decode cL_law 1039 = .ok (.iadd, 1) := by decide +kernel
theorem dL_law_1040 : decode cL_law 1040 = .ok (.iaload, 1) := by decide +kernel
theorem dL_law_1041 : decode cL_law 1041 = .ok (.aload_n 0, 1) := by decide +kernel
theorem dL_law_1042 : decode cL_law 1042 = .ok (.iload_n 3, 1) := by decide +kernel
theorem dL_law_1043 : decode cL_law 1043 = .ok (.iconst 3, 1) := by decide +kernel
theorem dL_law_1044 : decode cL_law 1044 = .ok (.iadd, 1) := by decide +kernel
theorem dL_law_1045 : decode cL_law 1045 = .ok (.iaload, 1) := by decide +kernel
theorem dL_law_1046 : decode cL_law 1046 = .ok (.aload_n 0, 1) := by decide +kernel
theorem dL_law_1047 : decode cL_law 1047 = .ok (.iload_n 3, 1) := by decide +kernel
theorem dL_law_1048 : decode cL_law 1048 = .ok (.iconst 4, 1) := by decide +kernel
theorem dL_law_1049 : decode cL_law 1049 = .ok (.iadd, 1) := by decide +kernel
theorem dL_law_1050 : decode cL_law 1050 = .ok (.iaload, 1) := by decide +kernel
theorem dL_law_1051 : decode cL_law 1051 = .ok (.i2l, 1) := by decide +kernel
theorem dL_law_1052 : decode cL_law 1052 = .ok (.bipush 32, 2) := by decide +kernel
theorem dL_law_1054 : decode cL_law 1054 = .ok (.lshl, 1) := by decide +kernel
theorem dL_law_1055 : decode cL_law 1055 = .ok (.aload_n 0, 1) := by decide +kernel
theorem dL_law_1056 : decode cL_law 1056 = .ok (.iload_n 3, 1) := by decide +kernel
theorem dL_law_1057 : decode cL_law 1057 = .ok (.iconst 5, 1) := by decide +kernel
theorem dL_law_1058 : decode cL_law 1058 = .ok (.iadd, 1) := by decide +kernel
theorem dL_law_1059 : decode cL_law 1059 = .ok (.iaload, 1) := by decide +kernel
theorem dL_law_1060 : decode cL_law 1060 = .ok (.i2l, 1) := by decide +kernel
theorem dL_law_1061 : decode cL_law 1061 = .ok (.ldc2_w 37, 3) := by decide +kernel
theorem dL_law_1064 : decode cL_law 1064 = .ok (.land, 1) := by decide +kernel
theorem dL_law_1065 : decode cL_law 1065 = .ok (.lor, 1) := by decide +kernel
theorem dL_law_1066 : decode cL_law 1066 = .ok (.invokevirtual 135, 3) := by decide +kernel
theorem dL_law_1069 : decode cL_law 1069 = .ok (.aload_n 2, 1) := by decide +kernel
theorem dL_law_1070 : decode cL_law 1070 = .ok (.aload_n 0, 1) := by decide +kernel
theorem dL_law_1071 : decode cL_law 1071 = .ok (.iload_n 3, 1) := by decide +kernel
theorem dL_law_1072 : decode cL_law 1072 = .ok (.iconst 1, 1) := by decide +kernel
theorem dL_law_1073 : decode cL_law 1073 = .ok (.iadd, 1) := by decide +kernel
theorem dL_law_1074 : decode cL_law 1074 = .ok (.iaload, 1) := by decide +kernel
theorem dL_law_1075 : decode cL_law 1075 = .ok (.aload_n 0, 1) := by decide +kernel
theorem dL_law_1076 : decode cL_law 1076 = .ok (.iload_n 3, 1) := by decide +kernel
theorem dL_law_1077 : decode cL_law 1077 = .ok (.iconst 2, 1) := by decide +kernel
theorem dL_law_1078 : decode cL_law 1078 = .ok (.iadd, 1) := by decide +kernel
theorem dL_law_1079 : decode cL_law 1079 = .ok (.iaload, 1) := by decide +kernel
theorem dL_law_1080 : decode cL_law 1080 = .ok (.aload_n 0, 1) := by decide +kernel
theorem dL_law_1081 : decode cL_law 1081 = .ok (.iload_n 3, 1) := by decide +kernel
theorem dL_law_1082 : decode cL_law 1082 = .ok (.iconst 3, 1) := by decide +kernel
theorem dL_law_1083 : decode cL_law 1083 = .ok (.iadd, 1) := by decide +kernel
theorem dL_law_1084 : decode cL_law 1084 = .ok (.iaload, 1) := by decide +kernel
theorem dL_law_1085 : decode cL_law 1085 = .ok (.aload_n 0, 1) := by decide +kernel
theorem dL_law_1086 : decode cL_law 1086 = .ok (.iload_n 3, 1) := by decide +kernel
theorem dL_law_1087 : decode cL_law 1087 = .ok (.iconst 4, 1) := by decide +kernel
theorem dL_law_1088 : decode cL_law 1088 = .ok (.iadd, 1) := by decide +kernel
theorem dL_law_1089 : decode cL_law 1089 = .ok (.iaload, 1) := by decide +kernel
theorem dL_law_1090 : decode cL_law 1090 = .ok (.i2l, 1) := by decide +kernel
theorem dL_law_1091 : decode cL_law 1091 = .ok (.bipush 32, 2) := by decide +kernel
theorem dL_law_1093 : decode cL_law 1093 = .ok (.lshl, 1) := by decide +kernel
theorem dL_law_1094 : decode cL_law 1094 = .ok (.aload_n 0, 1) := by decide +kernel
theorem dL_law_1095 : decode cL_law 1095 = .ok (.iload_n 3, 1) := by decide +kernel
theorem dL_law_1096 : decode cL_law 1096 = .ok (.iconst 5, 1) := by decide +kernel
theorem dL_law_1097 : decode cL_law 1097 = .ok (.iadd, 1) := by decide +kernel
theorem dL_law_1098 : decode cL_law 1098 = .ok (.iaload, 1) := by decide +kernel
theorem dL_law_1099 : decode cL_law 1099 = .ok (.i2l, 1) := by decide +kernel
theorem dL_law_1100 : decode cL_law 1100 = .ok (.ldc2_w 37, 3) := by decide +kernel
theorem dL_law_1103 : decode cL_law 1103 = .ok (.land, 1) := by decide +kernel
theorem dL_law_1104 : decode cL_law 1104 = .ok (.lor, 1) := by decide +kernel
theorem dL_law_1105 : decode cL_law 1105 = .ok (.invokevirtual 139, 3) := by decide +kernel
theorem dL_law_1108 : decode cL_law 1108 = .ok (.if_icmp .eq 68, 3) := by decide +kernel
theorem dL_law_1111 : decode cL_law 1111 = .ok (.iconst 0, 1) := by decide +kernel
theorem dL_law_1112 : decode cL_law 1112 = .ok (.ireturn, 1) := by decide +kernel
theorem dL_law_1113 : decode cL_law 1113 = .ok (.aload_n 1, 1) := by decide +kernel
theorem dL_law_1114 : decode cL_law 1114 = .ok (.aload_n 0, 1) := by decide +kernel
theorem dL_law_1115 : decode cL_law 1115 = .ok (.iload_n 3, 1) := by decide +kernel
theorem dL_law_1116 : decode cL_law 1116 = .ok (.iconst 1, 1) := by decide +kernel
theorem dL_law_1117 : decode cL_law 1117 = .ok (.iadd, 1) := by decide +kernel
theorem dL_law_1118 : decode cL_law 1118 = .ok (.iaload, 1) := by decide +kernel
theorem dL_law_1119 : decode cL_law 1119 = .ok (.aload_n 0, 1) := by decide +kernel
theorem dL_law_1120 : decode cL_law 1120 = .ok (.iload_n 3, 1) := by decide +kernel
theorem dL_law_1121 : decode cL_law 1121 = .ok (.iconst 2, 1) := by decide +kernel
theorem dL_law_1122 : decode cL_law 1122 = .ok (.iadd, 1) := by decide +kernel
theorem dL_law_1123 : decode cL_law 1123 = .ok (.iaload, 1) := by decide +kernel
theorem dL_law_1124 : decode cL_law 1124 = .ok (.aload_n 0, 1) := by decide +kernel
theorem dL_law_1125 : decode cL_law 1125 = .ok (.iload_n 3, 1) := by decide +kernel
theorem dL_law_1126 : decode cL_law 1126 = .ok (.iconst 3, 1) := by decide +kernel
theorem dL_law_1127 : decode cL_law 1127 = .ok (.iadd, 1) := by decide +kernel
theorem dL_law_1128 : decode cL_law 1128 = .ok (.iaload, 1) := by decide +kernel
theorem dL_law_1129 : decode cL_law 1129 = .ok (.aload_n 0, 1) := by decide +kernel
theorem dL_law_1130 : decode cL_law 1130 = .ok (.iload_n 3, 1) := by decide +kernel
theorem dL_law_1131 : decode cL_law 1131 = .ok (.iconst 4, 1) := by decide +kernel
theorem dL_law_1132 : decode cL_law 1132 = .ok (.iadd, 1) := by decide +kernel
theorem dL_law_1133 : decode cL_law 1133 = .ok (.iaload, 1) := by decide +kernel
theorem dL_law_1134 : decode cL_law 1134 = .ok (.aload_n 0, 1) := by decide +kernel
theorem dL_law_1135 : decode cL_law 1135 = .ok (.iload_n 3, 1) := by decide +kernel
theorem dL_law_1136 : decode cL_law 1136 = .ok (.iconst 5, 1) := by decide +kernel
theorem dL_law_1137 : decode cL_law 1137 = .ok (.iadd, 1) := by decide +kernel
theorem dL_law_1138 : decode cL_law 1138 = .ok (.iaload, 1) := by decide +kernel
theorem dL_law_1139 : decode cL_law 1139 = .ok (.invokevirtual 140, 3) := by decide +kernel
theorem dL_law_1142 : decode cL_law 1142 = .ok (.aload_n 2, 1) := by decide +kernel
theorem dL_law_1143 : decode cL_law 1143 = .ok (.aload_n 0, 1) := by decide +kernel
theorem dL_law_1144 : decode cL_law 1144 = .ok (.iload_n 3, 1) := by decide +kernel
theorem dL_law_1145 : decode cL_law 1145 = .ok (.iconst 1, 1) := by decide +kernel
theorem dL_law_1146 : decode cL_law 1146 = .ok (.iadd, 1) := by decide +kernel
theorem dL_law_1147 : decode cL_law 1147 = .ok (.iaload, 1) := by decide +kernel
theorem dL_law_1148 : decode cL_law 1148 = .ok (.aload_n 0, 1) := by decide +kernel
theorem dL_law_1149 : decode cL_law 1149 = .ok (.iload_n 3, 1) := by decide +kernel
theorem dL_law_1150 : decode cL_law 1150 = .ok (.iconst 2, 1) := by decide +kernel
theorem dL_law_1151 : decode cL_law 1151 = .ok (.iadd, 1) := by decide +kernel
theorem dL_law_1152 : decode cL_law 1152 = .ok (.iaload, 1) := by decide +kernel
theorem dL_law_1153 : decode cL_law 1153 = .ok (.aload_n 0, 1) := by decide +kernel
theorem dL_law_1154 : decode cL_law 1154 = .ok (.iload_n 3, 1) := by decide +kernel
theorem dL_law_1155 : decode cL_law 1155 = .ok (.iconst 3, 1) := by decide +kernel
theorem dL_law_1156 : decode cL_law 1156 = .ok (.iadd, 1) := by decide +kernel
theorem dL_law_1157 : decode cL_law 1157 = .ok (.iaload, 1) := by decide +kernel
theorem dL_law_1158 : decode cL_law 1158 = .ok (.aload_n 0, 1) := by decide +kernel
theorem dL_law_1159 : decode cL_law 1159 = .ok (.iload_n 3, 1) := by decide +kernel
theorem dL_law_1160 : decode cL_law 1160 = .ok (.iconst 4, 1) := by decide +kernel
theorem dL_law_1161 : decode cL_law 1161 = .ok (.iadd, 1) := by decide +kernel
theorem dL_law_1162 : decode cL_law 1162 = .ok (.iaload, 1) := by decide +kernel
theorem dL_law_1163 : decode cL_law 1163 = .ok (.aload_n 0, 1) := by decide +kernel
theorem dL_law_1164 : decode cL_law 1164 = .ok (.iload_n 3, 1) := by decide +kernel
theorem dL_law_1165 : decode cL_law 1165 = .ok (.iconst 5, 1) := by decide +kernel
theorem dL_law_1166 : decode cL_law 1166 = .ok (.iadd, 1) := by decide +kernel
theorem dL_law_1167 : decode cL_law 1167 = .ok (.iaload, 1) := by decide +kernel
theorem dL_law_1168 : decode cL_law 1168 = .ok (.invokevirtual 144, 3) := by decide +kernel
theorem dL_law_1171 : decode cL_law 1171 = .ok (.if_icmp .eq 5, 3) := by decide +kernel
theorem dL_law_1174 : decode cL_law 1174 = .ok (.iconst 0, 1) := by decide +kernel
theorem dL_law_1175 : decode cL_law 1175 = .ok (.ireturn, 1) := by decide +kernel
theorem dL_law_1176 : decode cL_law 1176 = .ok (.iinc 3 7, 3) := by decide +kernel
theorem dL_law_1179 : decode cL_law 1179 = .ok (.goto (-1161), 3) := by decide +kernel
theorem dL_law_1182 : decode cL_law 1182 = .ok (.iconst 1, 1) := by decide +kernel
theorem dL_law_1183 : decode cL_law 1183 = .ok (.ireturn, 1) := by decide +kernel
end
