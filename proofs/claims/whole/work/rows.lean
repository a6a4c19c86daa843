section
-- ===== PART A: goes FIRST, ahead of the names: the tables' words, and 'selects' of the private methods out of them =====
/-- a private method of a class that the tables say can be made, by its rows of tables_1 -/
def lw_okq (q : MethodName × Nat) : Prop := (q.1.cls ≠ "java/lang/invoke/MethodHandle" ∧ q.1.cls ≠ "java/lang/invoke/VarHandle") ∧ Cond.instantiable q.1.cls q.2 ∈ tables_1 ∧ Cond.privateMethod q.1 ∈ tables_1 ∧ Cond.instanceMethod q.1 ∈ tables_1
theorem lw_p0 : lw_okq (⟨"WellMoods$Folk", "add", "(III)I"⟩, 5) := ⟨⟨by decide +kernel, by decide +kernel⟩, List.mem_of_getElem? (i := 26) (by decide +kernel), List.mem_of_getElem? (i := 227) (by decide +kernel), List.mem_of_getElem? (i := 228) (by decide +kernel)⟩
theorem lw_p1 : lw_okq (⟨"WellMoods$Folk", "has", "(I)Z"⟩, 5) := ⟨⟨by decide +kernel, by decide +kernel⟩, List.mem_of_getElem? (i := 26) (by decide +kernel), List.mem_of_getElem? (i := 235) (by decide +kernel), List.mem_of_getElem? (i := 236) (by decide +kernel)⟩
theorem lw_p2 : lw_okq (⟨"WellMoods$Folk", "areFoes", "(II)Z"⟩, 5) := ⟨⟨by decide +kernel, by decide +kernel⟩, List.mem_of_getElem? (i := 26) (by decide +kernel), List.mem_of_getElem? (i := 244) (by decide +kernel), List.mem_of_getElem? (i := 245) (by decide +kernel)⟩
theorem lw_p3 : lw_okq (⟨"WellMoods$Folk", "makeFoes", "(IIZ)V"⟩, 5) := ⟨⟨by decide +kernel, by decide +kernel⟩, List.mem_of_getElem? (i := 26) (by decide +kernel), List.mem_of_getElem? (i := 249) (by decide +kernel), List.mem_of_getElem? (i := 250) (by decide +kernel)⟩
theorem lw_p4 : lw_okq (⟨"WellMoods$Tape", "append", "(I)V"⟩, 3) := ⟨⟨by decide +kernel, by decide +kernel⟩, List.mem_of_getElem? (i := 112) (by decide +kernel), List.mem_of_getElem? (i := 274) (by decide +kernel), List.mem_of_getElem? (i := 275) (by decide +kernel)⟩
theorem lw_p5 : lw_okq (⟨"WellMoods$Tape", "readFolk", "(LWellMoods$Folk;)I"⟩, 3) := ⟨⟨by decide +kernel, by decide +kernel⟩, List.mem_of_getElem? (i := 112) (by decide +kernel), List.mem_of_getElem? (i := 282) (by decide +kernel), List.mem_of_getElem? (i := 283) (by decide +kernel)⟩
theorem lw_p6 : lw_okq (⟨"WellMoods$Tape", "readOne", "(LWellMoods$Folk;)Z"⟩, 3) := ⟨⟨by decide +kernel, by decide +kernel⟩, List.mem_of_getElem? (i := 112) (by decide +kernel), List.mem_of_getElem? (i := 286) (by decide +kernel), List.mem_of_getElem? (i := 287) (by decide +kernel)⟩
theorem lw_p7 : lw_okq (⟨"WellMoods$Tape", "next", "()I"⟩, 3) := ⟨⟨by decide +kernel, by decide +kernel⟩, List.mem_of_getElem? (i := 112) (by decide +kernel), List.mem_of_getElem? (i := 290) (by decide +kernel), List.mem_of_getElem? (i := 291) (by decide +kernel)⟩
theorem lw_p8 : lw_okq (⟨"WellMoods$Tape", "readDigit", "(II)I"⟩, 3) := ⟨⟨by decide +kernel, by decide +kernel⟩, List.mem_of_getElem? (i := 112) (by decide +kernel), List.mem_of_getElem? (i := 297) (by decide +kernel), List.mem_of_getElem? (i := 298) (by decide +kernel)⟩
theorem lw_p9 : lw_okq (⟨"WellMoods$Tape", "fault", "()I"⟩, 3) := ⟨⟨by decide +kernel, by decide +kernel⟩, List.mem_of_getElem? (i := 112) (by decide +kernel), List.mem_of_getElem? (i := 303) (by decide +kernel), List.mem_of_getElem? (i := 304) (by decide +kernel)⟩
theorem lw_p10 : lw_okq (⟨"WellMoods$Well", "settle", "(LWellMoods$Folk;)V"⟩, 12) := ⟨⟨by decide +kernel, by decide +kernel⟩, List.mem_of_getElem? (i := 20) (by decide +kernel), List.mem_of_getElem? (i := 307) (by decide +kernel), List.mem_of_getElem? (i := 308) (by decide +kernel)⟩
theorem lw_p11 : lw_okq (⟨"WellMoods$Folk", "become", "(LWellMoods$Folk;)V"⟩, 5) := ⟨⟨by decide +kernel, by decide +kernel⟩, List.mem_of_getElem? (i := 26) (by decide +kernel), List.mem_of_getElem? (i := 311) (by decide +kernel), List.mem_of_getElem? (i := 312) (by decide +kernel)⟩
theorem lw_p12 : lw_okq (⟨"WellMoods$Tape", "readPlan", "([ILWellMoods$Folk;)I"⟩, 3) := ⟨⟨by decide +kernel, by decide +kernel⟩, List.mem_of_getElem? (i := 112) (by decide +kernel), List.mem_of_getElem? (i := 319) (by decide +kernel), List.mem_of_getElem? (i := 320) (by decide +kernel)⟩
theorem lw_p13 : lw_okq (⟨"WellMoods$Well", "adopt", "([II)V"⟩, 12) := ⟨⟨by decide +kernel, by decide +kernel⟩, List.mem_of_getElem? (i := 20) (by decide +kernel), List.mem_of_getElem? (i := 324) (by decide +kernel), List.mem_of_getElem? (i := 325) (by decide +kernel)⟩
theorem lw_p14 : lw_okq (⟨"WellMoods$Well", "mayDraw", "(I)Z"⟩, 12) := ⟨⟨by decide +kernel, by decide +kernel⟩, List.mem_of_getElem? (i := 20) (by decide +kernel), List.mem_of_getElem? (i := 338) (by decide +kernel), List.mem_of_getElem? (i := 339) (by decide +kernel)⟩
theorem lw_p15 : lw_okq (⟨"WellMoods$Well", "hasHours", "(I)Z"⟩, 12) := ⟨⟨by decide +kernel, by decide +kernel⟩, List.mem_of_getElem? (i := 20) (by decide +kernel), List.mem_of_getElem? (i := 347) (by decide +kernel), List.mem_of_getElem? (i := 348) (by decide +kernel)⟩
def lw_privs_1 : List (MethodName × Nat) := [(⟨"WellMoods$Folk", "add", "(III)I"⟩, 5), (⟨"WellMoods$Folk", "has", "(I)Z"⟩, 5), (⟨"WellMoods$Folk", "areFoes", "(II)Z"⟩, 5), (⟨"WellMoods$Folk", "makeFoes", "(IIZ)V"⟩, 5), (⟨"WellMoods$Tape", "append", "(I)V"⟩, 3), (⟨"WellMoods$Tape", "readFolk", "(LWellMoods$Folk;)I"⟩, 3), (⟨"WellMoods$Tape", "readOne", "(LWellMoods$Folk;)Z"⟩, 3), (⟨"WellMoods$Tape", "next", "()I"⟩, 3), (⟨"WellMoods$Tape", "readDigit", "(II)I"⟩, 3), (⟨"WellMoods$Tape", "fault", "()I"⟩, 3), (⟨"WellMoods$Well", "settle", "(LWellMoods$Folk;)V"⟩, 12), (⟨"WellMoods$Folk", "become", "(LWellMoods$Folk;)V"⟩, 5), (⟨"WellMoods$Tape", "readPlan", "([ILWellMoods$Folk;)I"⟩, 3), (⟨"WellMoods$Well", "adopt", "([II)V"⟩, 12), (⟨"WellMoods$Well", "mayDraw", "(I)Z"⟩, 12), (⟨"WellMoods$Well", "hasHours", "(I)Z"⟩, 12)]
theorem lw_r1 : ∀ q ∈ lw_privs_1, lw_okq q := List.forall_mem_cons.mpr ⟨lw_p0, List.forall_mem_cons.mpr ⟨lw_p1, List.forall_mem_cons.mpr ⟨lw_p2, List.forall_mem_cons.mpr ⟨lw_p3, List.forall_mem_cons.mpr ⟨lw_p4, List.forall_mem_cons.mpr ⟨lw_p5, List.forall_mem_cons.mpr ⟨lw_p6, List.forall_mem_cons.mpr ⟨lw_p7, List.forall_mem_cons.mpr ⟨lw_p8, List.forall_mem_cons.mpr ⟨lw_p9, List.forall_mem_cons.mpr ⟨lw_p10, List.forall_mem_cons.mpr ⟨lw_p11, List.forall_mem_cons.mpr ⟨lw_p12, List.forall_mem_cons.mpr ⟨lw_p13, List.forall_mem_cons.mpr ⟨lw_p14, List.forall_mem_cons.mpr ⟨lw_p15, fun _ h => absurd h List.not_mem_nil⟩⟩⟩⟩⟩⟩⟩⟩⟩⟩⟩⟩⟩⟩⟩⟩
theorem lw_p16 : lw_okq (⟨"WellMoods$Well", "passHour", "(I)I"⟩, 12) := ⟨⟨by decide +kernel, by decide +kernel⟩, List.mem_of_getElem? (i := 20) (by decide +kernel), List.mem_of_getElem? (i := 351) (by decide +kernel), List.mem_of_getElem? (i := 352) (by decide +kernel)⟩
theorem lw_p17 : lw_okq (⟨"WellMoods$Well", "drawBy", "(I)I"⟩, 12) := ⟨⟨by decide +kernel, by decide +kernel⟩, List.mem_of_getElem? (i := 20) (by decide +kernel), List.mem_of_getElem? (i := 356) (by decide +kernel), List.mem_of_getElem? (i := 357) (by decide +kernel)⟩
theorem lw_p18 : lw_okq (⟨"WellMoods$Folk", "pailsBehind", "(IIII)I"⟩, 5) := ⟨⟨by decide +kernel, by decide +kernel⟩, List.mem_of_getElem? (i := 26) (by decide +kernel), List.mem_of_getElem? (i := 360) (by decide +kernel), List.mem_of_getElem? (i := 361) (by decide +kernel)⟩
theorem lw_p19 : lw_okq (⟨"WellMoods$Folk", "pailsAt", "(II)I"⟩, 5) := ⟨⟨by decide +kernel, by decide +kernel⟩, List.mem_of_getElem? (i := 26) (by decide +kernel), List.mem_of_getElem? (i := 365) (by decide +kernel), List.mem_of_getElem? (i := 366) (by decide +kernel)⟩
theorem lw_p20 : lw_okq (⟨"WellMoods$Folk", "isSweet", "(II)Z"⟩, 5) := ⟨⟨by decide +kernel, by decide +kernel⟩, List.mem_of_getElem? (i := 26) (by decide +kernel), List.mem_of_getElem? (i := 373) (by decide +kernel), List.mem_of_getElem? (i := 374) (by decide +kernel)⟩
theorem lw_p21 : lw_okq (⟨"WellMoods$Folk", "moodBehind", "(II)I"⟩, 5) := ⟨⟨by decide +kernel, by decide +kernel⟩, List.mem_of_getElem? (i := 26) (by decide +kernel), List.mem_of_getElem? (i := 377) (by decide +kernel), List.mem_of_getElem? (i := 378) (by decide +kernel)⟩
theorem lw_p22 : lw_okq (⟨"WellMoods$Well", "endHour", "()V"⟩, 12) := ⟨⟨by decide +kernel, by decide +kernel⟩, List.mem_of_getElem? (i := 20) (by decide +kernel), List.mem_of_getElem? (i := 386) (by decide +kernel), List.mem_of_getElem? (i := 387) (by decide +kernel)⟩
theorem lw_p23 : lw_okq (⟨"WellMoods$Well", "followPlan", "()I"⟩, 12) := ⟨⟨by decide +kernel, by decide +kernel⟩, List.mem_of_getElem? (i := 20) (by decide +kernel), List.mem_of_getElem? (i := 408) (by decide +kernel), List.mem_of_getElem? (i := 409) (by decide +kernel)⟩
theorem lw_p24 : lw_okq (⟨"WellMoods", "mostFrom", "(II)I"⟩, 8) := ⟨⟨by decide +kernel, by decide +kernel⟩, List.mem_of_getElem? (i := 12) (by decide +kernel), List.mem_of_getElem? (i := 417) (by decide +kernel), List.mem_of_getElem? (i := 418) (by decide +kernel)⟩
theorem lw_p25 : lw_okq (⟨"WellMoods$Search", "observe", "(LWellMoods$Well;)V"⟩, 9) := ⟨⟨by decide +kernel, by decide +kernel⟩, List.mem_of_getElem? (i := 132) (by decide +kernel), List.mem_of_getElem? (i := 421) (by decide +kernel), List.mem_of_getElem? (i := 422) (by decide +kernel)⟩
theorem lw_p26 : lw_okq (⟨"WellMoods$Search", "mostIn", "(II)I"⟩, 9) := ⟨⟨by decide +kernel, by decide +kernel⟩, List.mem_of_getElem? (i := 132) (by decide +kernel), List.mem_of_getElem? (i := 427) (by decide +kernel), List.mem_of_getElem? (i := 428) (by decide +kernel)⟩
theorem lw_p27 : lw_okq (⟨"WellMoods$Search", "tryHour", "(IIIII)V"⟩, 9) := ⟨⟨by decide +kernel, by decide +kernel⟩, List.mem_of_getElem? (i := 132) (by decide +kernel), List.mem_of_getElem? (i := 432) (by decide +kernel), List.mem_of_getElem? (i := 433) (by decide +kernel)⟩
theorem lw_p28 : lw_okq (⟨"WellMoods$Search", "keep", "(I)V"⟩, 9) := ⟨⟨by decide +kernel, by decide +kernel⟩, List.mem_of_getElem? (i := 132) (by decide +kernel), List.mem_of_getElem? (i := 436) (by decide +kernel), List.mem_of_getElem? (i := 437) (by decide +kernel)⟩
theorem lw_p29 : lw_okq (⟨"WellMoods$Search", "tryDrawing", "(IIIIII)V"⟩, 9) := ⟨⟨by decide +kernel, by decide +kernel⟩, List.mem_of_getElem? (i := 132) (by decide +kernel), List.mem_of_getElem? (i := 440) (by decide +kernel), List.mem_of_getElem? (i := 441) (by decide +kernel)⟩
theorem lw_p30 : lw_okq (⟨"WellMoods", "mostInPeace", "(II)I"⟩, 8) := ⟨⟨by decide +kernel, by decide +kernel⟩, List.mem_of_getElem? (i := 12) (by decide +kernel), List.mem_of_getElem? (i := 461) (by decide +kernel), List.mem_of_getElem? (i := 462) (by decide +kernel)⟩
theorem lw_p31 : lw_okq (⟨"WellMoods$Well", "givesAt", "(II)I"⟩, 12) := ⟨⟨by decide +kernel, by decide +kernel⟩, List.mem_of_getElem? (i := 20) (by decide +kernel), List.mem_of_getElem? (i := 469) (by decide +kernel), List.mem_of_getElem? (i := 470) (by decide +kernel)⟩
def lw_privs_2 : List (MethodName × Nat) := [(⟨"WellMoods$Well", "passHour", "(I)I"⟩, 12), (⟨"WellMoods$Well", "drawBy", "(I)I"⟩, 12), (⟨"WellMoods$Folk", "pailsBehind", "(IIII)I"⟩, 5), (⟨"WellMoods$Folk", "pailsAt", "(II)I"⟩, 5), (⟨"WellMoods$Folk", "isSweet", "(II)Z"⟩, 5), (⟨"WellMoods$Folk", "moodBehind", "(II)I"⟩, 5), (⟨"WellMoods$Well", "endHour", "()V"⟩, 12), (⟨"WellMoods$Well", "followPlan", "()I"⟩, 12), (⟨"WellMoods", "mostFrom", "(II)I"⟩, 8), (⟨"WellMoods$Search", "observe", "(LWellMoods$Well;)V"⟩, 9), (⟨"WellMoods$Search", "mostIn", "(II)I"⟩, 9), (⟨"WellMoods$Search", "tryHour", "(IIIII)V"⟩, 9), (⟨"WellMoods$Search", "keep", "(I)V"⟩, 9), (⟨"WellMoods$Search", "tryDrawing", "(IIIIII)V"⟩, 9), (⟨"WellMoods", "mostInPeace", "(II)I"⟩, 8), (⟨"WellMoods$Well", "givesAt", "(II)I"⟩, 12)]
theorem lw_r2 : ∀ q ∈ lw_privs_2, lw_okq q := List.forall_mem_cons.mpr ⟨lw_p16, List.forall_mem_cons.mpr ⟨lw_p17, List.forall_mem_cons.mpr ⟨lw_p18, List.forall_mem_cons.mpr ⟨lw_p19, List.forall_mem_cons.mpr ⟨lw_p20, List.forall_mem_cons.mpr ⟨lw_p21, List.forall_mem_cons.mpr ⟨lw_p22, List.forall_mem_cons.mpr ⟨lw_p23, List.forall_mem_cons.mpr ⟨lw_p24, List.forall_mem_cons.mpr ⟨lw_p25, List.forall_mem_cons.mpr ⟨lw_p26, List.forall_mem_cons.mpr ⟨lw_p27, List.forall_mem_cons.mpr ⟨lw_p28, List.forall_mem_cons.mpr ⟨lw_p29, List.forall_mem_cons.mpr ⟨lw_p30, List.forall_mem_cons.mpr ⟨lw_p31, fun _ h => absurd h List.not_mem_nil⟩⟩⟩⟩⟩⟩⟩⟩⟩⟩⟩⟩⟩⟩⟩⟩
theorem lw_p32 : lw_okq (⟨"WellMoods", "isTale", "(III)Z"⟩, 8) := ⟨⟨by decide +kernel, by decide +kernel⟩, List.mem_of_getElem? (i := 12) (by decide +kernel), List.mem_of_getElem? (i := 489) (by decide +kernel), List.mem_of_getElem? (i := 490) (by decide +kernel)⟩
theorem lw_p33 : lw_okq (⟨"WellMoods$Well", "lot", "()I"⟩, 12) := ⟨⟨by decide +kernel, by decide +kernel⟩, List.mem_of_getElem? (i := 20) (by decide +kernel), List.mem_of_getElem? (i := 501) (by decide +kernel), List.mem_of_getElem? (i := 502) (by decide +kernel)⟩
theorem lw_p34 : lw_okq (⟨"WellMoods$Well", "become", "(LWellMoods$Well;)V"⟩, 12) := ⟨⟨by decide +kernel, by decide +kernel⟩, List.mem_of_getElem? (i := 20) (by decide +kernel), List.mem_of_getElem? (i := 517) (by decide +kernel), List.mem_of_getElem? (i := 518) (by decide +kernel)⟩
theorem lw_p35 : lw_okq (⟨"WellMoods", "refusal", "(IIII)I"⟩, 8) := ⟨⟨by decide +kernel, by decide +kernel⟩, List.mem_of_getElem? (i := 12) (by decide +kernel), List.mem_of_getElem? (i := 529) (by decide +kernel), List.mem_of_getElem? (i := 530) (by decide +kernel)⟩
theorem lw_p36 : lw_okq (⟨"WellMoods$Sheet", "hasSpan", "(II)Z"⟩, 4) := ⟨⟨by decide +kernel, by decide +kernel⟩, List.mem_of_getElem? (i := 171) (by decide +kernel), List.mem_of_getElem? (i := 539) (by decide +kernel), List.mem_of_getElem? (i := 540) (by decide +kernel)⟩
theorem lw_p37 : lw_okq (⟨"WellMoods", "areDrawings", "(LWellMoods$Sheet;II)Z"⟩, 8) := ⟨⟨by decide +kernel, by decide +kernel⟩, List.mem_of_getElem? (i := 12) (by decide +kernel), List.mem_of_getElem? (i := 543) (by decide +kernel), List.mem_of_getElem? (i := 544) (by decide +kernel)⟩
theorem lw_p38 : lw_okq (⟨"WellMoods", "fitsFrom", "(ILWellMoods$Sheet;II)Z"⟩, 8) := ⟨⟨by decide +kernel, by decide +kernel⟩, List.mem_of_getElem? (i := 12) (by decide +kernel), List.mem_of_getElem? (i := 547) (by decide +kernel), List.mem_of_getElem? (i := 548) (by decide +kernel)⟩
theorem lw_p39 : lw_okq (⟨"WellMoods$Sheet", "put", "(IJ)V"⟩, 4) := ⟨⟨by decide +kernel, by decide +kernel⟩, List.mem_of_getElem? (i := 171) (by decide +kernel), List.mem_of_getElem? (i := 556) (by decide +kernel), List.mem_of_getElem? (i := 557) (by decide +kernel)⟩
theorem lw_p40 : lw_okq (⟨"WellMoods$Sheet", "begin", "(II)V"⟩, 4) := ⟨⟨by decide +kernel, by decide +kernel⟩, List.mem_of_getElem? (i := 171) (by decide +kernel), List.mem_of_getElem? (i := 564) (by decide +kernel), List.mem_of_getElem? (i := 565) (by decide +kernel)⟩
theorem lw_p41 : lw_okq (⟨"WellMoodsModel", "add", "(III)V"⟩, 36) := ⟨⟨by decide +kernel, by decide +kernel⟩, List.mem_of_getElem? (i := 581) (by decide +kernel), List.mem_of_getElem? (i := 706) (by decide +kernel), List.mem_of_getElem? (i := 707) (by decide +kernel)⟩
theorem lw_p42 : lw_okq (⟨"WellMoodsModel", "isOne", "(I)Z"⟩, 36) := ⟨⟨by decide +kernel, by decide +kernel⟩, List.mem_of_getElem? (i := 581) (by decide +kernel), List.mem_of_getElem? (i := 714) (by decide +kernel), List.mem_of_getElem? (i := 715) (by decide +kernel)⟩
theorem lw_p43 : lw_okq (⟨"WellMoodsModel", "setQuarrel", "(IIZ)V"⟩, 36) := ⟨⟨by decide +kernel, by decide +kernel⟩, List.mem_of_getElem? (i := 581) (by decide +kernel), List.mem_of_getElem? (i := 724) (by decide +kernel), List.mem_of_getElem? (i := 725) (by decide +kernel)⟩
theorem lw_p44 : lw_okq (⟨"WellMoodsModel", "readVillage", "()Z"⟩, 36) := ⟨⟨by decide +kernel, by decide +kernel⟩, List.mem_of_getElem? (i := 581) (by decide +kernel), List.mem_of_getElem? (i := 754) (by decide +kernel), List.mem_of_getElem? (i := 755) (by decide +kernel)⟩
theorem lw_p45 : lw_okq (⟨"WellMoodsModel", "readOne", "(I)Z"⟩, 36) := ⟨⟨by decide +kernel, by decide +kernel⟩, List.mem_of_getElem? (i := 581) (by decide +kernel), List.mem_of_getElem? (i := 758) (by decide +kernel), List.mem_of_getElem? (i := 759) (by decide +kernel)⟩
theorem lw_p46 : lw_okq (⟨"WellMoodsModel", "nextByte", "()I"⟩, 36) := ⟨⟨by decide +kernel, by decide +kernel⟩, List.mem_of_getElem? (i := 581) (by decide +kernel), List.mem_of_getElem? (i := 762) (by decide +kernel), List.mem_of_getElem? (i := 763) (by decide +kernel)⟩
theorem lw_p47 : lw_okq (⟨"WellMoodsModel", "readDigit", "(II)I"⟩, 36) := ⟨⟨by decide +kernel, by decide +kernel⟩, List.mem_of_getElem? (i := 581) (by decide +kernel), List.mem_of_getElem? (i := 766) (by decide +kernel), List.mem_of_getElem? (i := 767) (by decide +kernel)⟩
def lw_privs_3 : List (MethodName × Nat) := [(⟨"WellMoods", "isTale", "(III)Z"⟩, 8), (⟨"WellMoods$Well", "lot", "()I"⟩, 12), (⟨"WellMoods$Well", "become", "(LWellMoods$Well;)V"⟩, 12), (⟨"WellMoods", "refusal", "(IIII)I"⟩, 8), (⟨"WellMoods$Sheet", "hasSpan", "(II)Z"⟩, 4), (⟨"WellMoods", "areDrawings", "(LWellMoods$Sheet;II)Z"⟩, 8), (⟨"WellMoods", "fitsFrom", "(ILWellMoods$Sheet;II)Z"⟩, 8), (⟨"WellMoods$Sheet", "put", "(IJ)V"⟩, 4), (⟨"WellMoods$Sheet", "begin", "(II)V"⟩, 4), (⟨"WellMoodsModel", "add", "(III)V"⟩, 36), (⟨"WellMoodsModel", "isOne", "(I)Z"⟩, 36), (⟨"WellMoodsModel", "setQuarrel", "(IIZ)V"⟩, 36), (⟨"WellMoodsModel", "readVillage", "()Z"⟩, 36), (⟨"WellMoodsModel", "readOne", "(I)Z"⟩, 36), (⟨"WellMoodsModel", "nextByte", "()I"⟩, 36), (⟨"WellMoodsModel", "readDigit", "(II)I"⟩, 36)]
theorem lw_r3 : ∀ q ∈ lw_privs_3, lw_okq q := List.forall_mem_cons.mpr ⟨lw_p32, List.forall_mem_cons.mpr ⟨lw_p33, List.forall_mem_cons.mpr ⟨lw_p34, List.forall_mem_cons.mpr ⟨lw_p35, List.forall_mem_cons.mpr ⟨lw_p36, List.forall_mem_cons.mpr ⟨lw_p37, List.forall_mem_cons.mpr ⟨lw_p38, List.forall_mem_cons.mpr ⟨lw_p39, List.forall_mem_cons.mpr ⟨lw_p40, List.forall_mem_cons.mpr ⟨lw_p41, List.forall_mem_cons.mpr ⟨lw_p42, List.forall_mem_cons.mpr ⟨lw_p43, List.forall_mem_cons.mpr ⟨lw_p44, List.forall_mem_cons.mpr ⟨lw_p45, List.forall_mem_cons.mpr ⟨lw_p46, List.forall_mem_cons.mpr ⟨lw_p47, fun _ h => absurd h List.not_mem_nil⟩⟩⟩⟩⟩⟩⟩⟩⟩⟩⟩⟩⟩⟩⟩⟩
theorem lw_p48 : lw_okq (⟨"WellMoodsModel", "readPlan", "()Z"⟩, 36) := ⟨⟨by decide +kernel, by decide +kernel⟩, List.mem_of_getElem? (i := 581) (by decide +kernel), List.mem_of_getElem? (i := 774) (by decide +kernel), List.mem_of_getElem? (i := 775) (by decide +kernel)⟩
theorem lw_p49 : lw_okq (⟨"WellMoodsModel", "goOn", "(I)I"⟩, 36) := ⟨⟨by decide +kernel, by decide +kernel⟩, List.mem_of_getElem? (i := 581) (by decide +kernel), List.mem_of_getElem? (i := 786) (by decide +kernel), List.mem_of_getElem? (i := 787) (by decide +kernel)⟩
theorem lw_p50 : lw_okq (⟨"WellMoodsModel", "begin", "()V"⟩, 36) := ⟨⟨by decide +kernel, by decide +kernel⟩, List.mem_of_getElem? (i := 581) (by decide +kernel), List.mem_of_getElem? (i := 790) (by decide +kernel), List.mem_of_getElem? (i := 791) (by decide +kernel)⟩
theorem lw_p51 : lw_okq (⟨"WellMoodsModel", "tryOne", "(I)Z"⟩, 36) := ⟨⟨by decide +kernel, by decide +kernel⟩, List.mem_of_getElem? (i := 581) (by decide +kernel), List.mem_of_getElem? (i := 794) (by decide +kernel), List.mem_of_getElem? (i := 795) (by decide +kernel)⟩
theorem lw_p52 : lw_okq (⟨"WellMoodsModel", "feltBy", "(I)I"⟩, 36) := ⟨⟨by decide +kernel, by decide +kernel⟩, List.mem_of_getElem? (i := 581) (by decide +kernel), List.mem_of_getElem? (i := 807) (by decide +kernel), List.mem_of_getElem? (i := 808) (by decide +kernel)⟩
theorem lw_p53 : lw_okq (⟨"WellMoodsModel", "keep", "()V"⟩, 36) := ⟨⟨by decide +kernel, by decide +kernel⟩, List.mem_of_getElem? (i := 581) (by decide +kernel), List.mem_of_getElem? (i := 817) (by decide +kernel), List.mem_of_getElem? (i := 818) (by decide +kernel)⟩
theorem lw_p54 : lw_okq (⟨"WellMoodsModel", "findMost", "(II)I"⟩, 36) := ⟨⟨by decide +kernel, by decide +kernel⟩, List.mem_of_getElem? (i := 581) (by decide +kernel), List.mem_of_getElem? (i := 835) (by decide +kernel), List.mem_of_getElem? (i := 836) (by decide +kernel)⟩
theorem lw_p55 : lw_okq (⟨"WellMoodsModel", "nextRow", "(I)Z"⟩, 36) := ⟨⟨by decide +kernel, by decide +kernel⟩, List.mem_of_getElem? (i := 581) (by decide +kernel), List.mem_of_getElem? (i := 839) (by decide +kernel), List.mem_of_getElem? (i := 840) (by decide +kernel)⟩
theorem lw_p56 : lw_okq (⟨"WellMoodsModel", "givesOf", "(II)I"⟩, 36) := ⟨⟨by decide +kernel, by decide +kernel⟩, List.mem_of_getElem? (i := 581) (by decide +kernel), List.mem_of_getElem? (i := 864) (by decide +kernel), List.mem_of_getElem? (i := 865) (by decide +kernel)⟩
theorem lw_p57 : lw_okq (⟨"WellMoodsModel", "carried", "(IIZ)I"⟩, 36) := ⟨⟨by decide +kernel, by decide +kernel⟩, List.mem_of_getElem? (i := 581) (by decide +kernel), List.mem_of_getElem? (i := 892) (by decide +kernel), List.mem_of_getElem? (i := 893) (by decide +kernel)⟩
theorem lw_p58 : lw_okq (⟨"WellMoodsModel", "lacksRow", "(IIII)I"⟩, 36) := ⟨⟨by decide +kernel, by decide +kernel⟩, List.mem_of_getElem? (i := 581) (by decide +kernel), List.mem_of_getElem? (i := 915) (by decide +kernel), List.mem_of_getElem? (i := 916) (by decide +kernel)⟩
theorem lw_p59 : lw_okq (⟨"WellMoodsModel", "fits", "(III)Z"⟩, 36) := ⟨⟨by decide +kernel, by decide +kernel⟩, List.mem_of_getElem? (i := 581) (by decide +kernel), List.mem_of_getElem? (i := 926) (by decide +kernel), List.mem_of_getElem? (i := 927) (by decide +kernel)⟩
def lw_privs_4 : List (MethodName × Nat) := [(⟨"WellMoodsModel", "readPlan", "()Z"⟩, 36), (⟨"WellMoodsModel", "goOn", "(I)I"⟩, 36), (⟨"WellMoodsModel", "begin", "()V"⟩, 36), (⟨"WellMoodsModel", "tryOne", "(I)Z"⟩, 36), (⟨"WellMoodsModel", "feltBy", "(I)I"⟩, 36), (⟨"WellMoodsModel", "keep", "()V"⟩, 36), (⟨"WellMoodsModel", "findMost", "(II)I"⟩, 36), (⟨"WellMoodsModel", "nextRow", "(I)Z"⟩, 36), (⟨"WellMoodsModel", "givesOf", "(II)I"⟩, 36), (⟨"WellMoodsModel", "carried", "(IIZ)I"⟩, 36), (⟨"WellMoodsModel", "lacksRow", "(IIII)I"⟩, 36), (⟨"WellMoodsModel", "fits", "(III)Z"⟩, 36)]
theorem lw_r4 : ∀ q ∈ lw_privs_4, lw_okq q := List.forall_mem_cons.mpr ⟨lw_p48, List.forall_mem_cons.mpr ⟨lw_p49, List.forall_mem_cons.mpr ⟨lw_p50, List.forall_mem_cons.mpr ⟨lw_p51, List.forall_mem_cons.mpr ⟨lw_p52, List.forall_mem_cons.mpr ⟨lw_p53, List.forall_mem_cons.mpr ⟨lw_p54, List.forall_mem_cons.mpr ⟨lw_p55, List.forall_mem_cons.mpr ⟨lw_p56, List.forall_mem_cons.mpr ⟨lw_p57, List.forall_mem_cons.mpr ⟨lw_p58, List.forall_mem_cons.mpr ⟨lw_p59, fun _ h => absurd h List.not_mem_nil⟩⟩⟩⟩⟩⟩⟩⟩⟩⟩⟩⟩
def lw_privs : List (MethodName × Nat) := lw_privs_1 ++ (lw_privs_2 ++ (lw_privs_3 ++ (lw_privs_4)))
def lw_tbl : List Cond := k2_sels lw_privs ++ tables_1
theorem lw_privs_ok : ∀ q ∈ lw_privs, lw_okq q := by
  show ∀ q ∈ lw_privs_1 ++ (lw_privs_2 ++ (lw_privs_3 ++ (lw_privs_4))), lw_okq q
  exact List.forall_mem_append.mpr ⟨lw_r1, List.forall_mem_append.mpr ⟨lw_r2, List.forall_mem_append.mpr ⟨lw_r3, lw_r4⟩⟩⟩
end
section
def RX0 : String := "WellMoods$Folk"
def TX0 : u_T := fun k => match k with
  | 0 => ("WellMoods$Folk", "kinds", "[I", true)
  | 1 => ("WellMoods$Folk", "feelings", "[I", true)
  | 2 => ("WellMoods$Folk", "rests", "[I", true)
  | 3 => ("WellMoods$Folk", "foes", "[I", true)
  | _ => ("WellMoods$Folk", "count", "I", false)
def tyX0 : Nat → FieldType := fun k => match k with
  | 0 => .array .int
  | 1 => .array .int
  | 2 => .array .int
  | 3 => .array .int
  | _ => .int
abbrev wsX00 : List Cond := u_ws RX0 TX0 5
theorem nmX0 : ∀ a, a < 5 → ∀ b, b < 5 → a ≠ b → (TX0 a).2.1 ≠ (TX0 b).2.1 := by decide +kernel
theorem tyX0_ok : ∀ k, k < 5 → parseFieldDescriptor (TX0 k).2.2.1 = some (tyX0 k) := by decide +kernel
abbrev cX0_init : ByteArray := prog_2_method_1_code
def yX0_init : MethodName := ⟨RX0, "<init>", "()V"⟩
abbrev cX0_has : ByteArray := prog_2_method_2_code
def yX0_has : MethodName := ⟨RX0, "has", "(I)Z"⟩
abbrev cX0_add : ByteArray := prog_2_method_3_code
def yX0_add : MethodName := ⟨RX0, "add", "(III)I"⟩
abbrev cX0_become : ByteArray := prog_2_method_4_code
def yX0_become : MethodName := ⟨RX0, "become", "(LWellMoods$Folk;)V"⟩
abbrev cX0_areFoes : ByteArray := prog_2_method_5_code
def yX0_areFoes : MethodName := ⟨RX0, "areFoes", "(II)Z"⟩
abbrev cX0_makeFoes : ByteArray := prog_2_method_6_code
def yX0_makeFoes : MethodName := ⟨RX0, "makeFoes", "(IIZ)V"⟩
abbrev cX0_pailsAt : ByteArray := prog_2_method_7_code
def yX0_pailsAt : MethodName := ⟨RX0, "pailsAt", "(II)I"⟩
abbrev cX0_pailsBehind : ByteArray := prog_2_method_8_code
def yX0_pailsBehind : MethodName := ⟨RX0, "pailsBehind", "(IIII)I"⟩
abbrev cX0_isSweet : ByteArray := prog_2_method_9_code
def yX0_isSweet : MethodName := ⟨RX0, "isSweet", "(II)Z"⟩
abbrev cX0_moodBehind : ByteArray := prog_2_method_10_code
def yX0_moodBehind : MethodName := ⟨RX0, "moodBehind", "(II)I"⟩
def RX1 : String := "WellMoods$Search"
def TX1 : u_T := fun k => match k with
  | 0 => ("WellMoods$Search", "folk", "LWellMoods$Folk;", true)
  | 1 => ("WellMoods$Search", "freeFrom", "[I", true)
  | 2 => ("WellMoods$Search", "path", "[I", true)
  | 3 => ("WellMoods$Search", "row", "[I", true)
  | 4 => ("WellMoods$Search", "level", "I", false)
  | 5 => ("WellMoods$Search", "rain", "I", false)
  | 6 => ("WellMoods$Search", "last", "I", false)
  | 7 => ("WellMoods$Search", "hours", "I", false)
  | _ => ("WellMoods$Search", "best", "I", false)
def tyX1 : Nat → FieldType := fun k => match k with
  | 0 => .object "WellMoods$Folk"
  | 1 => .array .int
  | 2 => .array .int
  | 3 => .array .int
  | 4 => .int
  | 5 => .int
  | 6 => .int
  | 7 => .int
  | _ => .int
abbrev wsX10 : List Cond := u_ws RX1 TX1 9
theorem nmX1 : ∀ a, a < 9 → ∀ b, b < 9 → a ≠ b → (TX1 a).2.1 ≠ (TX1 b).2.1 := by decide +kernel
theorem tyX1_ok : ∀ k, k < 9 → parseFieldDescriptor (TX1 k).2.2.1 = some (tyX1 k) := by decide +kernel
abbrev cX1_init : ByteArray := prog_3_method_1_code
def yX1_init : MethodName := ⟨RX1, "<init>", "()V"⟩
abbrev cX1_observe : ByteArray := prog_3_method_2_code
def yX1_observe : MethodName := ⟨RX1, "observe", "(LWellMoods$Well;)V"⟩
abbrev cX1_mostIn : ByteArray := prog_3_method_3_code
def yX1_mostIn : MethodName := ⟨RX1, "mostIn", "(II)I"⟩
abbrev cX1_tryHour : ByteArray := prog_3_method_4_code
def yX1_tryHour : MethodName := ⟨RX1, "tryHour", "(IIIII)V"⟩
abbrev cX1_tryDrawing : ByteArray := prog_3_method_5_code
def yX1_tryDrawing : MethodName := ⟨RX1, "tryDrawing", "(IIIIII)V"⟩
abbrev cX1_keep : ByteArray := prog_3_method_6_code
def yX1_keep : MethodName := ⟨RX1, "keep", "(I)V"⟩
def RX2 : String := "WellMoods$Sheet"
def TX2 : u_T := fun k => match k with
  | 0 => ("WellMoods$Sheet", "items", "[J", true)
  | 1 => ("WellMoods$Sheet", "isThere", "Z", false)
  | 2 => ("WellMoods$Sheet", "lane", "I", false)
  | _ => ("WellMoods$Sheet", "length", "I", false)
def tyX2 : Nat → FieldType := fun k => match k with
  | 0 => .array .long
  | 1 => .boolean
  | 2 => .int
  | _ => .int
abbrev wsX20 : List Cond := u_ws RX2 TX2 4
theorem nmX2 : ∀ a, a < 4 → ∀ b, b < 4 → a ≠ b → (TX2 a).2.1 ≠ (TX2 b).2.1 := by decide +kernel
theorem tyX2_ok : ∀ k, k < 4 → parseFieldDescriptor (TX2 k).2.2.1 = some (tyX2 k) := by decide +kernel
abbrev cX2_init : ByteArray := prog_4_method_1_code
def yX2_init : MethodName := ⟨RX2, "<init>", "()V"⟩
abbrev cX2_begin : ByteArray := prog_4_method_2_code
def yX2_begin : MethodName := ⟨RX2, "begin", "(II)V"⟩
abbrev cX2_hasSpan : ByteArray := prog_4_method_3_code
def yX2_hasSpan : MethodName := ⟨RX2, "hasSpan", "(II)Z"⟩
abbrev cX2_put : ByteArray := prog_4_method_4_code
def yX2_put : MethodName := ⟨RX2, "put", "(IJ)V"⟩
def RX3 : String := "WellMoods$Tape"
def TX3 : u_T := fun k => match k with
  | 0 => ("WellMoods$Tape", "bytes", "[B", true)
  | 1 => ("WellMoods$Tape", "length", "I", false)
  | _ => ("WellMoods$Tape", "place", "I", false)
def tyX3 : Nat → FieldType := fun k => match k with
  | 0 => .array .byte
  | 1 => .int
  | _ => .int
abbrev wsX30 : List Cond := u_ws RX3 TX3 3
theorem nmX3 : ∀ a, a < 3 → ∀ b, b < 3 → a ≠ b → (TX3 a).2.1 ≠ (TX3 b).2.1 := by decide +kernel
theorem tyX3_ok : ∀ k, k < 3 → parseFieldDescriptor (TX3 k).2.2.1 = some (tyX3 k) := by decide +kernel
abbrev cX3_init : ByteArray := prog_5_method_1_code
def yX3_init : MethodName := ⟨RX3, "<init>", "()V"⟩
abbrev cX3_append : ByteArray := prog_5_method_2_code
def yX3_append : MethodName := ⟨RX3, "append", "(I)V"⟩
abbrev cX3_fault : ByteArray := prog_5_method_3_code
def yX3_fault : MethodName := ⟨RX3, "fault", "()I"⟩
abbrev cX3_next : ByteArray := prog_5_method_4_code
def yX3_next : MethodName := ⟨RX3, "next", "()I"⟩
abbrev cX3_readFolk : ByteArray := prog_5_method_5_code
def yX3_readFolk : MethodName := ⟨RX3, "readFolk", "(LWellMoods$Folk;)I"⟩
abbrev cX3_readOne : ByteArray := prog_5_method_6_code
def yX3_readOne : MethodName := ⟨RX3, "readOne", "(LWellMoods$Folk;)Z"⟩
abbrev cX3_kindBy : ByteArray := prog_5_method_7_code
def yX3_kindBy : MethodName := ⟨RX3, "kindBy", "(I)I"⟩
abbrev cX3_readDigit : ByteArray := prog_5_method_8_code
def yX3_readDigit : MethodName := ⟨RX3, "readDigit", "(II)I"⟩
abbrev cX3_readPlan : ByteArray := prog_5_method_9_code
def yX3_readPlan : MethodName := ⟨RX3, "readPlan", "([ILWellMoods$Folk;)I"⟩
def RX4 : String := "WellMoods$Well"
def TX4 : u_T := fun k => match k with
  | 0 => ("WellMoods$Well", "folk", "LWellMoods$Folk;", true)
  | 1 => ("WellMoods$Well", "waits", "[I", true)
  | 2 => ("WellMoods$Well", "planned", "[I", true)
  | 3 => ("WellMoods$Well", "planHours", "I", false)
  | 4 => ("WellMoods$Well", "mood", "I", false)
  | 5 => ("WellMoods$Well", "level", "I", false)
  | 6 => ("WellMoods$Well", "rain", "I", false)
  | 7 => ("WellMoods$Well", "sweet", "I", false)
  | 8 => ("WellMoods$Well", "salt", "I", false)
  | 9 => ("WellMoods$Well", "hour", "I", false)
  | 10 => ("WellMoods$Well", "last", "I", false)
  | _ => ("WellMoods$Well", "lots", "I", false)
def tyX4 : Nat → FieldType := fun k => match k with
  | 0 => .object "WellMoods$Folk"
  | 1 => .array .int
  | 2 => .array .int
  | 3 => .int
  | 4 => .int
  | 5 => .int
  | 6 => .int
  | 7 => .int
  | 8 => .int
  | 9 => .int
  | 10 => .int
  | _ => .int
abbrev wsX40 : List Cond := u_ws RX4 TX4 12
theorem nmX4 : ∀ a, a < 12 → ∀ b, b < 12 → a ≠ b → (TX4 a).2.1 ≠ (TX4 b).2.1 := by decide +kernel
theorem tyX4_ok : ∀ k, k < 12 → parseFieldDescriptor (TX4 k).2.2.1 = some (tyX4 k) := by decide +kernel
abbrev cX4_init : ByteArray := prog_6_method_1_code
def yX4_init : MethodName := ⟨RX4, "<init>", "()V"⟩
abbrev cX4_become : ByteArray := prog_6_method_2_code
def yX4_become : MethodName := ⟨RX4, "become", "(LWellMoods$Well;)V"⟩
abbrev cX4_settle : ByteArray := prog_6_method_3_code
def yX4_settle : MethodName := ⟨RX4, "settle", "(LWellMoods$Folk;)V"⟩
abbrev cX4_adopt : ByteArray := prog_6_method_4_code
def yX4_adopt : MethodName := ⟨RX4, "adopt", "([II)V"⟩
abbrev cX4_mayDraw : ByteArray := prog_6_method_5_code
def yX4_mayDraw : MethodName := ⟨RX4, "mayDraw", "(I)Z"⟩
abbrev cX4_hasHours : ByteArray := prog_6_method_6_code
def yX4_hasHours : MethodName := ⟨RX4, "hasHours", "(I)Z"⟩
abbrev cX4_givesAt : ByteArray := prog_6_method_7_code
def yX4_givesAt : MethodName := ⟨RX4, "givesAt", "(II)I"⟩
abbrev cX4_passHour : ByteArray := prog_6_method_8_code
def yX4_passHour : MethodName := ⟨RX4, "passHour", "(I)I"⟩
abbrev cX4_drawBy : ByteArray := prog_6_method_9_code
def yX4_drawBy : MethodName := ⟨RX4, "drawBy", "(I)I"⟩
abbrev cX4_endHour : ByteArray := prog_6_method_10_code
def yX4_endHour : MethodName := ⟨RX4, "endHour", "()V"⟩
abbrev cX4_followPlan : ByteArray := prog_6_method_11_code
def yX4_followPlan : MethodName := ⟨RX4, "followPlan", "()I"⟩
abbrev cX4_lot : ByteArray := prog_6_method_12_code
def yX4_lot : MethodName := ⟨RX4, "lot", "()I"⟩
def RX5 : String := "WellMoods"
def TX5 : u_T := fun k => match k with
  | 0 => ("WellMoods", "well", "LWellMoods$Well;", true)
  | 1 => ("WellMoods", "kept", "LWellMoods$Well;", true)
  | 2 => ("WellMoods", "isKept", "Z", false)
  | 3 => ("WellMoods", "tape", "LWellMoods$Tape;", true)
  | 4 => ("WellMoods", "newcomers", "LWellMoods$Folk;", true)
  | 5 => ("WellMoods", "newPlan", "[I", true)
  | 6 => ("WellMoods", "search", "LWellMoods$Search;", true)
  | _ => ("WellMoods", "sheets", "[LWellMoods$Sheet;", true)
def tyX5 : Nat → FieldType := fun k => match k with
  | 0 => .object "WellMoods$Well"
  | 1 => .object "WellMoods$Well"
  | 2 => .boolean
  | 3 => .object "WellMoods$Tape"
  | 4 => .object "WellMoods$Folk"
  | 5 => .array .int
  | 6 => .object "WellMoods$Search"
  | _ => .array (.object "WellMoods$Sheet")
abbrev wsX50 : List Cond := u_ws RX5 TX5 8
theorem nmX5 : ∀ a, a < 8 → ∀ b, b < 8 → a ≠ b → (TX5 a).2.1 ≠ (TX5 b).2.1 := by decide +kernel
theorem tyX5_ok : ∀ k, k < 8 → parseFieldDescriptor (TX5 k).2.2.1 = some (tyX5 k) := by decide +kernel
abbrev cX5_init : ByteArray := prog_1_method_1_code
def yX5_init : MethodName := ⟨RX5, "<init>", "()V"⟩
abbrev cX5_folk : ByteArray := prog_1_method_2_code
def yX5_folk : MethodName := ⟨RX5, "folk", "(III)I"⟩
abbrev cX5_told : ByteArray := prog_1_method_3_code
def yX5_told : MethodName := ⟨RX5, "told", "(II)I"⟩
abbrev cX5_quarrel : ByteArray := prog_1_method_4_code
def yX5_quarrel : MethodName := ⟨RX5, "quarrel", "(IIZ)I"⟩
abbrev cX5_set : ByteArray := prog_1_method_5_code
def yX5_set : MethodName := ⟨RX5, "set", "(II)I"⟩
abbrev cX5_is : ByteArray := prog_1_method_6_code
def yX5_is : MethodName := ⟨RX5, "is", "(I)I"⟩
abbrev cX5_type : ByteArray := prog_1_method_7_code
def yX5_type : MethodName := ⟨RX5, "type", "(JI)I"⟩
abbrev cX5_village : ByteArray := prog_1_method_8_code
def yX5_village : MethodName := ⟨RX5, "village", "()I"⟩
abbrev cX5_plan : ByteArray := prog_1_method_9_code
def yX5_plan : MethodName := ⟨RX5, "plan", "()I"⟩
abbrev cX5_may : ByteArray := prog_1_method_10_code
def yX5_may : MethodName := ⟨RX5, "may", "()I"⟩
abbrev cX5_draw : ByteArray := prog_1_method_11_code
def yX5_draw : MethodName := ⟨RX5, "draw", "(I)I"⟩
abbrev cX5_pass : ByteArray := prog_1_method_12_code
def yX5_pass : MethodName := ⟨RX5, "pass", "(I)I"⟩
abbrev cX5_run : ByteArray := prog_1_method_13_code
def yX5_run : MethodName := ⟨RX5, "run", "()I"⟩
abbrev cX5_most : ByteArray := prog_1_method_14_code
def yX5_most : MethodName := ⟨RX5, "most", "(I)I"⟩
abbrev cX5_row : ByteArray := prog_1_method_15_code
def yX5_row : MethodName := ⟨RX5, "row", "(II)I"⟩
abbrev cX5_fewest : ByteArray := prog_1_method_16_code
def yX5_fewest : MethodName := ⟨RX5, "fewest", "(I)I"⟩
abbrev cX5_peace : ByteArray := prog_1_method_17_code
def yX5_peace : MethodName := ⟨RX5, "peace", "()I"⟩
abbrev cX5_gives : ByteArray := prog_1_method_18_code
def yX5_gives : MethodName := ⟨RX5, "gives", "(II)I"⟩
abbrev cX5_stranger : ByteArray := prog_1_method_19_code
def yX5_stranger : MethodName := ⟨RX5, "stranger", "(III)I"⟩
abbrev cX5_liar : ByteArray := prog_1_method_20_code
def yX5_liar : MethodName := ⟨RX5, "liar", "(IIIIII)I"⟩
abbrev cX5_other : ByteArray := prog_1_method_21_code
def yX5_other : MethodName := ⟨RX5, "other", "(I)I"⟩
abbrev cX5_drawn : ByteArray := prog_1_method_22_code
def yX5_drawn : MethodName := ⟨RX5, "drawn", "(I)I"⟩
abbrev cX5_seed : ByteArray := prog_1_method_23_code
def yX5_seed : MethodName := ⟨RX5, "seed", "(I)I"⟩
abbrev cX5_image : ByteArray := prog_1_method_24_code
def yX5_image : MethodName := ⟨RX5, "image", "()I"⟩
abbrev cX5_restore : ByteArray := prog_1_method_25_code
def yX5_restore : MethodName := ⟨RX5, "restore", "()I"⟩
abbrev cX5_fit : ByteArray := prog_1_method_26_code
def yX5_fit : MethodName := ⟨RX5, "fit", "(IIII)I"⟩
abbrev cX5_film : ByteArray := prog_1_method_27_code
def yX5_film : MethodName := ⟨RX5, "film", "(IIII)I"⟩
abbrev cX5_sheet : ByteArray := prog_1_method_28_code
def yX5_sheet : MethodName := ⟨RX5, "sheet", "(III)I"⟩
abbrev cX5_drop : ByteArray := prog_1_method_29_code
def yX5_drop : MethodName := ⟨RX5, "drop", "(I)I"⟩
abbrev cX5_item : ByteArray := prog_1_method_30_code
def yX5_item : MethodName := ⟨RX5, "item", "(IIIJ)I"⟩
abbrev cX5_copy : ByteArray := prog_1_method_31_code
def yX5_copy : MethodName := ⟨RX5, "copy", "(IIIII)I"⟩
abbrev cX5_within : ByteArray := prog_1_method_32_code
def yX5_within : MethodName := ⟨RX5, "within", "(III)Z"⟩
abbrev cX5_isMood : ByteArray := prog_1_method_33_code
def yX5_isMood : MethodName := ⟨RX5, "isMood", "(I)Z"⟩
abbrev cX5_isPails : ByteArray := prog_1_method_34_code
def yX5_isPails : MethodName := ⟨RX5, "isPails", "(J)Z"⟩
abbrev cX5_isSheet : ByteArray := prog_1_method_35_code
def yX5_isSheet : MethodName := ⟨RX5, "isSheet", "(I)Z"⟩
abbrev cX5_isLane : ByteArray := prog_1_method_36_code
def yX5_isLane : MethodName := ⟨RX5, "isLane", "(I)Z"⟩
abbrev cX5_asMood : ByteArray := prog_1_method_37_code
def yX5_asMood : MethodName := ⟨RX5, "asMood", "(I)I"⟩
abbrev cX5_waned : ByteArray := prog_1_method_38_code
def yX5_waned : MethodName := ⟨RX5, "waned", "(I)I"⟩
abbrev cX5_rained : ByteArray := prog_1_method_39_code
def yX5_rained : MethodName := ⟨RX5, "rained", "(II)I"⟩
abbrev cX5_byteOf : ByteArray := prog_1_method_40_code
def yX5_byteOf : MethodName := ⟨RX5, "byteOf", "(JI)I"⟩
abbrev cX5_areSigns : ByteArray := prog_1_method_41_code
def yX5_areSigns : MethodName := ⟨RX5, "areSigns", "(JI)Z"⟩
abbrev cX5_isTale : ByteArray := prog_1_method_42_code
def yX5_isTale : MethodName := ⟨RX5, "isTale", "(III)Z"⟩
abbrev cX5_mostFrom : ByteArray := prog_1_method_43_code
def yX5_mostFrom : MethodName := ⟨RX5, "mostFrom", "(II)I"⟩
abbrev cX5_mostInPeace : ByteArray := prog_1_method_44_code
def yX5_mostInPeace : MethodName := ⟨RX5, "mostInPeace", "(II)I"⟩
abbrev cX5_refusal : ByteArray := prog_1_method_45_code
def yX5_refusal : MethodName := ⟨RX5, "refusal", "(IIII)I"⟩
abbrev cX5_areDrawings : ByteArray := prog_1_method_46_code
def yX5_areDrawings : MethodName := ⟨RX5, "areDrawings", "(LWellMoods$Sheet;II)Z"⟩
abbrev cX5_fitsFrom : ByteArray := prog_1_method_47_code
def yX5_fitsFrom : MethodName := ⟨RX5, "fitsFrom", "(ILWellMoods$Sheet;II)Z"⟩
def RX6 : String := "WellMoodsModel"
def TX6 : u_T := fun k => match k with
  | 0 => ("WellMoodsModel", "kinds", "[I", true)
  | 1 => ("WellMoodsModel", "feels", "[I", true)
  | 2 => ("WellMoodsModel", "rests", "[I", true)
  | 3 => ("WellMoodsModel", "quarrels", "[I", true)
  | 4 => ("WellMoodsModel", "free", "[I", true)
  | 5 => ("WellMoodsModel", "many", "I", false)
  | 6 => ("WellMoodsModel", "mood", "I", false)
  | 7 => ("WellMoodsModel", "level", "I", false)
  | 8 => ("WellMoodsModel", "rain", "I", false)
  | 9 => ("WellMoodsModel", "sweet", "I", false)
  | 10 => ("WellMoodsModel", "salt", "I", false)
  | 11 => ("WellMoodsModel", "hour", "I", false)
  | 12 => ("WellMoodsModel", "ahead", "I", false)
  | 13 => ("WellMoodsModel", "plan", "[I", true)
  | 14 => ("WellMoodsModel", "planMany", "I", false)
  | 15 => ("WellMoodsModel", "draws", "I", false)
  | 16 => ("WellMoodsModel", "tape", "[I", true)
  | 17 => ("WellMoodsModel", "taped", "I", false)
  | 18 => ("WellMoodsModel", "place", "I", false)
  | 19 => ("WellMoodsModel", "reads", "I", false)
  | 20 => ("WellMoodsModel", "read", "[I", true)
  | 21 => ("WellMoodsModel", "tryMood", "I", false)
  | 22 => ("WellMoodsModel", "tryLevel", "I", false)
  | 23 => ("WellMoodsModel", "tryHour", "I", false)
  | 24 => ("WellMoodsModel", "tryAhead", "I", false)
  | 25 => ("WellMoodsModel", "tryPails", "I", false)
  | 26 => ("WellMoodsModel", "trySweet", "Z", false)
  | 27 => ("WellMoodsModel", "tryFree", "[I", true)
  | 28 => ("WellMoodsModel", "row", "[I", true)
  | 29 => ("WellMoodsModel", "best", "[I", true)
  | 30 => ("WellMoodsModel", "isKept", "Z", false)
  | 31 => ("WellMoodsModel", "kept", "[I", true)
  | 32 => ("WellMoodsModel", "lanes", "[I", true)
  | 33 => ("WellMoodsModel", "rowSizes", "[I", true)
  | 34 => ("WellMoodsModel", "items", "[J", true)
  | _ => ("WellMoodsModel", "moved", "[J", true)
def tyX6 : Nat → FieldType := fun k => match k with
  | 0 => .array .int
  | 1 => .array .int
  | 2 => .array .int
  | 3 => .array .int
  | 4 => .array .int
  | 5 => .int
  | 6 => .int
  | 7 => .int
  | 8 => .int
  | 9 => .int
  | 10 => .int
  | 11 => .int
  | 12 => .int
  | 13 => .array .int
  | 14 => .int
  | 15 => .int
  | 16 => .array .int
  | 17 => .int
  | 18 => .int
  | 19 => .int
  | 20 => .array .int
  | 21 => .int
  | 22 => .int
  | 23 => .int
  | 24 => .int
  | 25 => .int
  | 26 => .boolean
  | 27 => .array .int
  | 28 => .array .int
  | 29 => .array .int
  | 30 => .boolean
  | 31 => .array .int
  | 32 => .array .int
  | 33 => .array .int
  | 34 => .array .long
  | _ => .array .long
abbrev wsX60 : List Cond := u_ws RX6 TX6 36
theorem nmX6 : ∀ a, a < 36 → ∀ b, b < 36 → a ≠ b → (TX6 a).2.1 ≠ (TX6 b).2.1 := by decide +kernel
theorem tyX6_ok : ∀ k, k < 36 → parseFieldDescriptor (TX6 k).2.2.1 = some (tyX6 k) := by decide +kernel
abbrev cX6_init : ByteArray := prog_8_method_1_code
def yX6_init : MethodName := ⟨RX6, "<init>", "()V"⟩
abbrev cX6_in : ByteArray := prog_8_method_2_code
def yX6_in : MethodName := ⟨RX6, "in", "(JJJ)Z"⟩
abbrev cX6_has : ByteArray := prog_8_method_3_code
def yX6_has : MethodName := ⟨RX6, "has", "(II)Z"⟩
abbrev cX6_isOne : ByteArray := prog_8_method_4_code
def yX6_isOne : MethodName := ⟨RX6, "isOne", "(I)Z"⟩
abbrev cX6_isMood : ByteArray := prog_8_method_5_code
def yX6_isMood : MethodName := ⟨RX6, "isMood", "(I)Z"⟩
abbrev cX6_add : ByteArray := prog_8_method_6_code
def yX6_add : MethodName := ⟨RX6, "add", "(III)V"⟩
abbrev cX6_folk : ByteArray := prog_8_method_7_code
def yX6_folk : MethodName := ⟨RX6, "folk", "(III)I"⟩
abbrev cX6_told : ByteArray := prog_8_method_8_code
def yX6_told : MethodName := ⟨RX6, "told", "(II)I"⟩
abbrev cX6_setQuarrel : ByteArray := prog_8_method_9_code
def yX6_setQuarrel : MethodName := ⟨RX6, "setQuarrel", "(IIZ)V"⟩
abbrev cX6_quarrel : ByteArray := prog_8_method_10_code
def yX6_quarrel : MethodName := ⟨RX6, "quarrel", "(IIZ)I"⟩
abbrev cX6_set : ByteArray := prog_8_method_11_code
def yX6_set : MethodName := ⟨RX6, "set", "(II)I"⟩
abbrev cX6_is : ByteArray := prog_8_method_12_code
def yX6_is : MethodName := ⟨RX6, "is", "(I)I"⟩
abbrev cX6_type : ByteArray := prog_8_method_13_code
def yX6_type : MethodName := ⟨RX6, "type", "(JI)I"⟩
abbrev cX6_nextByte : ByteArray := prog_8_method_14_code
def yX6_nextByte : MethodName := ⟨RX6, "nextByte", "()I"⟩
abbrev cX6_readDigit : ByteArray := prog_8_method_15_code
def yX6_readDigit : MethodName := ⟨RX6, "readDigit", "(II)I"⟩
abbrev cX6_readOne : ByteArray := prog_8_method_16_code
def yX6_readOne : MethodName := ⟨RX6, "readOne", "(I)Z"⟩
abbrev cX6_readVillage : ByteArray := prog_8_method_17_code
def yX6_readVillage : MethodName := ⟨RX6, "readVillage", "()Z"⟩
abbrev cX6_village : ByteArray := prog_8_method_18_code
def yX6_village : MethodName := ⟨RX6, "village", "()I"⟩
abbrev cX6_readPlan : ByteArray := prog_8_method_19_code
def yX6_readPlan : MethodName := ⟨RX6, "readPlan", "()Z"⟩
abbrev cX6_plan : ByteArray := prog_8_method_20_code
def yX6_plan : MethodName := ⟨RX6, "plan", "()I"⟩
abbrev cX6_pailsOf : ByteArray := prog_8_method_21_code
def yX6_pailsOf : MethodName := ⟨RX6, "pailsOf", "(II)I"⟩
abbrev cX6_isSweet : ByteArray := prog_8_method_22_code
def yX6_isSweet : MethodName := ⟨RX6, "isSweet", "(II)Z"⟩
abbrev cX6_most9 : ByteArray := prog_8_method_23_code
def yX6_most9 : MethodName := ⟨RX6, "most9", "(I)I"⟩
abbrev cX6_wane : ByteArray := prog_8_method_24_code
def yX6_wane : MethodName := ⟨RX6, "wane", "(I)I"⟩
abbrev cX6_feltBy : ByteArray := prog_8_method_25_code
def yX6_feltBy : MethodName := ⟨RX6, "feltBy", "(I)I"⟩
abbrev cX6_begin : ByteArray := prog_8_method_26_code
def yX6_begin : MethodName := ⟨RX6, "begin", "()V"⟩
abbrev cX6_tryOne : ByteArray := prog_8_method_27_code
def yX6_tryOne : MethodName := ⟨RX6, "tryOne", "(I)Z"⟩
abbrev cX6_keep : ByteArray := prog_8_method_28_code
def yX6_keep : MethodName := ⟨RX6, "keep", "()V"⟩
abbrev cX6_goOn : ByteArray := prog_8_method_29_code
def yX6_goOn : MethodName := ⟨RX6, "goOn", "(I)I"⟩
abbrev cX6_may : ByteArray := prog_8_method_30_code
def yX6_may : MethodName := ⟨RX6, "may", "()I"⟩
abbrev cX6_draw : ByteArray := prog_8_method_31_code
def yX6_draw : MethodName := ⟨RX6, "draw", "(I)I"⟩
abbrev cX6_pass : ByteArray := prog_8_method_32_code
def yX6_pass : MethodName := ⟨RX6, "pass", "(I)I"⟩
abbrev cX6_run : ByteArray := prog_8_method_33_code
def yX6_run : MethodName := ⟨RX6, "run", "()I"⟩
abbrev cX6_nextRow : ByteArray := prog_8_method_34_code
def yX6_nextRow : MethodName := ⟨RX6, "nextRow", "(I)Z"⟩
abbrev cX6_findMost : ByteArray := prog_8_method_35_code
def yX6_findMost : MethodName := ⟨RX6, "findMost", "(II)I"⟩
abbrev cX6_most : ByteArray := prog_8_method_36_code
def yX6_most : MethodName := ⟨RX6, "most", "(I)I"⟩
abbrev cX6_row : ByteArray := prog_8_method_37_code
def yX6_row : MethodName := ⟨RX6, "row", "(II)I"⟩
abbrev cX6_fewest : ByteArray := prog_8_method_38_code
def yX6_fewest : MethodName := ⟨RX6, "fewest", "(I)I"⟩
abbrev cX6_peace : ByteArray := prog_8_method_39_code
def yX6_peace : MethodName := ⟨RX6, "peace", "()I"⟩
abbrev cX6_other : ByteArray := prog_8_method_40_code
def yX6_other : MethodName := ⟨RX6, "other", "(I)I"⟩
abbrev cX6_givesOf : ByteArray := prog_8_method_41_code
def yX6_givesOf : MethodName := ⟨RX6, "givesOf", "(II)I"⟩
abbrev cX6_gives : ByteArray := prog_8_method_42_code
def yX6_gives : MethodName := ⟨RX6, "gives", "(II)I"⟩
abbrev cX6_stranger : ByteArray := prog_8_method_43_code
def yX6_stranger : MethodName := ⟨RX6, "stranger", "(III)I"⟩
abbrev cX6_liar : ByteArray := prog_8_method_44_code
def yX6_liar : MethodName := ⟨RX6, "liar", "(IIIIII)I"⟩
abbrev cX6_drawn : ByteArray := prog_8_method_45_code
def yX6_drawn : MethodName := ⟨RX6, "drawn", "(I)I"⟩
abbrev cX6_seed : ByteArray := prog_8_method_46_code
def yX6_seed : MethodName := ⟨RX6, "seed", "(I)I"⟩
abbrev cX6_carried : ByteArray := prog_8_method_47_code
def yX6_carried : MethodName := ⟨RX6, "carried", "(IIZ)I"⟩
abbrev cX6_image : ByteArray := prog_8_method_48_code
def yX6_image : MethodName := ⟨RX6, "image", "()I"⟩
abbrev cX6_restore : ByteArray := prog_8_method_49_code
def yX6_restore : MethodName := ⟨RX6, "restore", "()I"⟩
abbrev cX6_isSheet : ByteArray := prog_8_method_50_code
def yX6_isSheet : MethodName := ⟨RX6, "isSheet", "(II)Z"⟩
abbrev cX6_asLane : ByteArray := prog_8_method_51_code
def yX6_asLane : MethodName := ⟨RX6, "asLane", "(IJ)J"⟩
abbrev cX6_sheet : ByteArray := prog_8_method_52_code
def yX6_sheet : MethodName := ⟨RX6, "sheet", "(III)I"⟩
abbrev cX6_drop : ByteArray := prog_8_method_53_code
def yX6_drop : MethodName := ⟨RX6, "drop", "(I)I"⟩
abbrev cX6_lacksRow : ByteArray := prog_8_method_54_code
def yX6_lacksRow : MethodName := ⟨RX6, "lacksRow", "(IIII)I"⟩
abbrev cX6_item : ByteArray := prog_8_method_55_code
def yX6_item : MethodName := ⟨RX6, "item", "(IIIJ)I"⟩
abbrev cX6_fits : ByteArray := prog_8_method_56_code
def yX6_fits : MethodName := ⟨RX6, "fits", "(III)Z"⟩
abbrev cX6_fit : ByteArray := prog_8_method_57_code
def yX6_fit : MethodName := ⟨RX6, "fit", "(IIII)I"⟩
abbrev cX6_film : ByteArray := prog_8_method_58_code
def yX6_film : MethodName := ⟨RX6, "film", "(IIII)I"⟩
abbrev cX6_copy : ByteArray := prog_8_method_59_code
def yX6_copy : MethodName := ⟨RX6, "copy", "(IIIII)I"⟩
def RJ6 : String := "java/lang/Integer"
def TJ6 : u_T := fun k => match k with
  | _ => ("", "", "", false)
def tyJ6 : Nat → FieldType := fun k => match k with
  | _ => .int
abbrev cJ6_compare_7cf53 : ByteArray := prog_9_method_40_code
def yJ6_compare_7cf53 : MethodName := ⟨RJ6, "compare", "(II)I"⟩
def RJ9 : String := "java/lang/Math"
def TJ9 : u_T := fun k => match k with
  | _ => ("", "", "", false)
def tyJ9 : Nat → FieldType := fun k => match k with
  | _ => .int
abbrev cJ9_max_7cf53 : ByteArray := prog_10_method_65_code
def yJ9_max_7cf53 : MethodName := ⟨RJ9, "max", "(II)I"⟩
abbrev cJ9_min_7cf53 : ByteArray := prog_10_method_69_code
def yJ9_min_7cf53 : MethodName := ⟨RJ9, "min", "(II)I"⟩
def RJ10 : String := "java/lang/System"
def TJ10 : u_T := fun k => match k with
  | _ => ("", "", "", false)
def tyJ10 : Nat → FieldType := fun k => match k with
  | _ => .int
def RL : String := "WellMoodsLaw"
abbrev cL_law : ByteArray := code
def yL_law : MethodName := ⟨RL, "law", "([I)Z"⟩
abbrev vwCl : List vw_C := [(RX0, TX0, 5), (RX1, TX1, 9), (RX2, TX2, 4), (RX3, TX3, 3), (RX4, TX4, 12), (RX5, TX5, 8), (RX6, TX6, 36)]
end
section
theorem dX0_init_0 : decode cX0_init 0 = .ok (.aload_n 0, 1) := by decide +kernel
theorem dX0_init_1 : decode cX0_init 1 = .ok (.invokespecial 3, 3) := by decide +kernel
theorem dX0_init_4 : decode cX0_init 4 = .ok (.aload_n 0, 1) := by decide +kernel
theorem dX0_init_5 : decode cX0_init 5 = .ok (.bipush 6, 2) := by decide +kernel
theorem dX0_init_7 : decode cX0_init 7 = .ok (.newarray .int, 2) := by decide +kernel
theorem dX0_init_9 : decode cX0_init 9 = .ok (.putfield 9, 3) := by decide +kernel
theorem dX0_init_12 : decode cX0_init 12 = .ok (.aload_n 0, 1) := by decide +kernel
theorem dX0_init_13 : decode cX0_init 13 = .ok (.bipush 6, 2) := by decide +kernel
theorem dX0_init_15 : decode cX0_init 15 = .ok (.newarray .int, 2) := by decide +kernel
theorem dX0_init_17 : decode cX0_init 17 = .ok (.putfield 15, 3) := by decide +kernel
theorem dX0_init_20 : decode cX0_init 20 = .ok (.aload_n 0, 1) := by decide +kernel
theorem dX0_init_21 : decode cX0_init 21 = .ok (.bipush 6, 2) := by decide +kernel
theorem dX0_init_23 : decode cX0_init 23 = .ok (.newarray .int, 2) := by decide +kernel
theorem dX0_init_25 : decode cX0_init 25 = .ok (.putfield 18, 3) := by decide +kernel
theorem dX0_init_28 : decode cX0_init 28 = .ok (.aload_n 0, 1) := by decide +kernel
theorem dX0_init_29 : decode cX0_init 29 = .ok (.bipush 6, 2) := by decide +kernel
theorem dX0_init_31 : decode cX0_init 31 = .ok (.newarray .int, 2) := by decide +kernel
theorem dX0_init_33 : decode cX0_init 33 = .ok (.putfield 21, 3) := by decide +kernel
theorem dX0_init_36 : decode cX0_init 36 = .ok (.aload_n 0, 1) := by decide +kernel
theorem dX0_init_37 : decode cX0_init 37 = .ok (.iconst 0, 1) := by decide +kernel
theorem dX0_init_38 : decode cX0_init 38 = .ok (.putfield 24, 3) := by decide +kernel
theorem dX0_init_41 : decode cX0_init 41 = .ok (.return_, 1) := by decide +kernel
theorem dX0_has_0 : decode cX0_has 0 = .ok (.iload_n 1, 1) := by decide +kernel
theorem dX0_has_1 : decode cX0_has 1 = .ok (.ifCond .lt 15, 3) := by decide +kernel
theorem dX0_has_4 : decode cX0_has 4 = .ok (.iload_n 1, 1) := by decide +kernel
theorem dX0_has_5 : decode cX0_has 5 = .ok (.aload_n 0, 1) := by decide +kernel
theorem dX0_has_6 : decode cX0_has 6 = .ok (.getfield 24, 3) := by decide +kernel
theorem dX0_has_9 : decode cX0_has 9 = .ok (.if_icmp .ge 7, 3) := by decide +kernel
theorem dX0_has_12 : decode cX0_has 12 = .ok (.iconst 1, 1) := by decide +kernel
theorem dX0_has_13 : decode cX0_has 13 = .ok (.goto 4, 3) := by decide +kernel
theorem dX0_has_16 : decode cX0_has 16 = .ok (.iconst 0, 1) := by decide +kernel
theorem dX0_has_17 : decode cX0_has 17 = .ok (.ireturn, 1) := by decide +kernel
theorem dX0_add_0 : decode cX0_add 0 = .ok (.aload_n 0, 1) := by decide +kernel
theorem dX0_add_1 : decode cX0_add 1 = .ok (.getfield 24, 3) := by decide +kernel
theorem dX0_add_4 : decode cX0_add 4 = .ok (.istore 4, 2) := by decide +kernel
theorem dX0_add_6 : decode cX0_add 6 = .ok (.iload 4, 2) := by decide +kernel
theorem dX0_add_8 : decode cX0_add 8 = .ok (.bipush 6, 2) := by decide +kernel
theorem dX0_add_10 : decode cX0_add 10 = .ok (.if_icmp .lt 6, 3) := by decide +kernel
theorem dX0_add_13 : decode cX0_add 13 = .ok (.bipush (-3), 2) := by decide +kernel
theorem dX0_add_15 : decode cX0_add 15 = .ok (.ireturn, 1) := by decide +kernel
theorem dX0_add_16 : decode cX0_add 16 = .ok (.aload_n 0, 1) := by decide +kernel
theorem dX0_add_17 : decode cX0_add 17 = .ok (.getfield 9, 3) := by decide +kernel
theorem dX0_add_20 : decode cX0_add 20 = .ok (.iload 4, 2) := by decide +kernel
theorem dX0_add_22 : decode cX0_add 22 = .ok (.iload_n 1, 1) := by decide +kernel
theorem dX0_add_23 : decode cX0_add 23 = .ok (.iastore, 1) := by decide +kernel
theorem dX0_add_24 : decode cX0_add 24 = .ok (.aload_n 0, 1) := by decide +kernel
theorem dX0_add_25 : decode cX0_add 25 = .ok (.getfield 15, 3) := by decide +kernel
theorem dX0_add_28 : decode cX0_add 28 = .ok (.iload 4, 2) := by decide +kernel
theorem dX0_add_30 : decode cX0_add 30 = .ok (.iload_n 2, 1) := by decide +kernel
theorem dX0_add_31 : decode cX0_add 31 = .ok (.iastore, 1) := by decide +kernel
theorem dX0_add_32 : decode cX0_add 32 = .ok (.aload_n 0, 1) := by decide +kernel
theorem dX0_add_33 : decode cX0_add 33 = .ok (.getfield 18, 3) := by decide +kernel
theorem dX0_add_36 : decode cX0_add 36 = .ok (.iload 4, 2) := by decide +kernel
theorem dX0_add_38 : decode cX0_add 38 = .ok (.iload_n 3, 1) := by decide +kernel
theorem dX0_add_39 : decode cX0_add 39 = .ok (.iastore, 1) := by decide +kernel
theorem dX0_add_40 : decode cX0_add 40 = .ok (.aload_n 0, 1) := by decide +kernel
theorem dX0_add_41 : decode cX0_add 41 = .ok (.getfield 21, 3) := by decide +kernel
theorem dX0_add_44 : decode cX0_add 44 = .ok (.iload 4, 2) := by decide +kernel
theorem dX0_add_46 : decode cX0_add 46 = .ok (.iconst 0, 1) := by decide +kernel
theorem dX0_add_47 : decode cX0_add 47 = .ok (.iastore, 1) := by decide +kernel
theorem dX0_add_48 : decode cX0_add 48 = .ok (.aload_n 0, 1) := by decide +kernel
theorem dX0_add_49 : decode cX0_add 49 = .ok (.iload 4, 2) := by decide +kernel
theorem dX0_add_51 : decode cX0_add 51 = .ok (.iconst 1, 1) := by decide +kernel
theorem dX0_add_52 : decode cX0_add 52 = .ok (.iadd, 1) := by decide +kernel
theorem dX0_add_53 : decode cX0_add 53 = .ok (.putfield 24, 3) := by decide +kernel
theorem dX0_add_56 : decode cX0_add 56 = .ok (.iload 4, 2) := by decide +kernel
theorem dX0_add_58 : decode cX0_add 58 = .ok (.ireturn, 1) := by decide +kernel
theorem dX0_become_0 : decode cX0_become 0 = .ok (.iconst 0, 1) := by decide +kernel
theorem dX0_become_1 : decode cX0_become 1 = .ok (.istore_n 2, 1) := by decide +kernel
theorem dX0_become_2 : decode cX0_become 2 = .ok (.iload_n 2, 1) := by decide +kernel
theorem dX0_become_3 : decode cX0_become 3 = .ok (.bipush 6, 2) := by decide +kernel
theorem dX0_become_5 : decode cX0_become 5 = .ok (.if_icmp .ge 57, 3) := by decide +kernel
theorem dX0_become_8 : decode cX0_become 8 = .ok (.aload_n 0, 1) := by decide +kernel
theorem dX0_become_9 : decode cX0_become 9 = .ok (.getfield 9, 3) := by decide +kernel
theorem dX0_become_12 : decode cX0_become 12 = .ok (.iload_n 2, 1) := by decide +kernel
theorem dX0_become_13 : decode cX0_become 13 = .ok (.aload_n 1, 1) := by decide +kernel
theorem dX0_become_14 : decode cX0_become 14 = .ok (.getfield 9, 3) := by decide +kernel
theorem dX0_become_17 : decode cX0_become 17 = .ok (.iload_n 2, 1) := by decide +kernel
theorem dX0_become_18 : decode cX0_become 18 = .ok (.iaload, 1) := by decide +kernel
theorem dX0_become_19 : decode cX0_become 19 = .ok (.iastore, 1) := by decide +kernel
theorem dX0_become_20 : decode cX0_become 20 = .ok (.aload_n 0, 1) := by decide +kernel
theorem dX0_become_21 : decode cX0_become 21 = .ok (.getfield 15, 3) := by decide +kernel
theorem dX0_become_24 : decode cX0_become 24 = .ok (.iload_n 2, 1) := by decide +kernel
theorem dX0_become_25 : decode cX0_become 25 = .ok (.aload_n 1, 1) := by decide +kernel
theorem dX0_become_26 : decode cX0_become 26 = .ok (.getfield 15, 3) := by decide +kernel
theorem dX0_become_29 : decode cX0_become 29 = .ok (.iload_n 2, 1) := by decide +kernel
theorem dX0_become_30 : decode cX0_become 30 = .ok (.iaload, 1) := by decide +kernel
theorem dX0_become_31 : decode cX0_become 31 = .ok (.iastore, 1) := by decide +kernel
theorem dX0_become_32 : decode cX0_become 32 = .ok (.aload_n 0, 1) := by decide +kernel
theorem dX0_become_33 : decode cX0_become 33 = .ok (.getfield 18, 3) := by decide +kernel
theorem dX0_become_36 : decode cX0_become 36 = .ok (.iload_n 2, 1) := by decide +kernel
theorem dX0_become_37 : decode cX0_become 37 = .ok (.aload_n 1, 1) := by decide +kernel
theorem dX0_become_38 : decode cX0_become 38 = .ok (.getfield 18, 3) := by decide +kernel
theorem dX0_become_41 : decode cX0_become 41 = .ok (.iload_n 2, 1) := by decide +kernel
theorem dX0_become_42 : decode cX0_become 42 = .ok (.iaload, 1) := by decide +kernel
theorem dX0_become_43 : decode cX0_become 43 = .ok (.iastore, 1) := by decide +kernel
theorem dX0_become_44 : decode cX0_become 44 = .ok (.aload_n 0, 1) := by decide +kernel
theorem dX0_become_45 : decode cX0_become 45 = .ok (.getfield 21, 3) := by decide +kernel
theorem dX0_become_48 : decode cX0_become 48 = .ok (.iload_n 2, 1) := by decide +kernel
theorem dX0_become_49 : decode cX0_become 49 = .ok (.aload_n 1, 1) := by decide +kernel
theorem dX0_become_50 : decode cX0_become 50 = .ok (.getfield 21, 3) := by decide +kernel
theorem dX0_become_53 : decode cX0_become 53 = .ok (.iload_n 2, 1) := by decide +kernel
theorem dX0_become_54 : decode cX0_become 54 = .ok (.iaload, 1) := by decide +kernel
theorem dX0_become_55 : decode cX0_become 55 = .ok (.iastore, 1) := by decide +kernel
theorem dX0_become_56 : decode cX0_become 56 = .ok (.iinc 2 1, 3) := by decide +kernel
theorem dX0_become_59 : decode cX0_become 59 = .ok (.goto (-57), 3) := by decide +kernel
theorem dX0_become_62 : decode cX0_become 62 = .ok (.aload_n 0, 1) := by decide +kernel
theorem dX0_become_63 : decode cX0_become 63 = .ok (.aload_n 1, 1) := by decide +kernel
theorem dX0_become_64 : decode cX0_become 64 = .ok (.getfield 24, 3) := by decide +kernel
theorem dX0_become_67 : decode cX0_become 67 = .ok (.putfield 24, 3) := by decide +kernel
theorem dX0_become_70 : decode cX0_become 70 = .ok (.return_, 1) := by decide +kernel
theorem dX0_areFoes_0 : decode cX0_areFoes 0 = .ok (.aload_n 0, 1) := by decide +kernel
theorem dX0_areFoes_1 : decode cX0_areFoes 1 = .ok (.iload_n 1, 1) := by decide +kernel
theorem dX0_areFoes_2 : decode cX0_areFoes 2 = .ok (.invokevirtual 28, 3) := by decide +kernel
theorem dX0_areFoes_5 : decode cX0_areFoes 5 = .ok (.ifCond .eq 29, 3) := by decide +kernel
theorem dX0_areFoes_8 : decode cX0_areFoes 8 = .ok (.aload_n 0, 1) := by decide +kernel
theorem dX0_areFoes_9 : decode cX0_areFoes 9 = .ok (.iload_n 2, 1) := by decide +kernel
theorem dX0_areFoes_10 : decode cX0_areFoes 10 = .ok (.invokevirtual 28, 3) := by decide +kernel
theorem dX0_areFoes_13 : decode cX0_areFoes 13 = .ok (.ifCond .eq 21, 3) := by decide +kernel
theorem dX0_areFoes_16 : decode cX0_areFoes 16 = .ok (.aload_n 0, 1) := by decide +kernel
theorem dX0_areFoes_17 : decode cX0_areFoes 17 = .ok (.getfield 21, 3) := by decide +kernel
theorem dX0_areFoes_20 : decode cX0_areFoes 20 = .ok (.iload_n 1, 1) := by decide +kernel
theorem dX0_areFoes_21 : decode cX0_areFoes 21 = .ok (.iaload, 1) := by decide +kernel
theorem dX0_areFoes_22 : decode cX0_areFoes 22 = .ok (.iload_n 2, 1) := by decide +kernel
theorem dX0_areFoes_23 : decode cX0_areFoes 23 = .ok (.ishr, 1) := by decide +kernel
theorem dX0_areFoes_24 : decode cX0_areFoes 24 = .ok (.iconst 1, 1) := by decide +kernel
theorem dX0_areFoes_25 : decode cX0_areFoes 25 = .ok (.iand, 1) := by decide +kernel
theorem dX0_areFoes_26 : decode cX0_areFoes 26 = .ok (.iconst 1, 1) := by decide +kernel
theorem dX0_areFoes_27 : decode cX0_areFoes 27 = .ok (.if_icmp .ne 7, 3) := by decide +kernel
theorem dX0_areFoes_30 : decode cX0_areFoes 30 = .ok (.iconst 1, 1) := by decide +kernel
theorem dX0_areFoes_31 : decode cX0_areFoes 31 = .ok (.goto 4, 3) := by decide +kernel
theorem dX0_areFoes_34 : decode cX0_areFoes 34 = .ok (.iconst 0, 1) := by decide +kernel
theorem dX0_areFoes_35 : decode cX0_areFoes 35 = .ok (.ireturn, 1) := by decide +kernel
theorem dX0_makeFoes_0 : decode cX0_makeFoes 0 = .ok (.aload_n 0, 1) := by decide +kernel
theorem dX0_makeFoes_1 : decode cX0_makeFoes 1 = .ok (.iload_n 1, 1) := by decide +kernel
theorem dX0_makeFoes_2 : decode cX0_makeFoes 2 = .ok (.invokevirtual 28, 3) := by decide +kernel
theorem dX0_makeFoes_5 : decode cX0_makeFoes 5 = .ok (.ifCond .eq 11, 3) := by decide +kernel
theorem dX0_makeFoes_8 : decode cX0_makeFoes 8 = .ok (.aload_n 0, 1) := by decide +kernel
theorem dX0_makeFoes_9 : decode cX0_makeFoes 9 = .ok (.iload_n 2, 1) := by decide +kernel
theorem dX0_makeFoes_10 : decode cX0_makeFoes 10 = .ok (.invokevirtual 28, 3) := by decide +kernel
theorem dX0_makeFoes_13 : decode cX0_makeFoes 13 = .ok (.ifCond .ne 4, 3) := by decide +kernel
theorem dX0_makeFoes_16 : decode cX0_makeFoes 16 = .ok (.return_, 1) := by decide +kernel
theorem dX0_makeFoes_17 : decode cX0_makeFoes 17 = .ok (.aload_n 0, 1) := by decide +kernel
theorem dX0_makeFoes_18 : decode cX0_makeFoes 18 = .ok (.getfield 21, 3) := by decide +kernel
theorem dX0_makeFoes_21 : decode cX0_makeFoes 21 = .ok (.iload_n 1, 1) := by decide +kernel
theorem dX0_makeFoes_22 : decode cX0_makeFoes 22 = .ok (.iload_n 3, 1) := by decide +kernel
theorem dX0_makeFoes_23 : decode cX0_makeFoes 23 = .ok (.ifCond .eq 16, 3) := by decide +kernel
theorem dX0_makeFoes_26 : decode cX0_makeFoes 26 = .ok (.aload_n 0, 1) := by decide +kernel
theorem dX0_makeFoes_27 : decode cX0_makeFoes 27 = .ok (.getfield 21, 3) := by decide +kernel
theorem dX0_makeFoes_30 : decode cX0_makeFoes 30 = .ok (.iload_n 1, 1) := by decide +kernel
theorem dX0_makeFoes_31 : decode cX0_makeFoes 31 = .ok (.iaload, 1) := by decide +kernel
theorem dX0_makeFoes_32 : decode cX0_makeFoes 32 = .ok (.iconst 1, 1) := by decide +kernel
theorem dX0_makeFoes_33 : decode cX0_makeFoes 33 = .ok (.iload_n 2, 1) := by decide +kernel
theorem dX0_makeFoes_34 : decode cX0_makeFoes 34 = .ok (.ishl, 1) := by decide +kernel
theorem dX0_makeFoes_35 : decode cX0_makeFoes 35 = .ok (.ior, 1) := by decide +kernel
theorem dX0_makeFoes_36 : decode cX0_makeFoes 36 = .ok (.goto 15, 3) := by decide +kernel
theorem dX0_makeFoes_39 : decode cX0_makeFoes 39 = .ok (.aload_n 0, 1) := by decide +kernel
theorem dX0_makeFoes_40 : decode cX0_makeFoes 40 = .ok (.getfield 21, 3) := by decide +kernel
theorem dX0_makeFoes_43 : decode cX0_makeFoes 43 = .ok (.iload_n 1, 1) := by decide +kernel
theorem dX0_makeFoes_44 : decode cX0_makeFoes 44 = .ok (.iaload, 1) := by decide +kernel
theorem dX0_makeFoes_45 : decode cX0_makeFoes 45 = .ok (.iconst 1, 1) := by decide +kernel
theorem dX0_makeFoes_46 : decode cX0_makeFoes 46 = .ok (.iload_n 2, 1) := by decide +kernel
theorem dX0_makeFoes_47 : decode cX0_makeFoes 47 = .ok (.ishl, 1) := by decide +kernel
theorem dX0_makeFoes_48 : decode cX0_makeFoes 48 = .ok (.iconst (-1), 1) := by decide +kernel
theorem dX0_makeFoes_49 : decode cX0_makeFoes 49 = .ok (.ixor, 1) := by decide +kernel
theorem dX0_makeFoes_50 : decode cX0_makeFoes 50 = .ok (.iand, 1) := by decide +kernel
theorem dX0_makeFoes_51 : decode cX0_makeFoes 51 = .ok (.iastore, 1) := by decide +kernel
theorem dX0_makeFoes_52 : decode cX0_makeFoes 52 = .ok (.aload_n 0, 1) := by decide +kernel
theorem dX0_makeFoes_53 : decode cX0_makeFoes 53 = .ok (.getfield 21, 3) := by decide +kernel
theorem dX0_makeFoes_56 : decode cX0_makeFoes 56 = .ok (.iload_n 2, 1) := by decide +kernel
theorem dX0_makeFoes_57 : decode cX0_makeFoes 57 = .ok (.iload_n 3, 1) := by decide +kernel
theorem dX0_makeFoes_58 : decode cX0_makeFoes 58 = .ok (.ifCond .eq 16, 3) := by decide +kernel
theorem dX0_makeFoes_61 : decode cX0_makeFoes 61 = .ok (.aload_n 0, 1) := by decide +kernel
theorem dX0_makeFoes_62 : decode cX0_makeFoes 62 = .ok (.getfield 21, 3) := by decide +kernel
theorem dX0_makeFoes_65 : decode cX0_makeFoes 65 = .ok (.iload_n 2, 1) := by decide +kernel
theorem dX0_makeFoes_66 : decode cX0_makeFoes 66 = .ok (.iaload, 1) := by decide +kernel
theorem dX0_makeFoes_67 : decode cX0_makeFoes 67 = .ok (.iconst 1, 1) := by decide +kernel
theorem dX0_makeFoes_68 : decode cX0_makeFoes 68 = .ok (.iload_n 1, 1) := by decide +kernel
theorem dX0_makeFoes_69 : decode cX0_makeFoes 69 = .ok (.ishl, 1) := by decide +kernel
theorem dX0_makeFoes_70 : decode cX0_makeFoes 70 = .ok (.ior, 1) := by decide +kernel
theorem dX0_makeFoes_71 : decode cX0_makeFoes 71 = .ok (.goto 15, 3) := by decide +kernel
theorem dX0_makeFoes_74 : decode cX0_makeFoes 74 = .ok (.aload_n 0, 1) := by decide +kernel
theorem dX0_makeFoes_75 : decode cX0_makeFoes 75 = .ok (.getfield 21, 3) := by decide +kernel
theorem dX0_makeFoes_78 : decode cX0_makeFoes 78 = .ok (.iload_n 2, 1) := by decide +kernel
theorem dX0_makeFoes_79 : decode cX0_makeFoes 79 = .ok (.iaload, 1) := by decide +kernel
theorem dX0_makeFoes_80 : decode cX0_makeFoes 80 = .ok (.iconst 1, 1) := by decide +kernel
theorem dX0_makeFoes_81 : decode cX0_makeFoes 81 = .ok (.iload_n 1, 1) := by decide +kernel
theorem dX0_makeFoes_82 : decode cX0_makeFoes 82 = .ok (.ishl, 1) := by decide +kernel
theorem dX0_makeFoes_83 : decode cX0_makeFoes 83 = .ok (.iconst (-1), 1) := by decide +kernel
theorem dX0_makeFoes_84 : decode cX0_makeFoes 84 = .ok (.ixor, 1) := by decide +kernel
theorem dX0_makeFoes_85 : decode cX0_makeFoes 85 = .ok (.iand, 1) := by decide +kernel
theorem dX0_makeFoes_86 : decode cX0_makeFoes 86 = .ok (.iastore, 1) := by decide +kernel
theorem dX0_makeFoes_87 : decode cX0_makeFoes 87 = .ok (.return_, 1) := by decide +kernel
theorem dX0_pailsAt_0 : decode cX0_pailsAt 0 = .ok (.iconst 4, 1) := by decide +kernel
theorem dX0_pailsAt_1 : decode cX0_pailsAt 1 = .ok (.istore_n 3, 1) := by decide +kernel
theorem dX0_pailsAt_2 : decode cX0_pailsAt 2 = .ok (.aload_n 0, 1) := by decide +kernel
theorem dX0_pailsAt_3 : decode cX0_pailsAt 3 = .ok (.getfield 9, 3) := by decide +kernel
theorem dX0_pailsAt_6 : decode cX0_pailsAt 6 = .ok (.iload_n 1, 1) := by decide +kernel
theorem dX0_pailsAt_7 : decode cX0_pailsAt 7 = .ok (.iaload, 1) := by decide +kernel
theorem dX0_pailsAt_8 : decode cX0_pailsAt 8 = .ok (.iconst 1, 1) := by decide +kernel
theorem dX0_pailsAt_9 : decode cX0_pailsAt 9 = .ok (.if_icmp .ne 8, 3) := by decide +kernel
theorem dX0_pailsAt_12 : decode cX0_pailsAt 12 = .ok (.iconst 5, 1) := by decide +kernel
theorem dX0_pailsAt_13 : decode cX0_pailsAt 13 = .ok (.istore_n 3, 1) := by decide +kernel
theorem dX0_pailsAt_14 : decode cX0_pailsAt 14 = .ok (.goto 15, 3) := by decide +kernel
theorem dX0_pailsAt_17 : decode cX0_pailsAt 17 = .ok (.aload_n 0, 1) := by decide +kernel
theorem dX0_pailsAt_18 : decode cX0_pailsAt 18 = .ok (.getfield 9, 3) := by decide +kernel
theorem dX0_pailsAt_21 : decode cX0_pailsAt 21 = .ok (.iload_n 1, 1) := by decide +kernel
theorem dX0_pailsAt_22 : decode cX0_pailsAt 22 = .ok (.iaload, 1) := by decide +kernel
theorem dX0_pailsAt_23 : decode cX0_pailsAt 23 = .ok (.iconst 3, 1) := by decide +kernel
theorem dX0_pailsAt_24 : decode cX0_pailsAt 24 = .ok (.if_icmp .ne 5, 3) := by decide +kernel
theorem dX0_pailsAt_27 : decode cX0_pailsAt 27 = .ok (.iconst 2, 1) := by decide +kernel
theorem dX0_pailsAt_28 : decode cX0_pailsAt 28 = .ok (.istore_n 3, 1) := by decide +kernel
theorem dX0_pailsAt_29 : decode cX0_pailsAt 29 = .ok (.iconst 0, 1) := by decide +kernel
theorem dX0_pailsAt_30 : decode cX0_pailsAt 30 = .ok (.bipush 9, 2) := by decide +kernel
theorem dX0_pailsAt_32 : decode cX0_pailsAt 32 = .ok (.iload_n 3, 1) := by decide +kernel
theorem dX0_pailsAt_33 : decode cX0_pailsAt 33 = .ok (.iload_n 2, 1) := by decide +kernel
theorem dX0_pailsAt_34 : decode cX0_pailsAt 34 = .ok (.iadd, 1) := by decide +kernel
theorem dX0_pailsAt_35 : decode cX0_pailsAt 35 = .ok (.invokestatic 32, 3) := by decide +kernel
theorem dX0_pailsAt_38 : decode cX0_pailsAt 38 = .ok (.invokestatic 38, 3) := by decide +kernel
theorem dX0_pailsAt_41 : decode cX0_pailsAt 41 = .ok (.ireturn, 1) := by decide +kernel
theorem dX0_pailsBehind_0 : decode cX0_pailsBehind 0 = .ok (.aload_n 0, 1) := by decide +kernel
theorem dX0_pailsBehind_1 : decode cX0_pailsBehind 1 = .ok (.iload_n 1, 1) := by decide +kernel
theorem dX0_pailsBehind_2 : decode cX0_pailsBehind 2 = .ok (.iload_n 2, 1) := by decide +kernel
theorem dX0_pailsBehind_3 : decode cX0_pailsBehind 3 = .ok (.invokevirtual 41, 3) := by decide +kernel
theorem dX0_pailsBehind_6 : decode cX0_pailsBehind 6 = .ok (.ifCond .eq 7, 3) := by decide +kernel
theorem dX0_pailsBehind_9 : decode cX0_pailsBehind 9 = .ok (.iconst 0, 1) := by decide +kernel
theorem dX0_pailsBehind_10 : decode cX0_pailsBehind 10 = .ok (.goto 14, 3) := by decide +kernel
theorem dX0_pailsBehind_13 : decode cX0_pailsBehind 13 = .ok (.iload 4, 2) := by decide +kernel
theorem dX0_pailsBehind_15 : decode cX0_pailsBehind 15 = .ok (.aload_n 0, 1) := by decide +kernel
theorem dX0_pailsBehind_16 : decode cX0_pailsBehind 16 = .ok (.iload_n 2, 1) := by decide +kernel
theorem dX0_pailsBehind_17 : decode cX0_pailsBehind 17 = .ok (.iload_n 3, 1) := by decide +kernel
theorem dX0_pailsBehind_18 : decode cX0_pailsBehind 18 = .ok (.invokevirtual 45, 3) := by decide +kernel
theorem dX0_pailsBehind_21 : decode cX0_pailsBehind 21 = .ok (.invokestatic 32, 3) := by decide +kernel
theorem dX0_pailsBehind_24 : decode cX0_pailsBehind 24 = .ok (.ireturn, 1) := by decide +kernel
theorem dX0_isSweet_0 : decode cX0_isSweet 0 = .ok (.aload_n 0, 1) := by decide +kernel
theorem dX0_isSweet_1 : decode cX0_isSweet 1 = .ok (.getfield 9, 3) := by decide +kernel
theorem dX0_isSweet_4 : decode cX0_isSweet 4 = .ok (.iload_n 1, 1) := by decide +kernel
theorem dX0_isSweet_5 : decode cX0_isSweet 5 = .ok (.iaload, 1) := by decide +kernel
theorem dX0_isSweet_6 : decode cX0_isSweet 6 = .ok (.iconst 1, 1) := by decide +kernel
theorem dX0_isSweet_7 : decode cX0_isSweet 7 = .ok (.if_icmp .eq 16, 3) := by decide +kernel
theorem dX0_isSweet_10 : decode cX0_isSweet 10 = .ok (.aload_n 0, 1) := by decide +kernel
theorem dX0_isSweet_11 : decode cX0_isSweet 11 = .ok (.getfield 9, 3) := by decide +kernel
theorem dX0_isSweet_14 : decode cX0_isSweet 14 = .ok (.iload_n 1, 1) := by decide +kernel
theorem dX0_isSweet_15 : decode cX0_isSweet 15 = .ok (.iaload, 1) := by decide +kernel
theorem dX0_isSweet_16 : decode cX0_isSweet 16 = .ok (.ifCond .ne 11, 3) := by decide +kernel
theorem dX0_isSweet_19 : decode cX0_isSweet 19 = .ok (.iload_n 2, 1) := by decide +kernel
theorem dX0_isSweet_20 : decode cX0_isSweet 20 = .ok (.ifCond .lt 7, 3) := by decide +kernel
theorem dX0_isSweet_23 : decode cX0_isSweet 23 = .ok (.iconst 1, 1) := by decide +kernel
theorem dX0_isSweet_24 : decode cX0_isSweet 24 = .ok (.goto 4, 3) := by decide +kernel
theorem dX0_isSweet_27 : decode cX0_isSweet 27 = .ok (.iconst 0, 1) := by decide +kernel
theorem dX0_isSweet_28 : decode cX0_isSweet 28 = .ok (.ireturn, 1) := by decide +kernel
theorem dX0_moodBehind_0 : decode cX0_moodBehind 0 = .ok (.aload_n 0, 1) := by decide +kernel
theorem dX0_moodBehind_1 : decode cX0_moodBehind 1 = .ok (.getfield 9, 3) := by decide +kernel
theorem dX0_moodBehind_4 : decode cX0_moodBehind 4 = .ok (.iload_n 1, 1) := by decide +kernel
theorem dX0_moodBehind_5 : decode cX0_moodBehind 5 = .ok (.iaload, 1) := by decide +kernel
theorem dX0_moodBehind_6 : decode cX0_moodBehind 6 = .ok (.iconst 3, 1) := by decide +kernel
theorem dX0_moodBehind_7 : decode cX0_moodBehind 7 = .ok (.if_icmp .ne 14, 3) := by decide +kernel
theorem dX0_moodBehind_10 : decode cX0_moodBehind 10 = .ok (.iload_n 2, 1) := by decide +kernel
theorem dX0_moodBehind_11 : decode cX0_moodBehind 11 = .ok (.aload_n 0, 1) := by decide +kernel
theorem dX0_moodBehind_12 : decode cX0_moodBehind 12 = .ok (.getfield 15, 3) := by decide +kernel
theorem dX0_moodBehind_15 : decode cX0_moodBehind 15 = .ok (.iload_n 1, 1) := by decide +kernel
theorem dX0_moodBehind_16 : decode cX0_moodBehind 16 = .ok (.iaload, 1) := by decide +kernel
theorem dX0_moodBehind_17 : decode cX0_moodBehind 17 = .ok (.isub, 1) := by decide +kernel
theorem dX0_moodBehind_18 : decode cX0_moodBehind 18 = .ok (.goto 11, 3) := by decide +kernel
theorem dX0_moodBehind_21 : decode cX0_moodBehind 21 = .ok (.iload_n 2, 1) := by decide +kernel
theorem dX0_moodBehind_22 : decode cX0_moodBehind 22 = .ok (.aload_n 0, 1) := by decide +kernel
theorem dX0_moodBehind_23 : decode cX0_moodBehind 23 = .ok (.getfield 15, 3) := by decide +kernel
theorem dX0_moodBehind_26 : decode cX0_moodBehind 26 = .ok (.iload_n 1, 1) := by decide +kernel
theorem dX0_moodBehind_27 : decode cX0_moodBehind 27 = .ok (.iaload, 1) := by decide +kernel
theorem dX0_moodBehind_28 : decode cX0_moodBehind 28 = .ok (.iadd, 1) := by decide +kernel
theorem dX0_moodBehind_29 : decode cX0_moodBehind 29 = .ok (.invokestatic 48, 3) := by decide +kernel
theorem dX0_moodBehind_32 : decode cX0_moodBehind 32 = .ok (.ireturn, 1) := by decide +kernel
theorem dX1_init_0 : decode cX1_init 0 = .ok (.aload_n 0, 1) := by decide +kernel
theorem dX1_init_1 : decode cX1_init 1 = .ok (.invokespecial 3, 3) := by decide +kernel
theorem dX1_init_4 : decode cX1_init 4 = .ok (.aload_n 0, 1) := by decide +kernel
theorem dX1_init_5 : decode cX1_init 5 = .ok (.new 9, 3) := by decide +kernel
theorem dX1_init_8 : decode cX1_init 8 = .ok (.dup, 1) := by decide +kernel
theorem dX1_init_9 : decode cX1_init 9 = .ok (.invokespecial 11, 3) := by decide +kernel
theorem dX1_init_12 : decode cX1_init 12 = .ok (.putfield 12, 3) := by decide +kernel
theorem dX1_init_15 : decode cX1_init 15 = .ok (.aload_n 0, 1) := by decide +kernel
theorem dX1_init_16 : decode cX1_init 16 = .ok (.bipush 6, 2) := by decide +kernel
theorem dX1_init_18 : decode cX1_init 18 = .ok (.newarray .int, 2) := by decide +kernel
theorem dX1_init_20 : decode cX1_init 20 = .ok (.putfield 18, 3) := by decide +kernel
theorem dX1_init_23 : decode cX1_init 23 = .ok (.aload_n 0, 1) := by decide +kernel
theorem dX1_init_24 : decode cX1_init 24 = .ok (.iconst 5, 1) := by decide +kernel
theorem dX1_init_25 : decode cX1_init 25 = .ok (.newarray .int, 2) := by decide +kernel
theorem dX1_init_27 : decode cX1_init 27 = .ok (.putfield 22, 3) := by decide +kernel
theorem dX1_init_30 : decode cX1_init 30 = .ok (.aload_n 0, 1) := by decide +kernel
theorem dX1_init_31 : decode cX1_init 31 = .ok (.iconst 5, 1) := by decide +kernel
theorem dX1_init_32 : decode cX1_init 32 = .ok (.newarray .int, 2) := by decide +kernel
theorem dX1_init_34 : decode cX1_init 34 = .ok (.putfield 25, 3) := by decide +kernel
theorem dX1_init_37 : decode cX1_init 37 = .ok (.aload_n 0, 1) := by decide +kernel
theorem dX1_init_38 : decode cX1_init 38 = .ok (.iconst 0, 1) := by decide +kernel
theorem dX1_init_39 : decode cX1_init 39 = .ok (.putfield 28, 3) := by decide +kernel
theorem dX1_init_42 : decode cX1_init 42 = .ok (.aload_n 0, 1) := by decide +kernel
theorem dX1_init_43 : decode cX1_init 43 = .ok (.iconst 0, 1) := by decide +kernel
theorem dX1_init_44 : decode cX1_init 44 = .ok (.putfield 32, 3) := by decide +kernel
theorem dX1_init_47 : decode cX1_init 47 = .ok (.aload_n 0, 1) := by decide +kernel
theorem dX1_init_48 : decode cX1_init 48 = .ok (.bipush 9, 2) := by decide +kernel
theorem dX1_init_50 : decode cX1_init 50 = .ok (.putfield 35, 3) := by decide +kernel
theorem dX1_init_53 : decode cX1_init 53 = .ok (.aload_n 0, 1) := by decide +kernel
theorem dX1_init_54 : decode cX1_init 54 = .ok (.iconst 0, 1) := by decide +kernel
theorem dX1_init_55 : decode cX1_init 55 = .ok (.putfield 38, 3) := by decide +kernel
theorem dX1_init_58 : decode cX1_init 58 = .ok (.aload_n 0, 1) := by decide +kernel
theorem dX1_init_59 : decode cX1_init 59 = .ok (.iconst 0, 1) := by decide +kernel
theorem dX1_init_60 : decode cX1_init 60 = .ok (.putfield 41, 3) := by decide +kernel
theorem dX1_init_63 : decode cX1_init 63 = .ok (.return_, 1) := by decide +kernel
theorem dX1_observe_0 : decode cX1_observe 0 = .ok (.aload_n 0, 1) := by decide +kernel
theorem dX1_observe_1 : decode cX1_observe 1 = .ok (.getfield 12, 3) := by decide +kernel
theorem dX1_observe_4 : decode cX1_observe 4 = .ok (.aload_n 1, 1) := by decide +kernel
theorem dX1_observe_5 : decode cX1_observe 5 = .ok (.getfield 44, 3) := by decide +kernel
theorem dX1_observe_8 : decode cX1_observe 8 = .ok (.invokevirtual 47, 3) := by decide +kernel
theorem dX1_observe_11 : decode cX1_observe 11 = .ok (.aload_n 1, 1) := by decide +kernel
theorem dX1_observe_12 : decode cX1_observe 12 = .ok (.getfield 51, 3) := by decide +kernel
theorem dX1_observe_15 : decode cX1_observe 15 = .ok (.iconst 0, 1) := by decide +kernel
theorem dX1_observe_16 : decode cX1_observe 16 = .ok (.aload_n 0, 1) := by decide +kernel
theorem dX1_observe_17 : decode cX1_observe 17 = .ok (.getfield 18, 3) := by decide +kernel
theorem dX1_observe_20 : decode cX1_observe 20 = .ok (.iconst 0, 1) := by decide +kernel
theorem dX1_observe_21 : decode cX1_observe 21 = .ok (.bipush 6, 2) := by decide +kernel
theorem dX1_observe_23 : decode cX1_observe 23 = .ok (.invokestatic 54, 3) := by decide +kernel
theorem dX1_observe_26 : decode cX1_observe 26 = .ok (.aload_n 0, 1) := by decide +kernel
theorem dX1_observe_27 : decode cX1_observe 27 = .ok (.aload_n 1, 1) := by decide +kernel
theorem dX1_observe_28 : decode cX1_observe 28 = .ok (.getfield 60, 3) := by decide +kernel
theorem dX1_observe_31 : decode cX1_observe 31 = .ok (.putfield 28, 3) := by decide +kernel
theorem dX1_observe_34 : decode cX1_observe 34 = .ok (.aload_n 0, 1) := by decide +kernel
theorem dX1_observe_35 : decode cX1_observe 35 = .ok (.aload_n 1, 1) := by decide +kernel
theorem dX1_observe_36 : decode cX1_observe 36 = .ok (.getfield 61, 3) := by decide +kernel
theorem dX1_observe_39 : decode cX1_observe 39 = .ok (.putfield 32, 3) := by decide +kernel
theorem dX1_observe_42 : decode cX1_observe 42 = .ok (.aload_n 0, 1) := by decide +kernel
theorem dX1_observe_43 : decode cX1_observe 43 = .ok (.aload_n 1, 1) := by decide +kernel
theorem dX1_observe_44 : decode cX1_observe 44 = .ok (.getfield 62, 3) := by decide +kernel
theorem dX1_observe_47 : decode cX1_observe 47 = .ok (.putfield 35, 3) := by decide +kernel
theorem dX1_observe_50 : decode cX1_observe 50 = .ok (.return_, 1) := by decide +kernel
theorem dX1_mostIn_0 : decode cX1_mostIn 0 = .ok (.aload_n 0, 1) := by decide +kernel
theorem dX1_mostIn_1 : decode cX1_mostIn 1 = .ok (.iload_n 1, 1) := by decide +kernel
theorem dX1_mostIn_2 : decode cX1_mostIn 2 = .ok (.iconst 5, 1) := by decide +kernel
theorem dX1_mostIn_3 : decode cX1_mostIn 3 = .ok (.invokestatic 63, 3) := by decide +kernel
theorem dX1_mostIn_6 : decode cX1_mostIn 6 = .ok (.putfield 38, 3) := by decide +kernel
theorem dX1_mostIn_9 : decode cX1_mostIn 9 = .ok (.aload_n 0, 1) := by decide +kernel
theorem dX1_mostIn_10 : decode cX1_mostIn 10 = .ok (.iconst (-1), 1) := by decide +kernel
theorem dX1_mostIn_11 : decode cX1_mostIn 11 = .ok (.putfield 41, 3) := by decide +kernel
theorem dX1_mostIn_14 : decode cX1_mostIn 14 = .ok (.aload_n 0, 1) := by decide +kernel
theorem dX1_mostIn_15 : decode cX1_mostIn 15 = .ok (.iconst 0, 1) := by decide +kernel
theorem dX1_mostIn_16 : decode cX1_mostIn 16 = .ok (.iload_n 2, 1) := by decide +kernel
theorem dX1_mostIn_17 : decode cX1_mostIn 17 = .ok (.aload_n 0, 1) := by decide +kernel
theorem dX1_mostIn_18 : decode cX1_mostIn 18 = .ok (.getfield 28, 3) := by decide +kernel
theorem dX1_mostIn_21 : decode cX1_mostIn 21 = .ok (.aload_n 0, 1) := by decide +kernel
theorem dX1_mostIn_22 : decode cX1_mostIn 22 = .ok (.getfield 35, 3) := by decide +kernel
theorem dX1_mostIn_25 : decode cX1_mostIn 25 = .ok (.iconst 0, 1) := by decide +kernel
theorem dX1_mostIn_26 : decode cX1_mostIn 26 = .ok (.invokevirtual 69, 3) := by decide +kernel
theorem dX1_mostIn_29 : decode cX1_mostIn 29 = .ok (.aload_n 0, 1) := by decide +kernel
theorem dX1_mostIn_30 : decode cX1_mostIn 30 = .ok (.getfield 41, 3) := by decide +kernel
theorem dX1_mostIn_33 : decode cX1_mostIn 33 = .ok (.ireturn, 1) := by decide +kernel
theorem dX1_tryHour_0 : decode cX1_tryHour 0 = .ok (.iload_n 1, 1) := by decide +kernel
theorem dX1_tryHour_1 : decode cX1_tryHour 1 = .ok (.aload_n 0, 1) := by decide +kernel
theorem dX1_tryHour_2 : decode cX1_tryHour 2 = .ok (.getfield 38, 3) := by decide +kernel
theorem dX1_tryHour_5 : decode cX1_tryHour 5 = .ok (.if_icmp .lt 10, 3) := by decide +kernel
theorem dX1_tryHour_8 : decode cX1_tryHour 8 = .ok (.aload_n 0, 1) := by decide +kernel
theorem dX1_tryHour_9 : decode cX1_tryHour 9 = .ok (.iload 5, 2) := by decide +kernel
theorem dX1_tryHour_11 : decode cX1_tryHour 11 = .ok (.invokevirtual 73, 3) := by decide +kernel
theorem dX1_tryHour_14 : decode cX1_tryHour 14 = .ok (.return_, 1) := by decide +kernel
theorem dX1_tryHour_15 : decode cX1_tryHour 15 = .ok (.iload 5, 2) := by decide +kernel
theorem dX1_tryHour_17 : decode cX1_tryHour 17 = .ok (.aload_n 0, 1) := by decide +kernel
theorem dX1_tryHour_18 : decode cX1_tryHour 18 = .ok (.getfield 38, 3) := by decide +kernel
theorem dX1_tryHour_21 : decode cX1_tryHour 21 = .ok (.iload_n 1, 1) := by decide +kernel
theorem dX1_tryHour_22 : decode cX1_tryHour 22 = .ok (.isub, 1) := by decide +kernel
theorem dX1_tryHour_23 : decode cX1_tryHour 23 = .ok (.bipush 9, 2) := by decide +kernel
theorem dX1_tryHour_25 : decode cX1_tryHour 25 = .ok (.imul, 1) := by decide +kernel
theorem dX1_tryHour_26 : decode cX1_tryHour 26 = .ok (.iadd, 1) := by decide +kernel
theorem dX1_tryHour_27 : decode cX1_tryHour 27 = .ok (.aload_n 0, 1) := by decide +kernel
theorem dX1_tryHour_28 : decode cX1_tryHour 28 = .ok (.getfield 41, 3) := by decide +kernel
theorem dX1_tryHour_31 : decode cX1_tryHour 31 = .ok (.if_icmp .gt 4, 3) := by decide +kernel
theorem dX1_tryHour_34 : decode cX1_tryHour 34 = .ok (.return_, 1) := by decide +kernel
theorem dX1_tryHour_35 : decode cX1_tryHour 35 = .ok (.iconst 0, 1) := by decide +kernel
theorem dX1_tryHour_36 : decode cX1_tryHour 36 = .ok (.istore 6, 2) := by decide +kernel
theorem dX1_tryHour_38 : decode cX1_tryHour 38 = .ok (.iload 6, 2) := by decide +kernel
theorem dX1_tryHour_40 : decode cX1_tryHour 40 = .ok (.aload_n 0, 1) := by decide +kernel
theorem dX1_tryHour_41 : decode cX1_tryHour 41 = .ok (.getfield 12, 3) := by decide +kernel
theorem dX1_tryHour_44 : decode cX1_tryHour 44 = .ok (.getfield 77, 3) := by decide +kernel
theorem dX1_tryHour_47 : decode cX1_tryHour 47 = .ok (.if_icmp .ge 33, 3) := by decide +kernel
theorem dX1_tryHour_50 : decode cX1_tryHour 50 = .ok (.aload_n 0, 1) := by decide +kernel
theorem dX1_tryHour_51 : decode cX1_tryHour 51 = .ok (.getfield 18, 3) := by decide +kernel
theorem dX1_tryHour_54 : decode cX1_tryHour 54 = .ok (.iload 6, 2) := by decide +kernel
theorem dX1_tryHour_56 : decode cX1_tryHour 56 = .ok (.iaload, 1) := by decide +kernel
theorem dX1_tryHour_57 : decode cX1_tryHour 57 = .ok (.iload_n 1, 1) := by decide +kernel
theorem dX1_tryHour_58 : decode cX1_tryHour 58 = .ok (.if_icmp .gt 16, 3) := by decide +kernel
theorem dX1_tryHour_61 : decode cX1_tryHour 61 = .ok (.aload_n 0, 1) := by decide +kernel
theorem dX1_tryHour_62 : decode cX1_tryHour 62 = .ok (.iload 6, 2) := by decide +kernel
theorem dX1_tryHour_64 : decode cX1_tryHour 64 = .ok (.iload_n 1, 1) := by decide +kernel
theorem dX1_tryHour_65 : decode cX1_tryHour 65 = .ok (.iload_n 2, 1) := by decide +kernel
theorem dX1_tryHour_66 : decode cX1_tryHour 66 = .ok (.iload_n 3, 1) := by decide +kernel
theorem dX1_tryHour_67 : decode cX1_tryHour 67 = .ok (.iload 4, 2) := by decide +kernel
theorem dX1_tryHour_69 : decode cX1_tryHour 69 = .ok (.iload 5, 2) := by decide +kernel
theorem dX1_tryHour_71 : decode cX1_tryHour 71 = .ok (.invokevirtual 80, 3) := by decide +kernel
theorem dX1_tryHour_74 : decode cX1_tryHour 74 = .ok (.iinc 6 1, 3) := by decide +kernel
theorem dX1_tryHour_77 : decode cX1_tryHour 77 = .ok (.goto (-39), 3) := by decide +kernel
theorem dX1_tryHour_80 : decode cX1_tryHour 80 = .ok (.aload_n 0, 1) := by decide +kernel
theorem dX1_tryHour_81 : decode cX1_tryHour 81 = .ok (.getfield 22, 3) := by decide +kernel
theorem dX1_tryHour_84 : decode cX1_tryHour 84 = .ok (.iload_n 1, 1) := by decide +kernel
theorem dX1_tryHour_85 : decode cX1_tryHour 85 = .ok (.bipush 9, 2) := by decide +kernel
theorem dX1_tryHour_87 : decode cX1_tryHour 87 = .ok (.iastore, 1) := by decide +kernel
theorem dX1_tryHour_88 : decode cX1_tryHour 88 = .ok (.aload_n 0, 1) := by decide +kernel
theorem dX1_tryHour_89 : decode cX1_tryHour 89 = .ok (.iload_n 1, 1) := by decide +kernel
theorem dX1_tryHour_90 : decode cX1_tryHour 90 = .ok (.iconst 1, 1) := by decide +kernel
theorem dX1_tryHour_91 : decode cX1_tryHour 91 = .ok (.iadd, 1) := by decide +kernel
theorem dX1_tryHour_92 : decode cX1_tryHour 92 = .ok (.iload_n 2, 1) := by decide +kernel
theorem dX1_tryHour_93 : decode cX1_tryHour 93 = .ok (.invokestatic 84, 3) := by decide +kernel
theorem dX1_tryHour_96 : decode cX1_tryHour 96 = .ok (.iload_n 3, 1) := by decide +kernel
theorem dX1_tryHour_97 : decode cX1_tryHour 97 = .ok (.aload_n 0, 1) := by decide +kernel
theorem dX1_tryHour_98 : decode cX1_tryHour 98 = .ok (.getfield 32, 3) := by decide +kernel
theorem dX1_tryHour_101 : decode cX1_tryHour 101 = .ok (.invokestatic 88, 3) := by decide +kernel
theorem dX1_tryHour_104 : decode cX1_tryHour 104 = .ok (.bipush 9, 2) := by decide +kernel
theorem dX1_tryHour_106 : decode cX1_tryHour 106 = .ok (.iload 5, 2) := by decide +kernel
theorem dX1_tryHour_108 : decode cX1_tryHour 108 = .ok (.invokevirtual 69, 3) := by decide +kernel
theorem dX1_tryHour_111 : decode cX1_tryHour 111 = .ok (.return_, 1) := by decide +kernel
theorem dX1_tryDrawing_0 : decode cX1_tryDrawing 0 = .ok (.aload_n 0, 1) := by decide +kernel
theorem dX1_tryDrawing_1 : decode cX1_tryDrawing 1 = .ok (.getfield 12, 3) := by decide +kernel
theorem dX1_tryDrawing_4 : decode cX1_tryDrawing 4 = .ok (.iload 5, 2) := by decide +kernel
theorem dX1_tryDrawing_6 : decode cX1_tryDrawing 6 = .ok (.iload_n 1, 1) := by decide +kernel
theorem dX1_tryDrawing_7 : decode cX1_tryDrawing 7 = .ok (.iload_n 3, 1) := by decide +kernel
theorem dX1_tryDrawing_8 : decode cX1_tryDrawing 8 = .ok (.iload 4, 2) := by decide +kernel
theorem dX1_tryDrawing_10 : decode cX1_tryDrawing 10 = .ok (.invokevirtual 91, 3) := by decide +kernel
theorem dX1_tryDrawing_13 : decode cX1_tryDrawing 13 = .ok (.istore 7, 2) := by decide +kernel
theorem dX1_tryDrawing_15 : decode cX1_tryDrawing 15 = .ok (.aload_n 0, 1) := by decide +kernel
theorem dX1_tryDrawing_16 : decode cX1_tryDrawing 16 = .ok (.getfield 12, 3) := by decide +kernel
theorem dX1_tryDrawing_19 : decode cX1_tryDrawing 19 = .ok (.iload_n 1, 1) := by decide +kernel
theorem dX1_tryDrawing_20 : decode cX1_tryDrawing 20 = .ok (.iload_n 3, 1) := by decide +kernel
theorem dX1_tryDrawing_21 : decode cX1_tryDrawing 21 = .ok (.invokevirtual 95, 3) := by decide +kernel
theorem dX1_tryDrawing_24 : decode cX1_tryDrawing 24 = .ok (.ifCond .eq 8, 3) := by decide +kernel
theorem dX1_tryDrawing_27 : decode cX1_tryDrawing 27 = .ok (.iload 7, 2) := by decide +kernel
theorem dX1_tryDrawing_29 : decode cX1_tryDrawing 29 = .ok (.goto 4, 3) := by decide +kernel
theorem dX1_tryDrawing_32 : decode cX1_tryDrawing 32 = .ok (.iconst 0, 1) := by decide +kernel
theorem dX1_tryDrawing_33 : decode cX1_tryDrawing 33 = .ok (.istore 8, 2) := by decide +kernel
theorem dX1_tryDrawing_35 : decode cX1_tryDrawing 35 = .ok (.aload_n 0, 1) := by decide +kernel
theorem dX1_tryDrawing_36 : decode cX1_tryDrawing 36 = .ok (.getfield 18, 3) := by decide +kernel
theorem dX1_tryDrawing_39 : decode cX1_tryDrawing 39 = .ok (.iload_n 1, 1) := by decide +kernel
theorem dX1_tryDrawing_40 : decode cX1_tryDrawing 40 = .ok (.iaload, 1) := by decide +kernel
theorem dX1_tryDrawing_41 : decode cX1_tryDrawing 41 = .ok (.istore 9, 2) := by decide +kernel
theorem dX1_tryDrawing_43 : decode cX1_tryDrawing 43 = .ok (.aload_n 0, 1) := by decide +kernel
theorem dX1_tryDrawing_44 : decode cX1_tryDrawing 44 = .ok (.getfield 22, 3) := by decide +kernel
theorem dX1_tryDrawing_47 : decode cX1_tryDrawing 47 = .ok (.iload_n 2, 1) := by decide +kernel
theorem dX1_tryDrawing_48 : decode cX1_tryDrawing 48 = .ok (.iload_n 1, 1) := by decide +kernel
theorem dX1_tryDrawing_49 : decode cX1_tryDrawing 49 = .ok (.iastore, 1) := by decide +kernel
theorem dX1_tryDrawing_50 : decode cX1_tryDrawing 50 = .ok (.aload_n 0, 1) := by decide +kernel
theorem dX1_tryDrawing_51 : decode cX1_tryDrawing 51 = .ok (.getfield 18, 3) := by decide +kernel
theorem dX1_tryDrawing_54 : decode cX1_tryDrawing 54 = .ok (.iload_n 1, 1) := by decide +kernel
theorem dX1_tryDrawing_55 : decode cX1_tryDrawing 55 = .ok (.iload_n 2, 1) := by decide +kernel
theorem dX1_tryDrawing_56 : decode cX1_tryDrawing 56 = .ok (.aload_n 0, 1) := by decide +kernel
theorem dX1_tryDrawing_57 : decode cX1_tryDrawing 57 = .ok (.getfield 12, 3) := by decide +kernel
theorem dX1_tryDrawing_60 : decode cX1_tryDrawing 60 = .ok (.getfield 99, 3) := by decide +kernel
theorem dX1_tryDrawing_63 : decode cX1_tryDrawing 63 = .ok (.iload_n 1, 1) := by decide +kernel
theorem dX1_tryDrawing_64 : decode cX1_tryDrawing 64 = .ok (.iaload, 1) := by decide +kernel
theorem dX1_tryDrawing_65 : decode cX1_tryDrawing 65 = .ok (.iadd, 1) := by decide +kernel
theorem dX1_tryDrawing_66 : decode cX1_tryDrawing 66 = .ok (.iastore, 1) := by decide +kernel
theorem dX1_tryDrawing_67 : decode cX1_tryDrawing 67 = .ok (.aload_n 0, 1) := by decide +kernel
theorem dX1_tryDrawing_68 : decode cX1_tryDrawing 68 = .ok (.iload_n 2, 1) := by decide +kernel
theorem dX1_tryDrawing_69 : decode cX1_tryDrawing 69 = .ok (.iconst 1, 1) := by decide +kernel
theorem dX1_tryDrawing_70 : decode cX1_tryDrawing 70 = .ok (.iadd, 1) := by decide +kernel
theorem dX1_tryDrawing_71 : decode cX1_tryDrawing 71 = .ok (.aload_n 0, 1) := by decide +kernel
theorem dX1_tryDrawing_72 : decode cX1_tryDrawing 72 = .ok (.getfield 12, 3) := by decide +kernel
theorem dX1_tryDrawing_75 : decode cX1_tryDrawing 75 = .ok (.iload_n 1, 1) := by decide +kernel
theorem dX1_tryDrawing_76 : decode cX1_tryDrawing 76 = .ok (.iload_n 3, 1) := by decide +kernel
theorem dX1_tryDrawing_77 : decode cX1_tryDrawing 77 = .ok (.invokevirtual 102, 3) := by decide +kernel
theorem dX1_tryDrawing_80 : decode cX1_tryDrawing 80 = .ok (.invokestatic 84, 3) := by decide +kernel
theorem dX1_tryDrawing_83 : decode cX1_tryDrawing 83 = .ok (.iload 4, 2) := by decide +kernel
theorem dX1_tryDrawing_85 : decode cX1_tryDrawing 85 = .ok (.iload 7, 2) := by decide +kernel
theorem dX1_tryDrawing_87 : decode cX1_tryDrawing 87 = .ok (.isub, 1) := by decide +kernel
theorem dX1_tryDrawing_88 : decode cX1_tryDrawing 88 = .ok (.aload_n 0, 1) := by decide +kernel
theorem dX1_tryDrawing_89 : decode cX1_tryDrawing 89 = .ok (.getfield 32, 3) := by decide +kernel
theorem dX1_tryDrawing_92 : decode cX1_tryDrawing 92 = .ok (.invokestatic 88, 3) := by decide +kernel
theorem dX1_tryDrawing_95 : decode cX1_tryDrawing 95 = .ok (.iload_n 1, 1) := by decide +kernel
theorem dX1_tryDrawing_96 : decode cX1_tryDrawing 96 = .ok (.iload 6, 2) := by decide +kernel
theorem dX1_tryDrawing_98 : decode cX1_tryDrawing 98 = .ok (.iload 8, 2) := by decide +kernel
theorem dX1_tryDrawing_100 : decode cX1_tryDrawing 100 = .ok (.iadd, 1) := by decide +kernel
theorem dX1_tryDrawing_101 : decode cX1_tryDrawing 101 = .ok (.invokevirtual 69, 3) := by decide +kernel
theorem dX1_tryDrawing_104 : decode cX1_tryDrawing 104 = .ok (.aload_n 0, 1) := by decide +kernel
theorem dX1_tryDrawing_105 : decode cX1_tryDrawing 105 = .ok (.getfield 18, 3) := by decide +kernel
theorem dX1_tryDrawing_108 : decode cX1_tryDrawing 108 = .ok (.iload_n 1, 1) := by decide +kernel
theorem dX1_tryDrawing_109 : decode cX1_tryDrawing 109 = .ok (.iload 9, 2) := by decide +kernel
theorem dX1_tryDrawing_111 : decode cX1_tryDrawing 111 = .ok (.iastore, 1) := by decide +kernel
theorem dX1_tryDrawing_112 : decode cX1_tryDrawing 112 = .ok (.return_, 1) := by decide +kernel
theorem dX1_keep_0 : decode cX1_keep 0 = .ok (.iload_n 1, 1) := by decide +kernel
theorem dX1_keep_1 : decode cX1_keep 1 = .ok (.aload_n 0, 1) := by decide +kernel
theorem dX1_keep_2 : decode cX1_keep 2 = .ok (.getfield 41, 3) := by decide +kernel
theorem dX1_keep_5 : decode cX1_keep 5 = .ok (.if_icmp .le 25, 3) := by decide +kernel
theorem dX1_keep_8 : decode cX1_keep 8 = .ok (.aload_n 0, 1) := by decide +kernel
theorem dX1_keep_9 : decode cX1_keep 9 = .ok (.iload_n 1, 1) := by decide +kernel
theorem dX1_keep_10 : decode cX1_keep 10 = .ok (.putfield 41, 3) := by decide +kernel
theorem dX1_keep_13 : decode cX1_keep 13 = .ok (.aload_n 0, 1) := by decide +kernel
theorem dX1_keep_14 : decode cX1_keep 14 = .ok (.getfield 22, 3) := by decide +kernel
theorem dX1_keep_17 : decode cX1_keep 17 = .ok (.iconst 0, 1) := by decide +kernel
theorem dX1_keep_18 : decode cX1_keep 18 = .ok (.aload_n 0, 1) := by decide +kernel
theorem dX1_keep_19 : decode cX1_keep 19 = .ok (.getfield 25, 3) := by decide +kernel
theorem dX1_keep_22 : decode cX1_keep 22 = .ok (.iconst 0, 1) := by decide +kernel
theorem dX1_keep_23 : decode cX1_keep 23 = .ok (.aload_n 0, 1) := by decide +kernel
theorem dX1_keep_24 : decode cX1_keep 24 = .ok (.getfield 38, 3) := by decide +kernel
theorem dX1_keep_27 : decode cX1_keep 27 = .ok (.invokestatic 54, 3) := by decide +kernel
theorem dX1_keep_30 : decode cX1_keep 30 = .ok (.return_, 1) := by decide +kernel
theorem dX2_init_0 : decode cX2_init 0 = .ok (.aload_n 0, 1) := by decide +kernel
theorem dX2_init_1 : decode cX2_init 1 = .ok (.invokespecial 3, 3) := by decide +kernel
theorem dX2_init_4 : decode cX2_init 4 = .ok (.aload_n 0, 1) := by decide +kernel
theorem dX2_init_5 : decode cX2_init 5 = .ok (.bipush 24, 2) := by decide +kernel
theorem dX2_init_7 : decode cX2_init 7 = .ok (.newarray .long, 2) := by decide +kernel
theorem dX2_init_9 : decode cX2_init 9 = .ok (.putfield 9, 3) := by decide +kernel
theorem dX2_init_12 : decode cX2_init 12 = .ok (.aload_n 0, 1) := by decide +kernel
theorem dX2_init_13 : decode cX2_init 13 = .ok (.iconst 0, 1) := by decide +kernel
theorem dX2_init_14 : decode cX2_init 14 = .ok (.putfield 15, 3) := by decide +kernel
theorem dX2_init_17 : decode cX2_init 17 = .ok (.aload_n 0, 1) := by decide +kernel
theorem dX2_init_18 : decode cX2_init 18 = .ok (.iconst 0, 1) := by decide +kernel
theorem dX2_init_19 : decode cX2_init 19 = .ok (.putfield 19, 3) := by decide +kernel
theorem dX2_init_22 : decode cX2_init 22 = .ok (.aload_n 0, 1) := by decide +kernel
theorem dX2_init_23 : decode cX2_init 23 = .ok (.iconst 0, 1) := by decide +kernel
theorem dX2_init_24 : decode cX2_init 24 = .ok (.putfield 23, 3) := by decide +kernel
theorem dX2_init_27 : decode cX2_init 27 = .ok (.return_, 1) := by decide +kernel
theorem dX2_begin_0 : decode cX2_begin 0 = .ok (.aload_n 0, 1) := by decide +kernel
theorem dX2_begin_1 : decode cX2_begin 1 = .ok (.iconst 1, 1) := by decide +kernel
theorem dX2_begin_2 : decode cX2_begin 2 = .ok (.putfield 15, 3) := by decide +kernel
theorem dX2_begin_5 : decode cX2_begin 5 = .ok (.aload_n 0, 1) := by decide +kernel
theorem dX2_begin_6 : decode cX2_begin 6 = .ok (.iload_n 1, 1) := by decide +kernel
theorem dX2_begin_7 : decode cX2_begin 7 = .ok (.putfield 19, 3) := by decide +kernel
theorem dX2_begin_10 : decode cX2_begin 10 = .ok (.aload_n 0, 1) := by decide +kernel
theorem dX2_begin_11 : decode cX2_begin 11 = .ok (.iload_n 2, 1) := by decide +kernel
theorem dX2_begin_12 : decode cX2_begin 12 = .ok (.putfield 23, 3) := by decide +kernel
theorem dX2_begin_15 : decode cX2_begin 15 = .ok (.iconst 0, 1) := by decide +kernel
theorem dX2_begin_16 : decode cX2_begin 16 = .ok (.istore_n 3, 1) := by decide +kernel
theorem dX2_begin_17 : decode cX2_begin 17 = .ok (.iload_n 3, 1) := by decide +kernel
theorem dX2_begin_18 : decode cX2_begin 18 = .ok (.bipush 24, 2) := by decide +kernel
theorem dX2_begin_20 : decode cX2_begin 20 = .ok (.if_icmp .ge 16, 3) := by decide +kernel
theorem dX2_begin_23 : decode cX2_begin 23 = .ok (.aload_n 0, 1) := by decide +kernel
theorem dX2_begin_24 : decode cX2_begin 24 = .ok (.getfield 9, 3) := by decide +kernel
theorem dX2_begin_27 : decode cX2_begin 27 = .ok (.iload_n 3, 1) := by decide +kernel
theorem dX2_begin_28 : decode cX2_begin 28 = .ok (.lconst 0, 1) := by decide +kernel
theorem dX2_begin_29 : decode cX2_begin 29 = .ok (.lastore, 1) := by decide +kernel
theorem dX2_begin_30 : decode cX2_begin 30 = .ok (.iinc 3 1, 3) := by decide +kernel
theorem dX2_begin_33 : decode cX2_begin 33 = .ok (.goto (-16), 3) := by decide +kernel
theorem dX2_begin_36 : decode cX2_begin 36 = .ok (.return_, 1) := by decide +kernel
theorem dX2_hasSpan_0 : decode cX2_hasSpan 0 = .ok (.iload_n 2, 1) := by decide +kernel
theorem dX2_hasSpan_1 : decode cX2_hasSpan 1 = .ok (.ifCond .lt 21, 3) := by decide +kernel
theorem dX2_hasSpan_4 : decode cX2_hasSpan 4 = .ok (.iload_n 1, 1) := by decide +kernel
theorem dX2_hasSpan_5 : decode cX2_hasSpan 5 = .ok (.ifCond .lt 17, 3) := by decide +kernel
theorem dX2_hasSpan_8 : decode cX2_hasSpan 8 = .ok (.iload_n 1, 1) := by decide +kernel
theorem dX2_hasSpan_9 : decode cX2_hasSpan 9 = .ok (.aload_n 0, 1) := by decide +kernel
theorem dX2_hasSpan_10 : decode cX2_hasSpan 10 = .ok (.getfield 23, 3) := by decide +kernel
theorem dX2_hasSpan_13 : decode cX2_hasSpan 13 = .ok (.iload_n 2, 1) := by decide +kernel
theorem dX2_hasSpan_14 : decode cX2_hasSpan 14 = .ok (.isub, 1) := by decide +kernel
theorem dX2_hasSpan_15 : decode cX2_hasSpan 15 = .ok (.if_icmp .gt 7, 3) := by decide +kernel
theorem dX2_hasSpan_18 : decode cX2_hasSpan 18 = .ok (.iconst 1, 1) := by decide +kernel
theorem dX2_hasSpan_19 : decode cX2_hasSpan 19 = .ok (.goto 4, 3) := by decide +kernel
theorem dX2_hasSpan_22 : decode cX2_hasSpan 22 = .ok (.iconst 0, 1) := by decide +kernel
theorem dX2_hasSpan_23 : decode cX2_hasSpan 23 = .ok (.ireturn, 1) := by decide +kernel
theorem dX2_put_0 : decode cX2_put 0 = .ok (.aload_n 0, 1) := by decide +kernel
theorem dX2_put_1 : decode cX2_put 1 = .ok (.getfield 19, 3) := by decide +kernel
theorem dX2_put_4 : decode cX2_put 4 = .ok (.ifCond .ne 16, 3) := by decide +kernel
theorem dX2_put_7 : decode cX2_put 7 = .ok (.aload_n 0, 1) := by decide +kernel
theorem dX2_put_8 : decode cX2_put 8 = .ok (.getfield 9, 3) := by decide +kernel
theorem dX2_put_11 : decode cX2_put 11 = .ok (.iload_n 1, 1) := by decide +kernel
theorem dX2_put_12 : decode cX2_put 12 = .ok (.lload_n 2, 1) := by decide +kernel
theorem dX2_put_13 : decode cX2_put 13 = .ok (.l2i, 1) := by decide +kernel
theorem dX2_put_14 : decode cX2_put 14 = .ok (.i2b, 1) := by decide +kernel
theorem dX2_put_15 : decode cX2_put 15 = .ok (.i2l, 1) := by decide +kernel
theorem dX2_put_16 : decode cX2_put 16 = .ok (.lastore, 1) := by decide +kernel
theorem dX2_put_17 : decode cX2_put 17 = .ok (.goto 31, 3) := by decide +kernel
theorem dX2_put_20 : decode cX2_put 20 = .ok (.aload_n 0, 1) := by decide +kernel
theorem dX2_put_21 : decode cX2_put 21 = .ok (.getfield 19, 3) := by decide +kernel
theorem dX2_put_24 : decode cX2_put 24 = .ok (.iconst 1, 1) := by decide +kernel
theorem dX2_put_25 : decode cX2_put 25 = .ok (.if_icmp .ne 16, 3) := by decide +kernel
theorem dX2_put_28 : decode cX2_put 28 = .ok (.aload_n 0, 1) := by decide +kernel
theorem dX2_put_29 : decode cX2_put 29 = .ok (.getfield 9, 3) := by decide +kernel
theorem dX2_put_32 : decode cX2_put 32 = .ok (.iload_n 1, 1) := by decide +kernel
theorem dX2_put_33 : decode cX2_put 33 = .ok (.lload_n 2, 1) := by decide +kernel
theorem dX2_put_34 : decode cX2_put 34 = .ok (.l2i, 1) := by decide +kernel
theorem dX2_put_35 : decode cX2_put 35 = .ok (.i2s, 1) := by decide +kernel
theorem dX2_put_36 : decode cX2_put 36 = .ok (.i2l, 1) := by decide +kernel
theorem dX2_put_37 : decode cX2_put 37 = .ok (.lastore, 1) := by decide +kernel
theorem dX2_put_38 : decode cX2_put 38 = .ok (.goto 10, 3) := by decide +kernel
theorem dX2_put_41 : decode cX2_put 41 = .ok (.aload_n 0, 1) := by decide +kernel
theorem dX2_put_42 : decode cX2_put 42 = .ok (.getfield 9, 3) := by decide +kernel
theorem dX2_put_45 : decode cX2_put 45 = .ok (.iload_n 1, 1) := by decide +kernel
theorem dX2_put_46 : decode cX2_put 46 = .ok (.lload_n 2, 1) := by decide +kernel
theorem dX2_put_47 : decode cX2_put 47 = .ok (.lastore, 1) := by decide +kernel
theorem dX2_put_48 : decode cX2_put 48 = .ok (.return_, 1) := by decide +kernel
theorem dX3_init_0 : decode cX3_init 0 = .ok (.aload_n 0, 1) := by decide +kernel
theorem dX3_init_1 : decode cX3_init 1 = .ok (.invokespecial 3, 3) := by decide +kernel
theorem dX3_init_4 : decode cX3_init 4 = .ok (.aload_n 0, 1) := by decide +kernel
theorem dX3_init_5 : decode cX3_init 5 = .ok (.bipush 60, 2) := by decide +kernel
theorem dX3_init_7 : decode cX3_init 7 = .ok (.newarray .byte, 2) := by decide +kernel
theorem dX3_init_9 : decode cX3_init 9 = .ok (.putfield 9, 3) := by decide +kernel
theorem dX3_init_12 : decode cX3_init 12 = .ok (.aload_n 0, 1) := by decide +kernel
theorem dX3_init_13 : decode cX3_init 13 = .ok (.iconst 0, 1) := by decide +kernel
theorem dX3_init_14 : decode cX3_init 14 = .ok (.putfield 15, 3) := by decide +kernel
theorem dX3_init_17 : decode cX3_init 17 = .ok (.aload_n 0, 1) := by decide +kernel
theorem dX3_init_18 : decode cX3_init 18 = .ok (.iconst 0, 1) := by decide +kernel
theorem dX3_init_19 : decode cX3_init 19 = .ok (.putfield 19, 3) := by decide +kernel
theorem dX3_init_22 : decode cX3_init 22 = .ok (.return_, 1) := by decide +kernel
theorem dX3_append_0 : decode cX3_append 0 = .ok (.aload_n 0, 1) := by decide +kernel
theorem dX3_append_1 : decode cX3_append 1 = .ok (.getfield 15, 3) := by decide +kernel
theorem dX3_append_4 : decode cX3_append 4 = .ok (.bipush 60, 2) := by decide +kernel
theorem dX3_append_6 : decode cX3_append 6 = .ok (.if_icmp .ge 24, 3) := by decide +kernel
theorem dX3_append_9 : decode cX3_append 9 = .ok (.aload_n 0, 1) := by decide +kernel
theorem dX3_append_10 : decode cX3_append 10 = .ok (.getfield 9, 3) := by decide +kernel
theorem dX3_append_13 : decode cX3_append 13 = .ok (.aload_n 0, 1) := by decide +kernel
theorem dX3_append_14 : decode cX3_append 14 = .ok (.getfield 15, 3) := by decide +kernel
theorem dX3_append_17 : decode cX3_append 17 = .ok (.iload_n 1, 1) := by decide +kernel
theorem dX3_append_18 : decode cX3_append 18 = .ok (.i2b, 1) := by decide +kernel
theorem dX3_append_19 : decode cX3_append 19 = .ok (.bastore, 1) := by decide +kernel
theorem dX3_append_20 : decode cX3_append 20 = .ok (.aload_n 0, 1) := by decide +kernel
theorem dX3_append_21 : decode cX3_append 21 = .ok (.dup, 1) := by decide +kernel
theorem dX3_append_22 : decode cX3_append 22 = .ok (.getfield 15, 3) := by decide +kernel
theorem dX3_append_25 : decode cX3_append 25 = .ok (.iconst 1, 1) := by decide +kernel
theorem dX3_append_26 : decode cX3_append 26 = .ok (.iadd, 1) := by decide +kernel
theorem dX3_append_27 : decode cX3_append 27 = .ok (.putfield 15, 3) := by decide +kernel
theorem dX3_append_30 : decode cX3_append 30 = .ok (.return_, 1) := by decide +kernel
theorem dX3_fault_0 : decode cX3_fault 0 = .ok (.bipush (-20), 2) := by decide +kernel
theorem dX3_fault_2 : decode cX3_fault 2 = .ok (.aload_n 0, 1) := by decide +kernel
theorem dX3_fault_3 : decode cX3_fault 3 = .ok (.getfield 19, 3) := by decide +kernel
theorem dX3_fault_6 : decode cX3_fault 6 = .ok (.isub, 1) := by decide +kernel
theorem dX3_fault_7 : decode cX3_fault 7 = .ok (.ireturn, 1) := by decide +kernel
theorem dX3_next_0 : decode cX3_next 0 = .ok (.aload_n 0, 1) := by decide +kernel
theorem dX3_next_1 : decode cX3_next 1 = .ok (.getfield 19, 3) := by decide +kernel
theorem dX3_next_4 : decode cX3_next 4 = .ok (.aload_n 0, 1) := by decide +kernel
theorem dX3_next_5 : decode cX3_next 5 = .ok (.getfield 15, 3) := by decide +kernel
theorem dX3_next_8 : decode cX3_next 8 = .ok (.if_icmp .ge 30, 3) := by decide +kernel
theorem dX3_next_11 : decode cX3_next 11 = .ok (.aload_n 0, 1) := by decide +kernel
theorem dX3_next_12 : decode cX3_next 12 = .ok (.getfield 9, 3) := by decide +kernel
theorem dX3_next_15 : decode cX3_next 15 = .ok (.aload_n 0, 1) := by decide +kernel
theorem dX3_next_16 : decode cX3_next 16 = .ok (.getfield 19, 3) := by decide +kernel
theorem dX3_next_19 : decode cX3_next 19 = .ok (.baload, 1) := by decide +kernel
theorem dX3_next_20 : decode cX3_next 20 = .ok (.bipush 32, 2) := by decide +kernel
theorem dX3_next_22 : decode cX3_next 22 = .ok (.if_icmp .ne 16, 3) := by decide +kernel
theorem dX3_next_25 : decode cX3_next 25 = .ok (.aload_n 0, 1) := by decide +kernel
theorem dX3_next_26 : decode cX3_next 26 = .ok (.dup, 1) := by decide +kernel
theorem dX3_next_27 : decode cX3_next 27 = .ok (.getfield 19, 3) := by decide +kernel
theorem dX3_next_30 : decode cX3_next 30 = .ok (.iconst 1, 1) := by decide +kernel
theorem dX3_next_31 : decode cX3_next 31 = .ok (.iadd, 1) := by decide +kernel
theorem dX3_next_32 : decode cX3_next 32 = .ok (.putfield 19, 3) := by decide +kernel
theorem dX3_next_35 : decode cX3_next 35 = .ok (.goto (-35), 3) := by decide +kernel
theorem dX3_next_38 : decode cX3_next 38 = .ok (.aload_n 0, 1) := by decide +kernel
theorem dX3_next_39 : decode cX3_next 39 = .ok (.getfield 19, 3) := by decide +kernel
theorem dX3_next_42 : decode cX3_next 42 = .ok (.aload_n 0, 1) := by decide +kernel
theorem dX3_next_43 : decode cX3_next 43 = .ok (.getfield 15, 3) := by decide +kernel
theorem dX3_next_46 : decode cX3_next 46 = .ok (.if_icmp .ge 15, 3) := by decide +kernel
theorem dX3_next_49 : decode cX3_next 49 = .ok (.aload_n 0, 1) := by decide +kernel
theorem dX3_next_50 : decode cX3_next 50 = .ok (.getfield 9, 3) := by decide +kernel
theorem dX3_next_53 : decode cX3_next 53 = .ok (.aload_n 0, 1) := by decide +kernel
theorem dX3_next_54 : decode cX3_next 54 = .ok (.getfield 19, 3) := by decide +kernel
theorem dX3_next_57 : decode cX3_next 57 = .ok (.baload, 1) := by decide +kernel
theorem dX3_next_58 : decode cX3_next 58 = .ok (.goto 4, 3) := by decide +kernel
theorem dX3_next_61 : decode cX3_next 61 = .ok (.iconst 0, 1) := by decide +kernel
theorem dX3_next_62 : decode cX3_next 62 = .ok (.ireturn, 1) := by decide +kernel
theorem dX3_readFolk_0 : decode cX3_readFolk 0 = .ok (.aload_n 0, 1) := by decide +kernel
theorem dX3_readFolk_1 : decode cX3_readFolk 1 = .ok (.iconst 0, 1) := by decide +kernel
theorem dX3_readFolk_2 : decode cX3_readFolk 2 = .ok (.putfield 19, 3) := by decide +kernel
theorem dX3_readFolk_5 : decode cX3_readFolk 5 = .ok (.aload_n 1, 1) := by decide +kernel
theorem dX3_readFolk_6 : decode cX3_readFolk 6 = .ok (.iconst 0, 1) := by decide +kernel
theorem dX3_readFolk_7 : decode cX3_readFolk 7 = .ok (.putfield 22, 3) := by decide +kernel
theorem dX3_readFolk_10 : decode cX3_readFolk 10 = .ok (.iconst 1, 1) := by decide +kernel
theorem dX3_readFolk_11 : decode cX3_readFolk 11 = .ok (.istore_n 2, 1) := by decide +kernel
theorem dX3_readFolk_12 : decode cX3_readFolk 12 = .ok (.iload_n 2, 1) := by decide +kernel
theorem dX3_readFolk_13 : decode cX3_readFolk 13 = .ok (.bipush 6, 2) := by decide +kernel
theorem dX3_readFolk_15 : decode cX3_readFolk 15 = .ok (.if_icmp .gt 60, 3) := by decide +kernel
theorem dX3_readFolk_18 : decode cX3_readFolk 18 = .ok (.aload_n 0, 1) := by decide +kernel
theorem dX3_readFolk_19 : decode cX3_readFolk 19 = .ok (.aload_n 1, 1) := by decide +kernel
theorem dX3_readFolk_20 : decode cX3_readFolk 20 = .ok (.invokevirtual 27, 3) := by decide +kernel
theorem dX3_readFolk_23 : decode cX3_readFolk 23 = .ok (.ifCond .ne 8, 3) := by decide +kernel
theorem dX3_readFolk_26 : decode cX3_readFolk 26 = .ok (.aload_n 0, 1) := by decide +kernel
theorem dX3_readFolk_27 : decode cX3_readFolk 27 = .ok (.invokevirtual 31, 3) := by decide +kernel
theorem dX3_readFolk_30 : decode cX3_readFolk 30 = .ok (.ireturn, 1) := by decide +kernel
theorem dX3_readFolk_31 : decode cX3_readFolk 31 = .ok (.aload_n 0, 1) := by decide +kernel
theorem dX3_readFolk_32 : decode cX3_readFolk 32 = .ok (.invokevirtual 35, 3) := by decide +kernel
theorem dX3_readFolk_35 : decode cX3_readFolk 35 = .ok (.istore_n 3, 1) := by decide +kernel
theorem dX3_readFolk_36 : decode cX3_readFolk 36 = .ok (.iload_n 3, 1) := by decide +kernel
theorem dX3_readFolk_37 : decode cX3_readFolk 37 = .ok (.ifCond .ne 5, 3) := by decide +kernel
theorem dX3_readFolk_40 : decode cX3_readFolk 40 = .ok (.iload_n 2, 1) := by decide +kernel
theorem dX3_readFolk_41 : decode cX3_readFolk 41 = .ok (.ireturn, 1) := by decide +kernel
theorem dX3_readFolk_42 : decode cX3_readFolk 42 = .ok (.iload_n 3, 1) := by decide +kernel
theorem dX3_readFolk_43 : decode cX3_readFolk 43 = .ok (.bipush 44, 2) := by decide +kernel
theorem dX3_readFolk_45 : decode cX3_readFolk 45 = .ok (.if_icmp .ne 9, 3) := by decide +kernel
theorem dX3_readFolk_48 : decode cX3_readFolk 48 = .ok (.iload_n 2, 1) := by decide +kernel
theorem dX3_readFolk_49 : decode cX3_readFolk 49 = .ok (.bipush 6, 2) := by decide +kernel
theorem dX3_readFolk_51 : decode cX3_readFolk 51 = .ok (.if_icmp .ne 8, 3) := by decide +kernel
theorem dX3_readFolk_54 : decode cX3_readFolk 54 = .ok (.aload_n 0, 1) := by decide +kernel
theorem dX3_readFolk_55 : decode cX3_readFolk 55 = .ok (.invokevirtual 31, 3) := by decide +kernel
theorem dX3_readFolk_58 : decode cX3_readFolk 58 = .ok (.ireturn, 1) := by decide +kernel
theorem dX3_readFolk_59 : decode cX3_readFolk 59 = .ok (.aload_n 0, 1) := by decide +kernel
theorem dX3_readFolk_60 : decode cX3_readFolk 60 = .ok (.dup, 1) := by decide +kernel
theorem dX3_readFolk_61 : decode cX3_readFolk 61 = .ok (.getfield 19, 3) := by decide +kernel
theorem dX3_readFolk_64 : decode cX3_readFolk 64 = .ok (.iconst 1, 1) := by decide +kernel
theorem dX3_readFolk_65 : decode cX3_readFolk 65 = .ok (.iadd, 1) := by decide +kernel
theorem dX3_readFolk_66 : decode cX3_readFolk 66 = .ok (.putfield 19, 3) := by decide +kernel
theorem dX3_readFolk_69 : decode cX3_readFolk 69 = .ok (.iinc 2 1, 3) := by decide +kernel
theorem dX3_readFolk_72 : decode cX3_readFolk 72 = .ok (.goto (-60), 3) := by decide +kernel
theorem dX3_readFolk_75 : decode cX3_readFolk 75 = .ok (.aload_n 0, 1) := by decide +kernel
theorem dX3_readFolk_76 : decode cX3_readFolk 76 = .ok (.invokevirtual 31, 3) := by decide +kernel
theorem dX3_readFolk_79 : decode cX3_readFolk 79 = .ok (.ireturn, 1) := by decide +kernel
theorem dX3_readOne_0 : decode cX3_readOne 0 = .ok (.aload_n 0, 1) := by decide +kernel
theorem dX3_readOne_1 : decode cX3_readOne 1 = .ok (.invokevirtual 35, 3) := by decide +kernel
theorem dX3_readOne_4 : decode cX3_readOne 4 = .ok (.invokestatic 38, 3) := by decide +kernel
theorem dX3_readOne_7 : decode cX3_readOne 7 = .ok (.istore_n 2, 1) := by decide +kernel
theorem dX3_readOne_8 : decode cX3_readOne 8 = .ok (.iload_n 2, 1) := by decide +kernel
theorem dX3_readOne_9 : decode cX3_readOne 9 = .ok (.ifCond .ge 5, 3) := by decide +kernel
theorem dX3_readOne_12 : decode cX3_readOne 12 = .ok (.iconst 0, 1) := by decide +kernel
theorem dX3_readOne_13 : decode cX3_readOne 13 = .ok (.ireturn, 1) := by decide +kernel
theorem dX3_readOne_14 : decode cX3_readOne 14 = .ok (.aload_n 0, 1) := by decide +kernel
theorem dX3_readOne_15 : decode cX3_readOne 15 = .ok (.dup, 1) := by decide +kernel
theorem dX3_readOne_16 : decode cX3_readOne 16 = .ok (.getfield 19, 3) := by decide +kernel
theorem dX3_readOne_19 : decode cX3_readOne 19 = .ok (.iconst 1, 1) := by decide +kernel
theorem dX3_readOne_20 : decode cX3_readOne 20 = .ok (.iadd, 1) := by decide +kernel
theorem dX3_readOne_21 : decode cX3_readOne 21 = .ok (.putfield 19, 3) := by decide +kernel
theorem dX3_readOne_24 : decode cX3_readOne 24 = .ok (.iconst 0, 1) := by decide +kernel
theorem dX3_readOne_25 : decode cX3_readOne 25 = .ok (.istore_n 3, 1) := by decide +kernel
theorem dX3_readOne_26 : decode cX3_readOne 26 = .ok (.aload_n 0, 1) := by decide +kernel
theorem dX3_readOne_27 : decode cX3_readOne 27 = .ok (.invokevirtual 35, 3) := by decide +kernel
theorem dX3_readOne_30 : decode cX3_readOne 30 = .ok (.istore 4, 2) := by decide +kernel
theorem dX3_readOne_32 : decode cX3_readOne 32 = .ok (.iload 4, 2) := by decide +kernel
theorem dX3_readOne_34 : decode cX3_readOne 34 = .ok (.bipush 43, 2) := by decide +kernel
theorem dX3_readOne_36 : decode cX3_readOne 36 = .ok (.if_icmp .eq 10, 3) := by decide +kernel
theorem dX3_readOne_39 : decode cX3_readOne 39 = .ok (.iload 4, 2) := by decide +kernel
theorem dX3_readOne_41 : decode cX3_readOne 41 = .ok (.bipush 45, 2) := by decide +kernel
theorem dX3_readOne_43 : decode cX3_readOne 43 = .ok (.if_icmp .ne 44, 3) := by decide +kernel
theorem dX3_readOne_46 : decode cX3_readOne 46 = .ok (.aload_n 0, 1) := by decide +kernel
theorem dX3_readOne_47 : decode cX3_readOne 47 = .ok (.dup, 1) := by decide +kernel
theorem dX3_readOne_48 : decode cX3_readOne 48 = .ok (.getfield 19, 3) := by decide +kernel
theorem dX3_readOne_51 : decode cX3_readOne 51 = .ok (.iconst 1, 1) := by decide +kernel
theorem dX3_readOne_52 : decode cX3_readOne 52 = .ok (.iadd, 1) := by decide +kernel
theorem dX3_readOne_53 : decode cX3_readOne 53 = .ok (.putfield 19, 3) := by decide +kernel
theorem dX3_readOne_56 : decode cX3_readOne 56 = .ok (.aload_n 0, 1) := by decide +kernel
theorem dX3_readOne_57 : decode cX3_readOne 57 = .ok (.iconst 0, 1) := by decide +kernel
theorem dX3_readOne_58 : decode cX3_readOne 58 = .ok (.iconst 3, 1) := by decide +kernel
theorem dX3_readOne_59 : decode cX3_readOne 59 = .ok (.invokevirtual 42, 3) := by decide +kernel
theorem dX3_readOne_62 : decode cX3_readOne 62 = .ok (.istore 5, 2) := by decide +kernel
theorem dX3_readOne_64 : decode cX3_readOne 64 = .ok (.iload 5, 2) := by decide +kernel
theorem dX3_readOne_66 : decode cX3_readOne 66 = .ok (.ifCond .ge 5, 3) := by decide +kernel
theorem dX3_readOne_69 : decode cX3_readOne 69 = .ok (.iconst 0, 1) := by decide +kernel
theorem dX3_readOne_70 : decode cX3_readOne 70 = .ok (.ireturn, 1) := by decide +kernel
theorem dX3_readOne_71 : decode cX3_readOne 71 = .ok (.iload 4, 2) := by decide +kernel
theorem dX3_readOne_73 : decode cX3_readOne 73 = .ok (.bipush 45, 2) := by decide +kernel
theorem dX3_readOne_75 : decode cX3_readOne 75 = .ok (.if_icmp .ne 9, 3) := by decide +kernel
theorem dX3_readOne_78 : decode cX3_readOne 78 = .ok (.iload 5, 2) := by decide +kernel
theorem dX3_readOne_80 : decode cX3_readOne 80 = .ok (.ineg, 1) := by decide +kernel
theorem dX3_readOne_81 : decode cX3_readOne 81 = .ok (.goto 5, 3) := by decide +kernel
theorem dX3_readOne_84 : decode cX3_readOne 84 = .ok (.iload 5, 2) := by decide +kernel
theorem dX3_readOne_86 : decode cX3_readOne 86 = .ok (.istore_n 3, 1) := by decide +kernel
theorem dX3_readOne_87 : decode cX3_readOne 87 = .ok (.iconst 1, 1) := by decide +kernel
theorem dX3_readOne_88 : decode cX3_readOne 88 = .ok (.istore 5, 2) := by decide +kernel
theorem dX3_readOne_90 : decode cX3_readOne 90 = .ok (.aload_n 0, 1) := by decide +kernel
theorem dX3_readOne_91 : decode cX3_readOne 91 = .ok (.invokevirtual 35, 3) := by decide +kernel
theorem dX3_readOne_94 : decode cX3_readOne 94 = .ok (.bipush 114, 2) := by decide +kernel
theorem dX3_readOne_96 : decode cX3_readOne 96 = .ok (.if_icmp .ne 29, 3) := by decide +kernel
theorem dX3_readOne_99 : decode cX3_readOne 99 = .ok (.aload_n 0, 1) := by decide +kernel
theorem dX3_readOne_100 : decode cX3_readOne 100 = .ok (.dup, 1) := by decide +kernel
theorem dX3_readOne_101 : decode cX3_readOne 101 = .ok (.getfield 19, 3) := by decide +kernel
theorem dX3_readOne_104 : decode cX3_readOne 104 = .ok (.iconst 1, 1) := by decide +kernel
theorem dX3_readOne_105 : decode cX3_readOne 105 = .ok (.iadd, 1) := by decide +kernel
theorem dX3_readOne_106 : decode cX3_readOne 106 = .ok (.putfield 19, 3) := by decide +kernel
theorem dX3_readOne_109 : decode cX3_readOne 109 = .ok (.aload_n 0, 1) := by decide +kernel
theorem dX3_readOne_110 : decode cX3_readOne 110 = .ok (.iconst 1, 1) := by decide +kernel
theorem dX3_readOne_111 : decode cX3_readOne 111 = .ok (.bipush 9, 2) := by decide +kernel
theorem dX3_readOne_113 : decode cX3_readOne 113 = .ok (.invokevirtual 42, 3) := by decide +kernel
theorem dX3_readOne_116 : decode cX3_readOne 116 = .ok (.istore 5, 2) := by decide +kernel
theorem dX3_readOne_118 : decode cX3_readOne 118 = .ok (.iload 5, 2) := by decide +kernel
theorem dX3_readOne_120 : decode cX3_readOne 120 = .ok (.ifCond .ge 5, 3) := by decide +kernel
theorem dX3_readOne_123 : decode cX3_readOne 123 = .ok (.iconst 0, 1) := by decide +kernel
theorem dX3_readOne_124 : decode cX3_readOne 124 = .ok (.ireturn, 1) := by decide +kernel
theorem dX3_readOne_125 : decode cX3_readOne 125 = .ok (.aload_n 1, 1) := by decide +kernel
theorem dX3_readOne_126 : decode cX3_readOne 126 = .ok (.iload_n 2, 1) := by decide +kernel
theorem dX3_readOne_127 : decode cX3_readOne 127 = .ok (.iload_n 3, 1) := by decide +kernel
theorem dX3_readOne_128 : decode cX3_readOne 128 = .ok (.iload 5, 2) := by decide +kernel
theorem dX3_readOne_130 : decode cX3_readOne 130 = .ok (.invokevirtual 46, 3) := by decide +kernel
theorem dX3_readOne_133 : decode cX3_readOne 133 = .ok (.ifCond .lt 7, 3) := by decide +kernel
theorem dX3_readOne_136 : decode cX3_readOne 136 = .ok (.iconst 1, 1) := by decide +kernel
theorem dX3_readOne_137 : decode cX3_readOne 137 = .ok (.goto 4, 3) := by decide +kernel
theorem dX3_readOne_140 : decode cX3_readOne 140 = .ok (.iconst 0, 1) := by decide +kernel
theorem dX3_readOne_141 : decode cX3_readOne 141 = .ok (.ireturn, 1) := by decide +kernel
theorem dX3_kindBy_0 : decode cX3_kindBy 0 = .ok (.iload_n 0, 1) := by decide +kernel
theorem dX3_kindBy_1 : decode cX3_kindBy 1 = .ok (.tableswitch 63 109 118 #[61, 63, 63, 55, 63, 63, 57, 63, 63, 59], 55) := by decide +kernel
theorem dX3_kindBy_56 : decode cX3_kindBy 56 = .ok (.iconst 0, 1) := by decide +kernel
theorem dX3_kindBy_57 : decode cX3_kindBy 57 = .ok (.ireturn, 1) := by decide +kernel
theorem dX3_kindBy_58 : decode cX3_kindBy 58 = .ok (.iconst 1, 1) := by decide +kernel
theorem dX3_kindBy_59 : decode cX3_kindBy 59 = .ok (.ireturn, 1) := by decide +kernel
theorem dX3_kindBy_60 : decode cX3_kindBy 60 = .ok (.iconst 2, 1) := by decide +kernel
theorem dX3_kindBy_61 : decode cX3_kindBy 61 = .ok (.ireturn, 1) := by decide +kernel
theorem dX3_kindBy_62 : decode cX3_kindBy 62 = .ok (.iconst 3, 1) := by decide +kernel
theorem dX3_kindBy_63 : decode cX3_kindBy 63 = .ok (.ireturn, 1) := by decide +kernel
theorem dX3_kindBy_64 : decode cX3_kindBy 64 = .ok (.iconst (-1), 1) := by decide +kernel
theorem dX3_kindBy_65 : decode cX3_kindBy 65 = .ok (.ireturn, 1) := by decide +kernel
theorem dX3_readDigit_0 : decode cX3_readDigit 0 = .ok (.aload_n 0, 1) := by decide +kernel
theorem dX3_readDigit_1 : decode cX3_readDigit 1 = .ok (.invokevirtual 35, 3) := by decide +kernel
theorem dX3_readDigit_4 : decode cX3_readDigit 4 = .ok (.bipush 48, 2) := by decide +kernel
theorem dX3_readDigit_6 : decode cX3_readDigit 6 = .ok (.isub, 1) := by decide +kernel
theorem dX3_readDigit_7 : decode cX3_readDigit 7 = .ok (.istore_n 3, 1) := by decide +kernel
theorem dX3_readDigit_8 : decode cX3_readDigit 8 = .ok (.iload_n 3, 1) := by decide +kernel
theorem dX3_readDigit_9 : decode cX3_readDigit 9 = .ok (.iload_n 1, 1) := by decide +kernel
theorem dX3_readDigit_10 : decode cX3_readDigit 10 = .ok (.iload_n 2, 1) := by decide +kernel
theorem dX3_readDigit_11 : decode cX3_readDigit 11 = .ok (.invokestatic 50, 3) := by decide +kernel
theorem dX3_readDigit_14 : decode cX3_readDigit 14 = .ok (.ifCond .ne 5, 3) := by decide +kernel
theorem dX3_readDigit_17 : decode cX3_readDigit 17 = .ok (.iconst (-1), 1) := by decide +kernel
theorem dX3_readDigit_18 : decode cX3_readDigit 18 = .ok (.ireturn, 1) := by decide +kernel
theorem dX3_readDigit_19 : decode cX3_readDigit 19 = .ok (.aload_n 0, 1) := by decide +kernel
theorem dX3_readDigit_20 : decode cX3_readDigit 20 = .ok (.dup, 1) := by decide +kernel
theorem dX3_readDigit_21 : decode cX3_readDigit 21 = .ok (.getfield 19, 3) := by decide +kernel
theorem dX3_readDigit_24 : decode cX3_readDigit 24 = .ok (.iconst 1, 1) := by decide +kernel
theorem dX3_readDigit_25 : decode cX3_readDigit 25 = .ok (.iadd, 1) := by decide +kernel
theorem dX3_readDigit_26 : decode cX3_readDigit 26 = .ok (.putfield 19, 3) := by decide +kernel
theorem dX3_readDigit_29 : decode cX3_readDigit 29 = .ok (.iload_n 3, 1) := by decide +kernel
theorem dX3_readDigit_30 : decode cX3_readDigit 30 = .ok (.ireturn, 1) := by decide +kernel
theorem dX3_readPlan_0 : decode cX3_readPlan 0 = .ok (.aload_n 0, 1) := by decide +kernel
theorem dX3_readPlan_1 : decode cX3_readPlan 1 = .ok (.iconst 0, 1) := by decide +kernel
theorem dX3_readPlan_2 : decode cX3_readPlan 2 = .ok (.putfield 19, 3) := by decide +kernel
theorem dX3_readPlan_5 : decode cX3_readPlan 5 = .ok (.iconst 0, 1) := by decide +kernel
theorem dX3_readPlan_6 : decode cX3_readPlan 6 = .ok (.istore_n 3, 1) := by decide +kernel
theorem dX3_readPlan_7 : decode cX3_readPlan 7 = .ok (.iload_n 3, 1) := by decide +kernel
theorem dX3_readPlan_8 : decode cX3_readPlan 8 = .ok (.bipush 24, 2) := by decide +kernel
theorem dX3_readPlan_10 : decode cX3_readPlan 10 = .ok (.if_icmp .ge 81, 3) := by decide +kernel
theorem dX3_readPlan_13 : decode cX3_readPlan 13 = .ok (.aload_n 0, 1) := by decide +kernel
theorem dX3_readPlan_14 : decode cX3_readPlan 14 = .ok (.invokevirtual 35, 3) := by decide +kernel
theorem dX3_readPlan_17 : decode cX3_readPlan 17 = .ok (.istore 4, 2) := by decide +kernel
theorem dX3_readPlan_19 : decode cX3_readPlan 19 = .ok (.iload 4, 2) := by decide +kernel
theorem dX3_readPlan_21 : decode cX3_readPlan 21 = .ok (.ifCond .ne 9, 3) := by decide +kernel
theorem dX3_readPlan_24 : decode cX3_readPlan 24 = .ok (.iload_n 3, 1) := by decide +kernel
theorem dX3_readPlan_25 : decode cX3_readPlan 25 = .ok (.ifCond .le 5, 3) := by decide +kernel
theorem dX3_readPlan_28 : decode cX3_readPlan 28 = .ok (.iload_n 3, 1) := by decide +kernel
theorem dX3_readPlan_29 : decode cX3_readPlan 29 = .ok (.ireturn, 1) := by decide +kernel
theorem dX3_readPlan_30 : decode cX3_readPlan 30 = .ok (.iload 4, 2) := by decide +kernel
theorem dX3_readPlan_32 : decode cX3_readPlan 32 = .ok (.bipush 46, 2) := by decide +kernel
theorem dX3_readPlan_34 : decode cX3_readPlan 34 = .ok (.if_icmp .ne 8, 3) := by decide +kernel
theorem dX3_readPlan_37 : decode cX3_readPlan 37 = .ok (.bipush 9, 2) := by decide +kernel
theorem dX3_readPlan_39 : decode cX3_readPlan 39 = .ok (.goto 8, 3) := by decide +kernel
theorem dX3_readPlan_42 : decode cX3_readPlan 42 = .ok (.iload 4, 2) := by decide +kernel
theorem dX3_readPlan_44 : decode cX3_readPlan 44 = .ok (.bipush 48, 2) := by decide +kernel
theorem dX3_readPlan_46 : decode cX3_readPlan 46 = .ok (.isub, 1) := by decide +kernel
theorem dX3_readPlan_47 : decode cX3_readPlan 47 = .ok (.istore 5, 2) := by decide +kernel
theorem dX3_readPlan_49 : decode cX3_readPlan 49 = .ok (.iload 4, 2) := by decide +kernel
theorem dX3_readPlan_51 : decode cX3_readPlan 51 = .ok (.bipush 46, 2) := by decide +kernel
theorem dX3_readPlan_53 : decode cX3_readPlan 53 = .ok (.if_icmp .eq 17, 3) := by decide +kernel
theorem dX3_readPlan_56 : decode cX3_readPlan 56 = .ok (.aload_n 2, 1) := by decide +kernel
theorem dX3_readPlan_57 : decode cX3_readPlan 57 = .ok (.iload 5, 2) := by decide +kernel
theorem dX3_readPlan_59 : decode cX3_readPlan 59 = .ok (.invokevirtual 54, 3) := by decide +kernel
theorem dX3_readPlan_62 : decode cX3_readPlan 62 = .ok (.ifCond .ne 8, 3) := by decide +kernel
theorem dX3_readPlan_65 : decode cX3_readPlan 65 = .ok (.aload_n 0, 1) := by decide +kernel
theorem dX3_readPlan_66 : decode cX3_readPlan 66 = .ok (.invokevirtual 31, 3) := by decide +kernel
theorem dX3_readPlan_69 : decode cX3_readPlan 69 = .ok (.ireturn, 1) := by decide +kernel
theorem dX3_readPlan_70 : decode cX3_readPlan 70 = .ok (.aload_n 1, 1) := by decide +kernel
theorem dX3_readPlan_71 : decode cX3_readPlan 71 = .ok (.iload_n 3, 1) := by decide +kernel
theorem dX3_readPlan_72 : decode cX3_readPlan 72 = .ok (.iload 5, 2) := by decide +kernel
theorem dX3_readPlan_74 : decode cX3_readPlan 74 = .ok (.iastore, 1) := by decide +kernel
theorem dX3_readPlan_75 : decode cX3_readPlan 75 = .ok (.aload_n 0, 1) := by decide +kernel
theorem dX3_readPlan_76 : decode cX3_readPlan 76 = .ok (.dup, 1) := by decide +kernel
theorem dX3_readPlan_77 : decode cX3_readPlan 77 = .ok (.getfield 19, 3) := by decide +kernel
theorem dX3_readPlan_80 : decode cX3_readPlan 80 = .ok (.iconst 1, 1) := by decide +kernel
theorem dX3_readPlan_81 : decode cX3_readPlan 81 = .ok (.iadd, 1) := by decide +kernel
theorem dX3_readPlan_82 : decode cX3_readPlan 82 = .ok (.putfield 19, 3) := by decide +kernel
theorem dX3_readPlan_85 : decode cX3_readPlan 85 = .ok (.iinc 3 1, 3) := by decide +kernel
theorem dX3_readPlan_88 : decode cX3_readPlan 88 = .ok (.goto (-81), 3) := by decide +kernel
theorem dX3_readPlan_91 : decode cX3_readPlan 91 = .ok (.aload_n 0, 1) := by decide +kernel
theorem dX3_readPlan_92 : decode cX3_readPlan 92 = .ok (.invokevirtual 35, 3) := by decide +kernel
theorem dX3_readPlan_95 : decode cX3_readPlan 95 = .ok (.ifCond .ne 8, 3) := by decide +kernel
theorem dX3_readPlan_98 : decode cX3_readPlan 98 = .ok (.bipush 24, 2) := by decide +kernel
theorem dX3_readPlan_100 : decode cX3_readPlan 100 = .ok (.goto 7, 3) := by decide +kernel
theorem dX3_readPlan_103 : decode cX3_readPlan 103 = .ok (.aload_n 0, 1) := by decide +kernel
theorem dX3_readPlan_104 : decode cX3_readPlan 104 = .ok (.invokevirtual 31, 3) := by decide +kernel
theorem dX3_readPlan_107 : decode cX3_readPlan 107 = .ok (.ireturn, 1) := by decide +kernel
theorem dX4_init_0 : decode cX4_init 0 = .ok (.aload_n 0, 1) := by decide +kernel
theorem dX4_init_1 : decode cX4_init 1 = .ok (.invokespecial 3, 3) := by decide +kernel
theorem dX4_init_4 : decode cX4_init 4 = .ok (.aload_n 0, 1) := by decide +kernel
theorem dX4_init_5 : decode cX4_init 5 = .ok (.new 9, 3) := by decide +kernel
theorem dX4_init_8 : decode cX4_init 8 = .ok (.dup, 1) := by decide +kernel
theorem dX4_init_9 : decode cX4_init 9 = .ok (.invokespecial 11, 3) := by decide +kernel
theorem dX4_init_12 : decode cX4_init 12 = .ok (.putfield 12, 3) := by decide +kernel
theorem dX4_init_15 : decode cX4_init 15 = .ok (.aload_n 0, 1) := by decide +kernel
theorem dX4_init_16 : decode cX4_init 16 = .ok (.bipush 6, 2) := by decide +kernel
theorem dX4_init_18 : decode cX4_init 18 = .ok (.newarray .int, 2) := by decide +kernel
theorem dX4_init_20 : decode cX4_init 20 = .ok (.putfield 18, 3) := by decide +kernel
theorem dX4_init_23 : decode cX4_init 23 = .ok (.aload_n 0, 1) := by decide +kernel
theorem dX4_init_24 : decode cX4_init 24 = .ok (.bipush 24, 2) := by decide +kernel
theorem dX4_init_26 : decode cX4_init 26 = .ok (.newarray .int, 2) := by decide +kernel
theorem dX4_init_28 : decode cX4_init 28 = .ok (.putfield 22, 3) := by decide +kernel
theorem dX4_init_31 : decode cX4_init 31 = .ok (.aload_n 0, 1) := by decide +kernel
theorem dX4_init_32 : decode cX4_init 32 = .ok (.iconst 0, 1) := by decide +kernel
theorem dX4_init_33 : decode cX4_init 33 = .ok (.putfield 25, 3) := by decide +kernel
theorem dX4_init_36 : decode cX4_init 36 = .ok (.aload_n 0, 1) := by decide +kernel
theorem dX4_init_37 : decode cX4_init 37 = .ok (.iconst 0, 1) := by decide +kernel
theorem dX4_init_38 : decode cX4_init 38 = .ok (.putfield 29, 3) := by decide +kernel
theorem dX4_init_41 : decode cX4_init 41 = .ok (.aload_n 0, 1) := by decide +kernel
theorem dX4_init_42 : decode cX4_init 42 = .ok (.sipush 200, 3) := by decide +kernel
theorem dX4_init_45 : decode cX4_init 45 = .ok (.putfield 32, 3) := by decide +kernel
theorem dX4_init_48 : decode cX4_init 48 = .ok (.aload_n 0, 1) := by decide +kernel
theorem dX4_init_49 : decode cX4_init 49 = .ok (.iconst 1, 1) := by decide +kernel
theorem dX4_init_50 : decode cX4_init 50 = .ok (.putfield 35, 3) := by decide +kernel
theorem dX4_init_53 : decode cX4_init 53 = .ok (.aload_n 0, 1) := by decide +kernel
theorem dX4_init_54 : decode cX4_init 54 = .ok (.iconst 0, 1) := by decide +kernel
theorem dX4_init_55 : decode cX4_init 55 = .ok (.putfield 38, 3) := by decide +kernel
theorem dX4_init_58 : decode cX4_init 58 = .ok (.aload_n 0, 1) := by decide +kernel
theorem dX4_init_59 : decode cX4_init 59 = .ok (.iconst 0, 1) := by decide +kernel
theorem dX4_init_60 : decode cX4_init 60 = .ok (.putfield 41, 3) := by decide +kernel
theorem dX4_init_63 : decode cX4_init 63 = .ok (.aload_n 0, 1) := by decide +kernel
theorem dX4_init_64 : decode cX4_init 64 = .ok (.iconst 0, 1) := by decide +kernel
theorem dX4_init_65 : decode cX4_init 65 = .ok (.putfield 44, 3) := by decide +kernel
theorem dX4_init_68 : decode cX4_init 68 = .ok (.aload_n 0, 1) := by decide +kernel
theorem dX4_init_69 : decode cX4_init 69 = .ok (.bipush 9, 2) := by decide +kernel
theorem dX4_init_71 : decode cX4_init 71 = .ok (.putfield 47, 3) := by decide +kernel
theorem dX4_init_74 : decode cX4_init 74 = .ok (.aload_n 0, 1) := by decide +kernel
theorem dX4_init_75 : decode cX4_init 75 = .ok (.iconst 1, 1) := by decide +kernel
theorem dX4_init_76 : decode cX4_init 76 = .ok (.putfield 50, 3) := by decide +kernel
theorem dX4_init_79 : decode cX4_init 79 = .ok (.return_, 1) := by decide +kernel
theorem dX4_become_0 : decode cX4_become 0 = .ok (.aload_n 0, 1) := by decide +kernel
theorem dX4_become_1 : decode cX4_become 1 = .ok (.getfield 12, 3) := by decide +kernel
theorem dX4_become_4 : decode cX4_become 4 = .ok (.aload_n 1, 1) := by decide +kernel
theorem dX4_become_5 : decode cX4_become 5 = .ok (.getfield 12, 3) := by decide +kernel
theorem dX4_become_8 : decode cX4_become 8 = .ok (.invokevirtual 53, 3) := by decide +kernel
theorem dX4_become_11 : decode cX4_become 11 = .ok (.aload_n 1, 1) := by decide +kernel
theorem dX4_become_12 : decode cX4_become 12 = .ok (.getfield 18, 3) := by decide +kernel
theorem dX4_become_15 : decode cX4_become 15 = .ok (.iconst 0, 1) := by decide +kernel
theorem dX4_become_16 : decode cX4_become 16 = .ok (.aload_n 0, 1) := by decide +kernel
theorem dX4_become_17 : decode cX4_become 17 = .ok (.getfield 18, 3) := by decide +kernel
theorem dX4_become_20 : decode cX4_become 20 = .ok (.iconst 0, 1) := by decide +kernel
theorem dX4_become_21 : decode cX4_become 21 = .ok (.bipush 6, 2) := by decide +kernel
theorem dX4_become_23 : decode cX4_become 23 = .ok (.invokestatic 57, 3) := by decide +kernel
theorem dX4_become_26 : decode cX4_become 26 = .ok (.aload_n 1, 1) := by decide +kernel
theorem dX4_become_27 : decode cX4_become 27 = .ok (.getfield 22, 3) := by decide +kernel
theorem dX4_become_30 : decode cX4_become 30 = .ok (.iconst 0, 1) := by decide +kernel
theorem dX4_become_31 : decode cX4_become 31 = .ok (.aload_n 0, 1) := by decide +kernel
theorem dX4_become_32 : decode cX4_become 32 = .ok (.getfield 22, 3) := by decide +kernel
theorem dX4_become_35 : decode cX4_become 35 = .ok (.iconst 0, 1) := by decide +kernel
theorem dX4_become_36 : decode cX4_become 36 = .ok (.bipush 24, 2) := by decide +kernel
theorem dX4_become_38 : decode cX4_become 38 = .ok (.invokestatic 57, 3) := by decide +kernel
theorem dX4_become_41 : decode cX4_become 41 = .ok (.aload_n 0, 1) := by decide +kernel
theorem dX4_become_42 : decode cX4_become 42 = .ok (.aload_n 1, 1) := by decide +kernel
theorem dX4_become_43 : decode cX4_become 43 = .ok (.getfield 25, 3) := by decide +kernel
theorem dX4_become_46 : decode cX4_become 46 = .ok (.putfield 25, 3) := by decide +kernel
theorem dX4_become_49 : decode cX4_become 49 = .ok (.aload_n 0, 1) := by decide +kernel
theorem dX4_become_50 : decode cX4_become 50 = .ok (.aload_n 1, 1) := by decide +kernel
theorem dX4_become_51 : decode cX4_become 51 = .ok (.getfield 29, 3) := by decide +kernel
theorem dX4_become_54 : decode cX4_become 54 = .ok (.putfield 29, 3) := by decide +kernel
theorem dX4_become_57 : decode cX4_become 57 = .ok (.aload_n 0, 1) := by decide +kernel
theorem dX4_become_58 : decode cX4_become 58 = .ok (.aload_n 1, 1) := by decide +kernel
theorem dX4_become_59 : decode cX4_become 59 = .ok (.getfield 32, 3) := by decide +kernel
theorem dX4_become_62 : decode cX4_become 62 = .ok (.putfield 32, 3) := by decide +kernel
theorem dX4_become_65 : decode cX4_become 65 = .ok (.aload_n 0, 1) := by decide +kernel
theorem dX4_become_66 : decode cX4_become 66 = .ok (.aload_n 1, 1) := by decide +kernel
theorem dX4_become_67 : decode cX4_become 67 = .ok (.getfield 35, 3) := by decide +kernel
theorem dX4_become_70 : decode cX4_become 70 = .ok (.putfield 35, 3) := by decide +kernel
theorem dX4_become_73 : decode cX4_become 73 = .ok (.aload_n 0, 1) := by decide +kernel
theorem dX4_become_74 : decode cX4_become 74 = .ok (.aload_n 1, 1) := by decide +kernel
theorem dX4_become_75 : decode cX4_become 75 = .ok (.getfield 38, 3) := by decide +kernel
theorem dX4_become_78 : decode cX4_become 78 = .ok (.putfield 38, 3) := by decide +kernel
theorem dX4_become_81 : decode cX4_become 81 = .ok (.aload_n 0, 1) := by decide +kernel
theorem dX4_become_82 : decode cX4_become 82 = .ok (.aload_n 1, 1) := by decide +kernel
theorem dX4_become_83 : decode cX4_become 83 = .ok (.getfield 41, 3) := by decide +kernel
theorem dX4_become_86 : decode cX4_become 86 = .ok (.putfield 41, 3) := by decide +kernel
theorem dX4_become_89 : decode cX4_become 89 = .ok (.aload_n 0, 1) := by decide +kernel
theorem dX4_become_90 : decode cX4_become 90 = .ok (.aload_n 1, 1) := by decide +kernel
theorem dX4_become_91 : decode cX4_become 91 = .ok (.getfield 44, 3) := by decide +kernel
theorem dX4_become_94 : decode cX4_become 94 = .ok (.putfield 44, 3) := by decide +kernel
theorem dX4_become_97 : decode cX4_become 97 = .ok (.aload_n 0, 1) := by decide +kernel
theorem dX4_become_98 : decode cX4_become 98 = .ok (.aload_n 1, 1) := by decide +kernel
theorem dX4_become_99 : decode cX4_become 99 = .ok (.getfield 47, 3) := by decide +kernel
theorem dX4_become_102 : decode cX4_become 102 = .ok (.putfield 47, 3) := by decide +kernel
theorem dX4_become_105 : decode cX4_become 105 = .ok (.aload_n 0, 1) := by decide +kernel
theorem dX4_become_106 : decode cX4_become 106 = .ok (.aload_n 1, 1) := by decide +kernel
theorem dX4_become_107 : decode cX4_become 107 = .ok (.getfield 50, 3) := by decide +kernel
theorem dX4_become_110 : decode cX4_become 110 = .ok (.putfield 50, 3) := by decide +kernel
theorem dX4_become_113 : decode cX4_become 113 = .ok (.return_, 1) := by decide +kernel
theorem dX4_settle_0 : decode cX4_settle 0 = .ok (.aload_n 0, 1) := by decide +kernel
theorem dX4_settle_1 : decode cX4_settle 1 = .ok (.getfield 12, 3) := by decide +kernel
theorem dX4_settle_4 : decode cX4_settle 4 = .ok (.aload_n 1, 1) := by decide +kernel
theorem dX4_settle_5 : decode cX4_settle 5 = .ok (.invokevirtual 53, 3) := by decide +kernel
theorem dX4_settle_8 : decode cX4_settle 8 = .ok (.iconst 0, 1) := by decide +kernel
theorem dX4_settle_9 : decode cX4_settle 9 = .ok (.istore_n 2, 1) := by decide +kernel
theorem dX4_settle_10 : decode cX4_settle 10 = .ok (.iload_n 2, 1) := by decide +kernel
theorem dX4_settle_11 : decode cX4_settle 11 = .ok (.bipush 6, 2) := by decide +kernel
theorem dX4_settle_13 : decode cX4_settle 13 = .ok (.if_icmp .ge 16, 3) := by decide +kernel
theorem dX4_settle_16 : decode cX4_settle 16 = .ok (.aload_n 0, 1) := by decide +kernel
theorem dX4_settle_17 : decode cX4_settle 17 = .ok (.getfield 18, 3) := by decide +kernel
theorem dX4_settle_20 : decode cX4_settle 20 = .ok (.iload_n 2, 1) := by decide +kernel
theorem dX4_settle_21 : decode cX4_settle 21 = .ok (.iconst 0, 1) := by decide +kernel
theorem dX4_settle_22 : decode cX4_settle 22 = .ok (.iastore, 1) := by decide +kernel
theorem dX4_settle_23 : decode cX4_settle 23 = .ok (.iinc 2 1, 3) := by decide +kernel
theorem dX4_settle_26 : decode cX4_settle 26 = .ok (.goto (-16), 3) := by decide +kernel
theorem dX4_settle_29 : decode cX4_settle 29 = .ok (.aload_n 0, 1) := by decide +kernel
theorem dX4_settle_30 : decode cX4_settle 30 = .ok (.bipush 9, 2) := by decide +kernel
theorem dX4_settle_32 : decode cX4_settle 32 = .ok (.putfield 47, 3) := by decide +kernel
theorem dX4_settle_35 : decode cX4_settle 35 = .ok (.aload_n 0, 1) := by decide +kernel
theorem dX4_settle_36 : decode cX4_settle 36 = .ok (.iconst 0, 1) := by decide +kernel
theorem dX4_settle_37 : decode cX4_settle 37 = .ok (.putfield 25, 3) := by decide +kernel
theorem dX4_settle_40 : decode cX4_settle 40 = .ok (.return_, 1) := by decide +kernel
theorem dX4_adopt_0 : decode cX4_adopt 0 = .ok (.aload_n 0, 1) := by decide +kernel
theorem dX4_adopt_1 : decode cX4_adopt 1 = .ok (.iload_n 2, 1) := by decide +kernel
theorem dX4_adopt_2 : decode cX4_adopt 2 = .ok (.bipush 24, 2) := by decide +kernel
theorem dX4_adopt_4 : decode cX4_adopt 4 = .ok (.invokestatic 63, 3) := by decide +kernel
theorem dX4_adopt_7 : decode cX4_adopt 7 = .ok (.putfield 25, 3) := by decide +kernel
theorem dX4_adopt_10 : decode cX4_adopt 10 = .ok (.aload_n 1, 1) := by decide +kernel
theorem dX4_adopt_11 : decode cX4_adopt 11 = .ok (.iconst 0, 1) := by decide +kernel
theorem dX4_adopt_12 : decode cX4_adopt 12 = .ok (.aload_n 0, 1) := by decide +kernel
theorem dX4_adopt_13 : decode cX4_adopt 13 = .ok (.getfield 22, 3) := by decide +kernel
theorem dX4_adopt_16 : decode cX4_adopt 16 = .ok (.iconst 0, 1) := by decide +kernel
theorem dX4_adopt_17 : decode cX4_adopt 17 = .ok (.aload_n 0, 1) := by decide +kernel
theorem dX4_adopt_18 : decode cX4_adopt 18 = .ok (.getfield 25, 3) := by decide +kernel
theorem dX4_adopt_21 : decode cX4_adopt 21 = .ok (.invokestatic 57, 3) := by decide +kernel
theorem dX4_adopt_24 : decode cX4_adopt 24 = .ok (.return_, 1) := by decide +kernel
theorem dX4_mayDraw_0 : decode cX4_mayDraw 0 = .ok (.aload_n 0, 1) := by decide +kernel
theorem dX4_mayDraw_1 : decode cX4_mayDraw 1 = .ok (.getfield 12, 3) := by decide +kernel
theorem dX4_mayDraw_4 : decode cX4_mayDraw 4 = .ok (.iload_n 1, 1) := by decide +kernel
theorem dX4_mayDraw_5 : decode cX4_mayDraw 5 = .ok (.invokevirtual 69, 3) := by decide +kernel
theorem dX4_mayDraw_8 : decode cX4_mayDraw 8 = .ok (.ifCond .eq 16, 3) := by decide +kernel
theorem dX4_mayDraw_11 : decode cX4_mayDraw 11 = .ok (.aload_n 0, 1) := by decide +kernel
theorem dX4_mayDraw_12 : decode cX4_mayDraw 12 = .ok (.getfield 18, 3) := by decide +kernel
theorem dX4_mayDraw_15 : decode cX4_mayDraw 15 = .ok (.iload_n 1, 1) := by decide +kernel
theorem dX4_mayDraw_16 : decode cX4_mayDraw 16 = .ok (.iaload, 1) := by decide +kernel
theorem dX4_mayDraw_17 : decode cX4_mayDraw 17 = .ok (.ifCond .ne 7, 3) := by decide +kernel
theorem dX4_mayDraw_20 : decode cX4_mayDraw 20 = .ok (.iconst 1, 1) := by decide +kernel
theorem dX4_mayDraw_21 : decode cX4_mayDraw 21 = .ok (.goto 4, 3) := by decide +kernel
theorem dX4_mayDraw_24 : decode cX4_mayDraw 24 = .ok (.iconst 0, 1) := by decide +kernel
theorem dX4_mayDraw_25 : decode cX4_mayDraw 25 = .ok (.ireturn, 1) := by decide +kernel
theorem dX4_hasHours_0 : decode cX4_hasHours 0 = .ok (.aload_n 0, 1) := by decide +kernel
theorem dX4_hasHours_1 : decode cX4_hasHours 1 = .ok (.getfield 44, 3) := by decide +kernel
theorem dX4_hasHours_4 : decode cX4_hasHours 4 = .ok (.iload_n 1, 1) := by decide +kernel
theorem dX4_hasHours_5 : decode cX4_hasHours 5 = .ok (.iadd, 1) := by decide +kernel
theorem dX4_hasHours_6 : decode cX4_hasHours 6 = .ok (.sipush 9999, 3) := by decide +kernel
theorem dX4_hasHours_9 : decode cX4_hasHours 9 = .ok (.if_icmp .gt 7, 3) := by decide +kernel
theorem dX4_hasHours_12 : decode cX4_hasHours 12 = .ok (.iconst 1, 1) := by decide +kernel
theorem dX4_hasHours_13 : decode cX4_hasHours 13 = .ok (.goto 4, 3) := by decide +kernel
theorem dX4_hasHours_16 : decode cX4_hasHours 16 = .ok (.iconst 0, 1) := by decide +kernel
theorem dX4_hasHours_17 : decode cX4_hasHours 17 = .ok (.ireturn, 1) := by decide +kernel
theorem dX4_givesAt_0 : decode cX4_givesAt 0 = .ok (.aload_n 0, 1) := by decide +kernel
theorem dX4_givesAt_1 : decode cX4_givesAt 1 = .ok (.getfield 32, 3) := by decide +kernel
theorem dX4_givesAt_4 : decode cX4_givesAt 4 = .ok (.aload_n 0, 1) := by decide +kernel
theorem dX4_givesAt_5 : decode cX4_givesAt 5 = .ok (.getfield 12, 3) := by decide +kernel
theorem dX4_givesAt_8 : decode cX4_givesAt 8 = .ok (.iload_n 1, 1) := by decide +kernel
theorem dX4_givesAt_9 : decode cX4_givesAt 9 = .ok (.iload_n 2, 1) := by decide +kernel
theorem dX4_givesAt_10 : decode cX4_givesAt 10 = .ok (.invokevirtual 73, 3) := by decide +kernel
theorem dX4_givesAt_13 : decode cX4_givesAt 13 = .ok (.invokestatic 63, 3) := by decide +kernel
theorem dX4_givesAt_16 : decode cX4_givesAt 16 = .ok (.istore_n 3, 1) := by decide +kernel
theorem dX4_givesAt_17 : decode cX4_givesAt 17 = .ok (.aload_n 0, 1) := by decide +kernel
theorem dX4_givesAt_18 : decode cX4_givesAt 18 = .ok (.getfield 12, 3) := by decide +kernel
theorem dX4_givesAt_21 : decode cX4_givesAt 21 = .ok (.iload_n 1, 1) := by decide +kernel
theorem dX4_givesAt_22 : decode cX4_givesAt 22 = .ok (.iload_n 2, 1) := by decide +kernel
theorem dX4_givesAt_23 : decode cX4_givesAt 23 = .ok (.invokevirtual 76, 3) := by decide +kernel
theorem dX4_givesAt_26 : decode cX4_givesAt 26 = .ok (.ifCond .eq 7, 3) := by decide +kernel
theorem dX4_givesAt_29 : decode cX4_givesAt 29 = .ok (.iload_n 3, 1) := by decide +kernel
theorem dX4_givesAt_30 : decode cX4_givesAt 30 = .ok (.goto 7, 3) := by decide +kernel
theorem dX4_givesAt_33 : decode cX4_givesAt 33 = .ok (.iload_n 3, 1) := by decide +kernel
theorem dX4_givesAt_34 : decode cX4_givesAt 34 = .ok (.bipush 10, 2) := by decide +kernel
theorem dX4_givesAt_36 : decode cX4_givesAt 36 = .ok (.iadd, 1) := by decide +kernel
theorem dX4_givesAt_37 : decode cX4_givesAt 37 = .ok (.ireturn, 1) := by decide +kernel
theorem dX4_passHour_0 : decode cX4_passHour 0 = .ok (.iconst 0, 1) := by decide +kernel
theorem dX4_passHour_1 : decode cX4_passHour 1 = .ok (.istore_n 2, 1) := by decide +kernel
theorem dX4_passHour_2 : decode cX4_passHour 2 = .ok (.aload_n 0, 1) := by decide +kernel
theorem dX4_passHour_3 : decode cX4_passHour 3 = .ok (.iload_n 1, 1) := by decide +kernel
theorem dX4_passHour_4 : decode cX4_passHour 4 = .ok (.invokevirtual 80, 3) := by decide +kernel
theorem dX4_passHour_7 : decode cX4_passHour 7 = .ok (.ifCond .eq 17, 3) := by decide +kernel
theorem dX4_passHour_10 : decode cX4_passHour 10 = .ok (.aload_n 0, 1) := by decide +kernel
theorem dX4_passHour_11 : decode cX4_passHour 11 = .ok (.iload_n 1, 1) := by decide +kernel
theorem dX4_passHour_12 : decode cX4_passHour 12 = .ok (.invokevirtual 83, 3) := by decide +kernel
theorem dX4_passHour_15 : decode cX4_passHour 15 = .ok (.istore_n 2, 1) := by decide +kernel
theorem dX4_passHour_16 : decode cX4_passHour 16 = .ok (.aload_n 0, 1) := by decide +kernel
theorem dX4_passHour_17 : decode cX4_passHour 17 = .ok (.iload_n 1, 1) := by decide +kernel
theorem dX4_passHour_18 : decode cX4_passHour 18 = .ok (.putfield 47, 3) := by decide +kernel
theorem dX4_passHour_21 : decode cX4_passHour 21 = .ok (.goto 9, 3) := by decide +kernel
theorem dX4_passHour_24 : decode cX4_passHour 24 = .ok (.aload_n 0, 1) := by decide +kernel
theorem dX4_passHour_25 : decode cX4_passHour 25 = .ok (.bipush 9, 2) := by decide +kernel
theorem dX4_passHour_27 : decode cX4_passHour 27 = .ok (.putfield 47, 3) := by decide +kernel
theorem dX4_passHour_30 : decode cX4_passHour 30 = .ok (.aload_n 0, 1) := by decide +kernel
theorem dX4_passHour_31 : decode cX4_passHour 31 = .ok (.invokevirtual 87, 3) := by decide +kernel
theorem dX4_passHour_34 : decode cX4_passHour 34 = .ok (.iload_n 2, 1) := by decide +kernel
theorem dX4_passHour_35 : decode cX4_passHour 35 = .ok (.ireturn, 1) := by decide +kernel
theorem dX4_drawBy_0 : decode cX4_drawBy 0 = .ok (.aload_n 0, 1) := by decide +kernel
theorem dX4_drawBy_1 : decode cX4_drawBy 1 = .ok (.getfield 12, 3) := by decide +kernel
theorem dX4_drawBy_4 : decode cX4_drawBy 4 = .ok (.aload_n 0, 1) := by decide +kernel
theorem dX4_drawBy_5 : decode cX4_drawBy 5 = .ok (.getfield 47, 3) := by decide +kernel
theorem dX4_drawBy_8 : decode cX4_drawBy 8 = .ok (.iload_n 1, 1) := by decide +kernel
theorem dX4_drawBy_9 : decode cX4_drawBy 9 = .ok (.aload_n 0, 1) := by decide +kernel
theorem dX4_drawBy_10 : decode cX4_drawBy 10 = .ok (.getfield 29, 3) := by decide +kernel
theorem dX4_drawBy_13 : decode cX4_drawBy 13 = .ok (.aload_n 0, 1) := by decide +kernel
theorem dX4_drawBy_14 : decode cX4_drawBy 14 = .ok (.getfield 32, 3) := by decide +kernel
theorem dX4_drawBy_17 : decode cX4_drawBy 17 = .ok (.invokevirtual 90, 3) := by decide +kernel
theorem dX4_drawBy_20 : decode cX4_drawBy 20 = .ok (.istore_n 2, 1) := by decide +kernel
theorem dX4_drawBy_21 : decode cX4_drawBy 21 = .ok (.aload_n 0, 1) := by decide +kernel
theorem dX4_drawBy_22 : decode cX4_drawBy 22 = .ok (.getfield 12, 3) := by decide +kernel
theorem dX4_drawBy_25 : decode cX4_drawBy 25 = .ok (.iload_n 1, 1) := by decide +kernel
theorem dX4_drawBy_26 : decode cX4_drawBy 26 = .ok (.aload_n 0, 1) := by decide +kernel
theorem dX4_drawBy_27 : decode cX4_drawBy 27 = .ok (.getfield 29, 3) := by decide +kernel
theorem dX4_drawBy_30 : decode cX4_drawBy 30 = .ok (.invokevirtual 76, 3) := by decide +kernel
theorem dX4_drawBy_33 : decode cX4_drawBy 33 = .ok (.ifCond .eq 16, 3) := by decide +kernel
theorem dX4_drawBy_36 : decode cX4_drawBy 36 = .ok (.aload_n 0, 1) := by decide +kernel
theorem dX4_drawBy_37 : decode cX4_drawBy 37 = .ok (.dup, 1) := by decide +kernel
theorem dX4_drawBy_38 : decode cX4_drawBy 38 = .ok (.getfield 38, 3) := by decide +kernel
theorem dX4_drawBy_41 : decode cX4_drawBy 41 = .ok (.iload_n 2, 1) := by decide +kernel
theorem dX4_drawBy_42 : decode cX4_drawBy 42 = .ok (.iadd, 1) := by decide +kernel
theorem dX4_drawBy_43 : decode cX4_drawBy 43 = .ok (.putfield 38, 3) := by decide +kernel
theorem dX4_drawBy_46 : decode cX4_drawBy 46 = .ok (.goto 13, 3) := by decide +kernel
theorem dX4_drawBy_49 : decode cX4_drawBy 49 = .ok (.aload_n 0, 1) := by decide +kernel
theorem dX4_drawBy_50 : decode cX4_drawBy 50 = .ok (.dup, 1) := by decide +kernel
theorem dX4_drawBy_51 : decode cX4_drawBy 51 = .ok (.getfield 41, 3) := by decide +kernel
theorem dX4_drawBy_54 : decode cX4_drawBy 54 = .ok (.iload_n 2, 1) := by decide +kernel
theorem dX4_drawBy_55 : decode cX4_drawBy 55 = .ok (.iadd, 1) := by decide +kernel
theorem dX4_drawBy_56 : decode cX4_drawBy 56 = .ok (.putfield 41, 3) := by decide +kernel
theorem dX4_drawBy_59 : decode cX4_drawBy 59 = .ok (.aload_n 0, 1) := by decide +kernel
theorem dX4_drawBy_60 : decode cX4_drawBy 60 = .ok (.dup, 1) := by decide +kernel
theorem dX4_drawBy_61 : decode cX4_drawBy 61 = .ok (.getfield 32, 3) := by decide +kernel
theorem dX4_drawBy_64 : decode cX4_drawBy 64 = .ok (.iload_n 2, 1) := by decide +kernel
theorem dX4_drawBy_65 : decode cX4_drawBy 65 = .ok (.isub, 1) := by decide +kernel
theorem dX4_drawBy_66 : decode cX4_drawBy 66 = .ok (.putfield 32, 3) := by decide +kernel
theorem dX4_drawBy_69 : decode cX4_drawBy 69 = .ok (.aload_n 0, 1) := by decide +kernel
theorem dX4_drawBy_70 : decode cX4_drawBy 70 = .ok (.aload_n 0, 1) := by decide +kernel
theorem dX4_drawBy_71 : decode cX4_drawBy 71 = .ok (.getfield 12, 3) := by decide +kernel
theorem dX4_drawBy_74 : decode cX4_drawBy 74 = .ok (.iload_n 1, 1) := by decide +kernel
theorem dX4_drawBy_75 : decode cX4_drawBy 75 = .ok (.aload_n 0, 1) := by decide +kernel
theorem dX4_drawBy_76 : decode cX4_drawBy 76 = .ok (.getfield 29, 3) := by decide +kernel
theorem dX4_drawBy_79 : decode cX4_drawBy 79 = .ok (.invokevirtual 94, 3) := by decide +kernel
theorem dX4_drawBy_82 : decode cX4_drawBy 82 = .ok (.putfield 29, 3) := by decide +kernel
theorem dX4_drawBy_85 : decode cX4_drawBy 85 = .ok (.aload_n 0, 1) := by decide +kernel
theorem dX4_drawBy_86 : decode cX4_drawBy 86 = .ok (.getfield 18, 3) := by decide +kernel
theorem dX4_drawBy_89 : decode cX4_drawBy 89 = .ok (.iload_n 1, 1) := by decide +kernel
theorem dX4_drawBy_90 : decode cX4_drawBy 90 = .ok (.aload_n 0, 1) := by decide +kernel
theorem dX4_drawBy_91 : decode cX4_drawBy 91 = .ok (.getfield 12, 3) := by decide +kernel
theorem dX4_drawBy_94 : decode cX4_drawBy 94 = .ok (.getfield 97, 3) := by decide +kernel
theorem dX4_drawBy_97 : decode cX4_drawBy 97 = .ok (.iload_n 1, 1) := by decide +kernel
theorem dX4_drawBy_98 : decode cX4_drawBy 98 = .ok (.iaload, 1) := by decide +kernel
theorem dX4_drawBy_99 : decode cX4_drawBy 99 = .ok (.iastore, 1) := by decide +kernel
theorem dX4_drawBy_100 : decode cX4_drawBy 100 = .ok (.iload_n 2, 1) := by decide +kernel
theorem dX4_drawBy_101 : decode cX4_drawBy 101 = .ok (.ireturn, 1) := by decide +kernel
theorem dX4_endHour_0 : decode cX4_endHour 0 = .ok (.aload_n 0, 1) := by decide +kernel
theorem dX4_endHour_1 : decode cX4_endHour 1 = .ok (.aload_n 0, 1) := by decide +kernel
theorem dX4_endHour_2 : decode cX4_endHour 2 = .ok (.getfield 29, 3) := by decide +kernel
theorem dX4_endHour_5 : decode cX4_endHour 5 = .ok (.invokestatic 100, 3) := by decide +kernel
theorem dX4_endHour_8 : decode cX4_endHour 8 = .ok (.putfield 29, 3) := by decide +kernel
theorem dX4_endHour_11 : decode cX4_endHour 11 = .ok (.aload_n 0, 1) := by decide +kernel
theorem dX4_endHour_12 : decode cX4_endHour 12 = .ok (.aload_n 0, 1) := by decide +kernel
theorem dX4_endHour_13 : decode cX4_endHour 13 = .ok (.getfield 32, 3) := by decide +kernel
theorem dX4_endHour_16 : decode cX4_endHour 16 = .ok (.aload_n 0, 1) := by decide +kernel
theorem dX4_endHour_17 : decode cX4_endHour 17 = .ok (.getfield 35, 3) := by decide +kernel
theorem dX4_endHour_20 : decode cX4_endHour 20 = .ok (.invokestatic 103, 3) := by decide +kernel
theorem dX4_endHour_23 : decode cX4_endHour 23 = .ok (.putfield 32, 3) := by decide +kernel
theorem dX4_endHour_26 : decode cX4_endHour 26 = .ok (.aload_n 0, 1) := by decide +kernel
theorem dX4_endHour_27 : decode cX4_endHour 27 = .ok (.dup, 1) := by decide +kernel
theorem dX4_endHour_28 : decode cX4_endHour 28 = .ok (.getfield 44, 3) := by decide +kernel
theorem dX4_endHour_31 : decode cX4_endHour 31 = .ok (.iconst 1, 1) := by decide +kernel
theorem dX4_endHour_32 : decode cX4_endHour 32 = .ok (.iadd, 1) := by decide +kernel
theorem dX4_endHour_33 : decode cX4_endHour 33 = .ok (.putfield 44, 3) := by decide +kernel
theorem dX4_endHour_36 : decode cX4_endHour 36 = .ok (.iconst 0, 1) := by decide +kernel
theorem dX4_endHour_37 : decode cX4_endHour 37 = .ok (.istore_n 1, 1) := by decide +kernel
theorem dX4_endHour_38 : decode cX4_endHour 38 = .ok (.iload_n 1, 1) := by decide +kernel
theorem dX4_endHour_39 : decode cX4_endHour 39 = .ok (.aload_n 0, 1) := by decide +kernel
theorem dX4_endHour_40 : decode cX4_endHour 40 = .ok (.getfield 12, 3) := by decide +kernel
theorem dX4_endHour_43 : decode cX4_endHour 43 = .ok (.getfield 106, 3) := by decide +kernel
theorem dX4_endHour_46 : decode cX4_endHour 46 = .ok (.if_icmp .ge 27, 3) := by decide +kernel
theorem dX4_endHour_49 : decode cX4_endHour 49 = .ok (.aload_n 0, 1) := by decide +kernel
theorem dX4_endHour_50 : decode cX4_endHour 50 = .ok (.getfield 18, 3) := by decide +kernel
theorem dX4_endHour_53 : decode cX4_endHour 53 = .ok (.iload_n 1, 1) := by decide +kernel
theorem dX4_endHour_54 : decode cX4_endHour 54 = .ok (.iconst 0, 1) := by decide +kernel
theorem dX4_endHour_55 : decode cX4_endHour 55 = .ok (.aload_n 0, 1) := by decide +kernel
theorem dX4_endHour_56 : decode cX4_endHour 56 = .ok (.getfield 18, 3) := by decide +kernel
theorem dX4_endHour_59 : decode cX4_endHour 59 = .ok (.iload_n 1, 1) := by decide +kernel
theorem dX4_endHour_60 : decode cX4_endHour 60 = .ok (.iaload, 1) := by decide +kernel
theorem dX4_endHour_61 : decode cX4_endHour 61 = .ok (.iconst 1, 1) := by decide +kernel
theorem dX4_endHour_62 : decode cX4_endHour 62 = .ok (.isub, 1) := by decide +kernel
theorem dX4_endHour_63 : decode cX4_endHour 63 = .ok (.invokestatic 109, 3) := by decide +kernel
theorem dX4_endHour_66 : decode cX4_endHour 66 = .ok (.iastore, 1) := by decide +kernel
theorem dX4_endHour_67 : decode cX4_endHour 67 = .ok (.iinc 1 1, 3) := by decide +kernel
theorem dX4_endHour_70 : decode cX4_endHour 70 = .ok (.goto (-32), 3) := by decide +kernel
theorem dX4_endHour_73 : decode cX4_endHour 73 = .ok (.return_, 1) := by decide +kernel
theorem dX4_followPlan_0 : decode cX4_followPlan 0 = .ok (.iconst 0, 1) := by decide +kernel
theorem dX4_followPlan_1 : decode cX4_followPlan 1 = .ok (.istore_n 1, 1) := by decide +kernel
theorem dX4_followPlan_2 : decode cX4_followPlan 2 = .ok (.iload_n 1, 1) := by decide +kernel
theorem dX4_followPlan_3 : decode cX4_followPlan 3 = .ok (.aload_n 0, 1) := by decide +kernel
theorem dX4_followPlan_4 : decode cX4_followPlan 4 = .ok (.getfield 25, 3) := by decide +kernel
theorem dX4_followPlan_7 : decode cX4_followPlan 7 = .ok (.if_icmp .ge 46, 3) := by decide +kernel
theorem dX4_followPlan_10 : decode cX4_followPlan 10 = .ok (.aload_n 0, 1) := by decide +kernel
theorem dX4_followPlan_11 : decode cX4_followPlan 11 = .ok (.getfield 22, 3) := by decide +kernel
theorem dX4_followPlan_14 : decode cX4_followPlan 14 = .ok (.iload_n 1, 1) := by decide +kernel
theorem dX4_followPlan_15 : decode cX4_followPlan 15 = .ok (.iaload, 1) := by decide +kernel
theorem dX4_followPlan_16 : decode cX4_followPlan 16 = .ok (.bipush 9, 2) := by decide +kernel
theorem dX4_followPlan_18 : decode cX4_followPlan 18 = .ok (.if_icmp .eq 18, 3) := by decide +kernel
theorem dX4_followPlan_21 : decode cX4_followPlan 21 = .ok (.aload_n 0, 1) := by decide +kernel
theorem dX4_followPlan_22 : decode cX4_followPlan 22 = .ok (.aload_n 0, 1) := by decide +kernel
theorem dX4_followPlan_23 : decode cX4_followPlan 23 = .ok (.getfield 22, 3) := by decide +kernel
theorem dX4_followPlan_26 : decode cX4_followPlan 26 = .ok (.iload_n 1, 1) := by decide +kernel
theorem dX4_followPlan_27 : decode cX4_followPlan 27 = .ok (.iaload, 1) := by decide +kernel
theorem dX4_followPlan_28 : decode cX4_followPlan 28 = .ok (.invokevirtual 80, 3) := by decide +kernel
theorem dX4_followPlan_31 : decode cX4_followPlan 31 = .ok (.ifCond .ne 5, 3) := by decide +kernel
theorem dX4_followPlan_34 : decode cX4_followPlan 34 = .ok (.iload_n 1, 1) := by decide +kernel
theorem dX4_followPlan_35 : decode cX4_followPlan 35 = .ok (.ireturn, 1) := by decide +kernel
theorem dX4_followPlan_36 : decode cX4_followPlan 36 = .ok (.aload_n 0, 1) := by decide +kernel
theorem dX4_followPlan_37 : decode cX4_followPlan 37 = .ok (.aload_n 0, 1) := by decide +kernel
theorem dX4_followPlan_38 : decode cX4_followPlan 38 = .ok (.getfield 22, 3) := by decide +kernel
theorem dX4_followPlan_41 : decode cX4_followPlan 41 = .ok (.iload_n 1, 1) := by decide +kernel
theorem dX4_followPlan_42 : decode cX4_followPlan 42 = .ok (.iaload, 1) := by decide +kernel
theorem dX4_followPlan_43 : decode cX4_followPlan 43 = .ok (.invokevirtual 112, 3) := by decide +kernel
theorem dX4_followPlan_46 : decode cX4_followPlan 46 = .ok (.pop, 1) := by decide +kernel
theorem dX4_followPlan_47 : decode cX4_followPlan 47 = .ok (.iinc 1 1, 3) := by decide +kernel
theorem dX4_followPlan_50 : decode cX4_followPlan 50 = .ok (.goto (-48), 3) := by decide +kernel
theorem dX4_followPlan_53 : decode cX4_followPlan 53 = .ok (.aload_n 0, 1) := by decide +kernel
theorem dX4_followPlan_54 : decode cX4_followPlan 54 = .ok (.getfield 25, 3) := by decide +kernel
theorem dX4_followPlan_57 : decode cX4_followPlan 57 = .ok (.ireturn, 1) := by decide +kernel
theorem dX4_lot_0 : decode cX4_lot 0 = .ok (.aload_n 0, 1) := by decide +kernel
theorem dX4_lot_1 : decode cX4_lot 1 = .ok (.aload_n 0, 1) := by decide +kernel
theorem dX4_lot_2 : decode cX4_lot 2 = .ok (.getfield 50, 3) := by decide +kernel
theorem dX4_lot_5 : decode cX4_lot 5 = .ok (.i2l, 1) := by decide +kernel
theorem dX4_lot_6 : decode cX4_lot 6 = .ok (.ldc2_w 115, 3) := by decide +kernel
theorem dX4_lot_9 : decode cX4_lot 9 = .ok (.lmul, 1) := by decide +kernel
theorem dX4_lot_10 : decode cX4_lot 10 = .ok (.ldc2_w 117, 3) := by decide +kernel
theorem dX4_lot_13 : decode cX4_lot 13 = .ok (.ladd, 1) := by decide +kernel
theorem dX4_lot_14 : decode cX4_lot 14 = .ok (.ldc2_w 119, 3) := by decide +kernel
theorem dX4_lot_17 : decode cX4_lot 17 = .ok (.land, 1) := by decide +kernel
theorem dX4_lot_18 : decode cX4_lot 18 = .ok (.l2i, 1) := by decide +kernel
theorem dX4_lot_19 : decode cX4_lot 19 = .ok (.putfield 50, 3) := by decide +kernel
theorem dX4_lot_22 : decode cX4_lot 22 = .ok (.aload_n 0, 1) := by decide +kernel
theorem dX4_lot_23 : decode cX4_lot 23 = .ok (.getfield 50, 3) := by decide +kernel
theorem dX4_lot_26 : decode cX4_lot 26 = .ok (.ldc 121, 2) := by decide +kernel
theorem dX4_lot_28 : decode cX4_lot 28 = .ok (.idiv, 1) := by decide +kernel
theorem dX4_lot_29 : decode cX4_lot 29 = .ok (.aload_n 0, 1) := by decide +kernel
theorem dX4_lot_30 : decode cX4_lot 30 = .ok (.getfield 12, 3) := by decide +kernel
theorem dX4_lot_33 : decode cX4_lot 33 = .ok (.getfield 106, 3) := by decide +kernel
theorem dX4_lot_36 : decode cX4_lot 36 = .ok (.iconst 1, 1) := by decide +kernel
theorem dX4_lot_37 : decode cX4_lot 37 = .ok (.iadd, 1) := by decide +kernel
theorem dX4_lot_38 : decode cX4_lot 38 = .ok (.irem, 1) := by decide +kernel
theorem dX4_lot_39 : decode cX4_lot 39 = .ok (.istore_n 1, 1) := by decide +kernel
theorem dX4_lot_40 : decode cX4_lot 40 = .ok (.aload_n 0, 1) := by decide +kernel
theorem dX4_lot_41 : decode cX4_lot 41 = .ok (.iload_n 1, 1) := by decide +kernel
theorem dX4_lot_42 : decode cX4_lot 42 = .ok (.invokevirtual 80, 3) := by decide +kernel
theorem dX4_lot_45 : decode cX4_lot 45 = .ok (.ifCond .eq 7, 3) := by decide +kernel
theorem dX4_lot_48 : decode cX4_lot 48 = .ok (.iload_n 1, 1) := by decide +kernel
theorem dX4_lot_49 : decode cX4_lot 49 = .ok (.goto 5, 3) := by decide +kernel
theorem dX4_lot_52 : decode cX4_lot 52 = .ok (.bipush 9, 2) := by decide +kernel
theorem dX4_lot_54 : decode cX4_lot 54 = .ok (.ireturn, 1) := by decide +kernel
theorem dX5_init_0 : decode cX5_init 0 = .ok (.aload_n 0, 1) := by decide +kernel
theorem dX5_init_1 : decode cX5_init 1 = .ok (.invokespecial 3, 3) := by decide +kernel
theorem dX5_init_4 : decode cX5_init 4 = .ok (.aload_n 0, 1) := by decide +kernel
theorem dX5_init_5 : decode cX5_init 5 = .ok (.new 9, 3) := by decide +kernel
theorem dX5_init_8 : decode cX5_init 8 = .ok (.dup, 1) := by decide +kernel
theorem dX5_init_9 : decode cX5_init 9 = .ok (.invokespecial 11, 3) := by decide +kernel
theorem dX5_init_12 : decode cX5_init 12 = .ok (.putfield 12, 3) := by decide +kernel
theorem dX5_init_15 : decode cX5_init 15 = .ok (.aload_n 0, 1) := by decide +kernel
theorem dX5_init_16 : decode cX5_init 16 = .ok (.new 9, 3) := by decide +kernel
theorem dX5_init_19 : decode cX5_init 19 = .ok (.dup, 1) := by decide +kernel
theorem dX5_init_20 : decode cX5_init 20 = .ok (.invokespecial 11, 3) := by decide +kernel
theorem dX5_init_23 : decode cX5_init 23 = .ok (.putfield 16, 3) := by decide +kernel
theorem dX5_init_26 : decode cX5_init 26 = .ok (.aload_n 0, 1) := by decide +kernel
theorem dX5_init_27 : decode cX5_init 27 = .ok (.iconst 0, 1) := by decide +kernel
theorem dX5_init_28 : decode cX5_init 28 = .ok (.putfield 19, 3) := by decide +kernel
theorem dX5_init_31 : decode cX5_init 31 = .ok (.aload_n 0, 1) := by decide +kernel
theorem dX5_init_32 : decode cX5_init 32 = .ok (.new 23, 3) := by decide +kernel
theorem dX5_init_35 : decode cX5_init 35 = .ok (.dup, 1) := by decide +kernel
theorem dX5_init_36 : decode cX5_init 36 = .ok (.invokespecial 25, 3) := by decide +kernel
theorem dX5_init_39 : decode cX5_init 39 = .ok (.putfield 26, 3) := by decide +kernel
theorem dX5_init_42 : decode cX5_init 42 = .ok (.aload_n 0, 1) := by decide +kernel
theorem dX5_init_43 : decode cX5_init 43 = .ok (.new 30, 3) := by decide +kernel
theorem dX5_init_46 : decode cX5_init 46 = .ok (.dup, 1) := by decide +kernel
theorem dX5_init_47 : decode cX5_init 47 = .ok (.invokespecial 32, 3) := by decide +kernel
theorem dX5_init_50 : decode cX5_init 50 = .ok (.putfield 33, 3) := by decide +kernel
theorem dX5_init_53 : decode cX5_init 53 = .ok (.aload_n 0, 1) := by decide +kernel
theorem dX5_init_54 : decode cX5_init 54 = .ok (.bipush 24, 2) := by decide +kernel
theorem dX5_init_56 : decode cX5_init 56 = .ok (.newarray .int, 2) := by decide +kernel
theorem dX5_init_58 : decode cX5_init 58 = .ok (.putfield 37, 3) := by decide +kernel
theorem dX5_init_61 : decode cX5_init 61 = .ok (.aload_n 0, 1) := by decide +kernel
theorem dX5_init_62 : decode cX5_init 62 = .ok (.new 41, 3) := by decide +kernel
theorem dX5_init_65 : decode cX5_init 65 = .ok (.dup, 1) := by decide +kernel
theorem dX5_init_66 : decode cX5_init 66 = .ok (.invokespecial 43, 3) := by decide +kernel
theorem dX5_init_69 : decode cX5_init 69 = .ok (.putfield 44, 3) := by decide +kernel
theorem dX5_init_72 : decode cX5_init 72 = .ok (.aload_n 0, 1) := by decide +kernel
theorem dX5_init_73 : decode cX5_init 73 = .ok (.iconst 4, 1) := by decide +kernel
theorem dX5_init_74 : decode cX5_init 74 = .ok (.anewarray 48, 3) := by decide +kernel
theorem dX5_init_77 : decode cX5_init 77 = .ok (.putfield 50, 3) := by decide +kernel
theorem dX5_init_80 : decode cX5_init 80 = .ok (.iconst 0, 1) := by decide +kernel
theorem dX5_init_81 : decode cX5_init 81 = .ok (.istore_n 1, 1) := by decide +kernel
theorem dX5_init_82 : decode cX5_init 82 = .ok (.iload_n 1, 1) := by decide +kernel
theorem dX5_init_83 : decode cX5_init 83 = .ok (.iconst 4, 1) := by decide +kernel
theorem dX5_init_84 : decode cX5_init 84 = .ok (.if_icmp .ge 22, 3) := by decide +kernel
theorem dX5_init_87 : decode cX5_init 87 = .ok (.aload_n 0, 1) := by decide +kernel
theorem dX5_init_88 : decode cX5_init 88 = .ok (.getfield 50, 3) := by decide +kernel
theorem dX5_init_91 : decode cX5_init 91 = .ok (.iload_n 1, 1) := by decide +kernel
theorem dX5_init_92 : decode cX5_init 92 = .ok (.new 48, 3) := by decide +kernel
theorem dX5_init_95 : decode cX5_init 95 = .ok (.dup, 1) := by decide +kernel
theorem dX5_init_96 : decode cX5_init 96 = .ok (.invokespecial 54, 3) := by decide +kernel
theorem dX5_init_99 : decode cX5_init 99 = .ok (.aastore, 1) := by decide +kernel
theorem dX5_init_100 : decode cX5_init 100 = .ok (.iinc 1 1, 3) := by decide +kernel
theorem dX5_init_103 : decode cX5_init 103 = .ok (.goto (-21), 3) := by decide +kernel
theorem dX5_init_106 : decode cX5_init 106 = .ok (.return_, 1) := by decide +kernel
theorem dX5_folk_0 : decode cX5_folk 0 = .ok (.iload_n 1, 1) := by decide +kernel
theorem dX5_folk_1 : decode cX5_folk 1 = .ok (.iconst 0, 1) := by decide +kernel
theorem dX5_folk_2 : decode cX5_folk 2 = .ok (.iconst 3, 1) := by decide +kernel
theorem dX5_folk_3 : decode cX5_folk 3 = .ok (.invokestatic 55, 3) := by decide +kernel
theorem dX5_folk_6 : decode cX5_folk 6 = .ok (.ifCond .eq 23, 3) := by decide +kernel
theorem dX5_folk_9 : decode cX5_folk 9 = .ok (.iload_n 2, 1) := by decide +kernel
theorem dX5_folk_10 : decode cX5_folk 10 = .ok (.bipush (-3), 2) := by decide +kernel
theorem dX5_folk_12 : decode cX5_folk 12 = .ok (.iconst 3, 1) := by decide +kernel
theorem dX5_folk_13 : decode cX5_folk 13 = .ok (.invokestatic 55, 3) := by decide +kernel
theorem dX5_folk_16 : decode cX5_folk 16 = .ok (.ifCond .eq 13, 3) := by decide +kernel
theorem dX5_folk_19 : decode cX5_folk 19 = .ok (.iload_n 3, 1) := by decide +kernel
theorem dX5_folk_20 : decode cX5_folk 20 = .ok (.iconst 1, 1) := by decide +kernel
theorem dX5_folk_21 : decode cX5_folk 21 = .ok (.bipush 9, 2) := by decide +kernel
theorem dX5_folk_23 : decode cX5_folk 23 = .ok (.invokestatic 55, 3) := by decide +kernel
theorem dX5_folk_26 : decode cX5_folk 26 = .ok (.ifCond .ne 5, 3) := by decide +kernel
theorem dX5_folk_29 : decode cX5_folk 29 = .ok (.iconst (-1), 1) := by decide +kernel
theorem dX5_folk_30 : decode cX5_folk 30 = .ok (.ireturn, 1) := by decide +kernel
theorem dX5_folk_31 : decode cX5_folk 31 = .ok (.aload_n 0, 1) := by decide +kernel
theorem dX5_folk_32 : decode cX5_folk 32 = .ok (.getfield 12, 3) := by decide +kernel
theorem dX5_folk_35 : decode cX5_folk 35 = .ok (.getfield 59, 3) := by decide +kernel
theorem dX5_folk_38 : decode cX5_folk 38 = .ok (.getfield 62, 3) := by decide +kernel
theorem dX5_folk_41 : decode cX5_folk 41 = .ok (.bipush 6, 2) := by decide +kernel
theorem dX5_folk_43 : decode cX5_folk 43 = .ok (.if_icmp .lt 6, 3) := by decide +kernel
theorem dX5_folk_46 : decode cX5_folk 46 = .ok (.bipush (-3), 2) := by decide +kernel
theorem dX5_folk_48 : decode cX5_folk 48 = .ok (.ireturn, 1) := by decide +kernel
theorem dX5_folk_49 : decode cX5_folk 49 = .ok (.aload_n 0, 1) := by decide +kernel
theorem dX5_folk_50 : decode cX5_folk 50 = .ok (.getfield 12, 3) := by decide +kernel
theorem dX5_folk_53 : decode cX5_folk 53 = .ok (.getfield 59, 3) := by decide +kernel
theorem dX5_folk_56 : decode cX5_folk 56 = .ok (.iload_n 1, 1) := by decide +kernel
theorem dX5_folk_57 : decode cX5_folk 57 = .ok (.iload_n 2, 1) := by decide +kernel
theorem dX5_folk_58 : decode cX5_folk 58 = .ok (.iload_n 3, 1) := by decide +kernel
theorem dX5_folk_59 : decode cX5_folk 59 = .ok (.invokevirtual 66, 3) := by decide +kernel
theorem dX5_folk_62 : decode cX5_folk 62 = .ok (.ireturn, 1) := by decide +kernel
theorem dX5_told_0 : decode cX5_told 0 = .ok (.aload_n 0, 1) := by decide +kernel
theorem dX5_told_1 : decode cX5_told 1 = .ok (.getfield 12, 3) := by decide +kernel
theorem dX5_told_4 : decode cX5_told 4 = .ok (.getfield 59, 3) := by decide +kernel
theorem dX5_told_7 : decode cX5_told 7 = .ok (.iload_n 1, 1) := by decide +kernel
theorem dX5_told_8 : decode cX5_told 8 = .ok (.invokevirtual 70, 3) := by decide +kernel
theorem dX5_told_11 : decode cX5_told 11 = .ok (.ifCond .ne 6, 3) := by decide +kernel
theorem dX5_told_14 : decode cX5_told 14 = .ok (.ldc 74, 2) := by decide +kernel
theorem dX5_told_16 : decode cX5_told 16 = .ok (.ireturn, 1) := by decide +kernel
theorem dX5_told_17 : decode cX5_told 17 = .ok (.iload_n 2, 1) := by decide +kernel
theorem dX5_told_18 : decode cX5_told 18 = .ok (.tableswitch 96 0 4 #[34, 47, 60, 73, 83], 34) := by decide +kernel
theorem dX5_told_52 : decode cX5_told 52 = .ok (.aload_n 0, 1) := by decide +kernel
theorem dX5_told_53 : decode cX5_told 53 = .ok (.getfield 12, 3) := by decide +kernel
theorem dX5_told_56 : decode cX5_told 56 = .ok (.getfield 59, 3) := by decide +kernel
theorem dX5_told_59 : decode cX5_told 59 = .ok (.getfield 75, 3) := by decide +kernel
theorem dX5_told_62 : decode cX5_told 62 = .ok (.iload_n 1, 1) := by decide +kernel
theorem dX5_told_63 : decode cX5_told 63 = .ok (.iaload, 1) := by decide +kernel
theorem dX5_told_64 : decode cX5_told 64 = .ok (.ireturn, 1) := by decide +kernel
theorem dX5_told_65 : decode cX5_told 65 = .ok (.aload_n 0, 1) := by decide +kernel
theorem dX5_told_66 : decode cX5_told 66 = .ok (.getfield 12, 3) := by decide +kernel
theorem dX5_told_69 : decode cX5_told 69 = .ok (.getfield 59, 3) := by decide +kernel
theorem dX5_told_72 : decode cX5_told 72 = .ok (.getfield 78, 3) := by decide +kernel
theorem dX5_told_75 : decode cX5_told 75 = .ok (.iload_n 1, 1) := by decide +kernel
theorem dX5_told_76 : decode cX5_told 76 = .ok (.iaload, 1) := by decide +kernel
theorem dX5_told_77 : decode cX5_told 77 = .ok (.ireturn, 1) := by decide +kernel
theorem dX5_told_78 : decode cX5_told 78 = .ok (.aload_n 0, 1) := by decide +kernel
theorem dX5_told_79 : decode cX5_told 79 = .ok (.getfield 12, 3) := by decide +kernel
theorem dX5_told_82 : decode cX5_told 82 = .ok (.getfield 59, 3) := by decide +kernel
theorem dX5_told_85 : decode cX5_told 85 = .ok (.getfield 81, 3) := by decide +kernel
theorem dX5_told_88 : decode cX5_told 88 = .ok (.iload_n 1, 1) := by decide +kernel
theorem dX5_told_89 : decode cX5_told 89 = .ok (.iaload, 1) := by decide +kernel
theorem dX5_told_90 : decode cX5_told 90 = .ok (.ireturn, 1) := by decide +kernel
theorem dX5_told_91 : decode cX5_told 91 = .ok (.aload_n 0, 1) := by decide +kernel
theorem dX5_told_92 : decode cX5_told 92 = .ok (.getfield 12, 3) := by decide +kernel
theorem dX5_told_95 : decode cX5_told 95 = .ok (.getfield 84, 3) := by decide +kernel
theorem dX5_told_98 : decode cX5_told 98 = .ok (.iload_n 1, 1) := by decide +kernel
theorem dX5_told_99 : decode cX5_told 99 = .ok (.iaload, 1) := by decide +kernel
theorem dX5_told_100 : decode cX5_told 100 = .ok (.ireturn, 1) := by decide +kernel
theorem dX5_told_101 : decode cX5_told 101 = .ok (.aload_n 0, 1) := by decide +kernel
theorem dX5_told_102 : decode cX5_told 102 = .ok (.getfield 12, 3) := by decide +kernel
theorem dX5_told_105 : decode cX5_told 105 = .ok (.getfield 59, 3) := by decide +kernel
theorem dX5_told_108 : decode cX5_told 108 = .ok (.getfield 87, 3) := by decide +kernel
theorem dX5_told_111 : decode cX5_told 111 = .ok (.iload_n 1, 1) := by decide +kernel
theorem dX5_told_112 : decode cX5_told 112 = .ok (.iaload, 1) := by decide +kernel
theorem dX5_told_113 : decode cX5_told 113 = .ok (.ireturn, 1) := by decide +kernel
theorem dX5_told_114 : decode cX5_told 114 = .ok (.ldc 74, 2) := by decide +kernel
theorem dX5_told_116 : decode cX5_told 116 = .ok (.ireturn, 1) := by decide +kernel
theorem dX5_quarrel_0 : decode cX5_quarrel 0 = .ok (.aload_n 0, 1) := by decide +kernel
theorem dX5_quarrel_1 : decode cX5_quarrel 1 = .ok (.getfield 12, 3) := by decide +kernel
theorem dX5_quarrel_4 : decode cX5_quarrel 4 = .ok (.getfield 59, 3) := by decide +kernel
theorem dX5_quarrel_7 : decode cX5_quarrel 7 = .ok (.iload_n 1, 1) := by decide +kernel
theorem dX5_quarrel_8 : decode cX5_quarrel 8 = .ok (.invokevirtual 70, 3) := by decide +kernel
theorem dX5_quarrel_11 : decode cX5_quarrel 11 = .ok (.ifCond .eq 22, 3) := by decide +kernel
theorem dX5_quarrel_14 : decode cX5_quarrel 14 = .ok (.aload_n 0, 1) := by decide +kernel
theorem dX5_quarrel_15 : decode cX5_quarrel 15 = .ok (.getfield 12, 3) := by decide +kernel
theorem dX5_quarrel_18 : decode cX5_quarrel 18 = .ok (.getfield 59, 3) := by decide +kernel
theorem dX5_quarrel_21 : decode cX5_quarrel 21 = .ok (.iload_n 2, 1) := by decide +kernel
theorem dX5_quarrel_22 : decode cX5_quarrel 22 = .ok (.invokevirtual 70, 3) := by decide +kernel
theorem dX5_quarrel_25 : decode cX5_quarrel 25 = .ok (.ifCond .eq 8, 3) := by decide +kernel
theorem dX5_quarrel_28 : decode cX5_quarrel 28 = .ok (.iload_n 1, 1) := by decide +kernel
theorem dX5_quarrel_29 : decode cX5_quarrel 29 = .ok (.iload_n 2, 1) := by decide +kernel
theorem dX5_quarrel_30 : decode cX5_quarrel 30 = .ok (.if_icmp .ne 5, 3) := by decide +kernel
theorem dX5_quarrel_33 : decode cX5_quarrel 33 = .ok (.iconst (-1), 1) := by decide +kernel
theorem dX5_quarrel_34 : decode cX5_quarrel 34 = .ok (.ireturn, 1) := by decide +kernel
theorem dX5_quarrel_35 : decode cX5_quarrel 35 = .ok (.aload_n 0, 1) := by decide +kernel
theorem dX5_quarrel_36 : decode cX5_quarrel 36 = .ok (.getfield 12, 3) := by decide +kernel
theorem dX5_quarrel_39 : decode cX5_quarrel 39 = .ok (.getfield 59, 3) := by decide +kernel
theorem dX5_quarrel_42 : decode cX5_quarrel 42 = .ok (.iload_n 1, 1) := by decide +kernel
theorem dX5_quarrel_43 : decode cX5_quarrel 43 = .ok (.iload_n 2, 1) := by decide +kernel
theorem dX5_quarrel_44 : decode cX5_quarrel 44 = .ok (.invokevirtual 90, 3) := by decide +kernel
theorem dX5_quarrel_47 : decode cX5_quarrel 47 = .ok (.ifCond .eq 7, 3) := by decide +kernel
theorem dX5_quarrel_50 : decode cX5_quarrel 50 = .ok (.iconst 1, 1) := by decide +kernel
theorem dX5_quarrel_51 : decode cX5_quarrel 51 = .ok (.goto 4, 3) := by decide +kernel
theorem dX5_quarrel_54 : decode cX5_quarrel 54 = .ok (.iconst 0, 1) := by decide +kernel
theorem dX5_quarrel_55 : decode cX5_quarrel 55 = .ok (.istore 4, 2) := by decide +kernel
theorem dX5_quarrel_57 : decode cX5_quarrel 57 = .ok (.aload_n 0, 1) := by decide +kernel
theorem dX5_quarrel_58 : decode cX5_quarrel 58 = .ok (.getfield 12, 3) := by decide +kernel
theorem dX5_quarrel_61 : decode cX5_quarrel 61 = .ok (.getfield 59, 3) := by decide +kernel
theorem dX5_quarrel_64 : decode cX5_quarrel 64 = .ok (.iload_n 1, 1) := by decide +kernel
theorem dX5_quarrel_65 : decode cX5_quarrel 65 = .ok (.iload_n 2, 1) := by decide +kernel
theorem dX5_quarrel_66 : decode cX5_quarrel 66 = .ok (.iload_n 3, 1) := by decide +kernel
theorem dX5_quarrel_67 : decode cX5_quarrel 67 = .ok (.invokevirtual 94, 3) := by decide +kernel
theorem dX5_quarrel_70 : decode cX5_quarrel 70 = .ok (.iload 4, 2) := by decide +kernel
theorem dX5_quarrel_72 : decode cX5_quarrel 72 = .ok (.ireturn, 1) := by decide +kernel
theorem dX5_set_0 : decode cX5_set 0 = .ok (.ldc 74, 2) := by decide +kernel
theorem dX5_set_2 : decode cX5_set 2 = .ok (.istore_n 3, 1) := by decide +kernel
theorem dX5_set_3 : decode cX5_set 3 = .ok (.iload_n 1, 1) := by decide +kernel
theorem dX5_set_4 : decode cX5_set 4 = .ok (.ifCond .ne 29, 3) := by decide +kernel
theorem dX5_set_7 : decode cX5_set 7 = .ok (.iload_n 2, 1) := by decide +kernel
theorem dX5_set_8 : decode cX5_set 8 = .ok (.invokestatic 98, 3) := by decide +kernel
theorem dX5_set_11 : decode cX5_set 11 = .ok (.ifCond .eq 22, 3) := by decide +kernel
theorem dX5_set_14 : decode cX5_set 14 = .ok (.aload_n 0, 1) := by decide +kernel
theorem dX5_set_15 : decode cX5_set 15 = .ok (.getfield 12, 3) := by decide +kernel
theorem dX5_set_18 : decode cX5_set 18 = .ok (.getfield 101, 3) := by decide +kernel
theorem dX5_set_21 : decode cX5_set 21 = .ok (.istore_n 3, 1) := by decide +kernel
theorem dX5_set_22 : decode cX5_set 22 = .ok (.aload_n 0, 1) := by decide +kernel
theorem dX5_set_23 : decode cX5_set 23 = .ok (.getfield 12, 3) := by decide +kernel
theorem dX5_set_26 : decode cX5_set 26 = .ok (.iload_n 2, 1) := by decide +kernel
theorem dX5_set_27 : decode cX5_set 27 = .ok (.putfield 101, 3) := by decide +kernel
theorem dX5_set_30 : decode cX5_set 30 = .ok (.goto 69, 3) := by decide +kernel
theorem dX5_set_33 : decode cX5_set 33 = .ok (.iload_n 1, 1) := by decide +kernel
theorem dX5_set_34 : decode cX5_set 34 = .ok (.iconst 1, 1) := by decide +kernel
theorem dX5_set_35 : decode cX5_set 35 = .ok (.if_icmp .ne 33, 3) := by decide +kernel
theorem dX5_set_38 : decode cX5_set 38 = .ok (.iload_n 2, 1) := by decide +kernel
theorem dX5_set_39 : decode cX5_set 39 = .ok (.iconst 0, 1) := by decide +kernel
theorem dX5_set_40 : decode cX5_set 40 = .ok (.sipush 999, 3) := by decide +kernel
theorem dX5_set_43 : decode cX5_set 43 = .ok (.invokestatic 55, 3) := by decide +kernel
theorem dX5_set_46 : decode cX5_set 46 = .ok (.ifCond .eq 22, 3) := by decide +kernel
theorem dX5_set_49 : decode cX5_set 49 = .ok (.aload_n 0, 1) := by decide +kernel
theorem dX5_set_50 : decode cX5_set 50 = .ok (.getfield 12, 3) := by decide +kernel
theorem dX5_set_53 : decode cX5_set 53 = .ok (.getfield 104, 3) := by decide +kernel
theorem dX5_set_56 : decode cX5_set 56 = .ok (.istore_n 3, 1) := by decide +kernel
theorem dX5_set_57 : decode cX5_set 57 = .ok (.aload_n 0, 1) := by decide +kernel
theorem dX5_set_58 : decode cX5_set 58 = .ok (.getfield 12, 3) := by decide +kernel
theorem dX5_set_61 : decode cX5_set 61 = .ok (.iload_n 2, 1) := by decide +kernel
theorem dX5_set_62 : decode cX5_set 62 = .ok (.putfield 104, 3) := by decide +kernel
theorem dX5_set_65 : decode cX5_set 65 = .ok (.goto 34, 3) := by decide +kernel
theorem dX5_set_68 : decode cX5_set 68 = .ok (.iload_n 1, 1) := by decide +kernel
theorem dX5_set_69 : decode cX5_set 69 = .ok (.iconst 2, 1) := by decide +kernel
theorem dX5_set_70 : decode cX5_set 70 = .ok (.if_icmp .ne 29, 3) := by decide +kernel
theorem dX5_set_73 : decode cX5_set 73 = .ok (.iload_n 2, 1) := by decide +kernel
theorem dX5_set_74 : decode cX5_set 74 = .ok (.iconst 0, 1) := by decide +kernel
theorem dX5_set_75 : decode cX5_set 75 = .ok (.bipush 9, 2) := by decide +kernel
theorem dX5_set_77 : decode cX5_set 77 = .ok (.invokestatic 55, 3) := by decide +kernel
theorem dX5_set_80 : decode cX5_set 80 = .ok (.ifCond .eq 19, 3) := by decide +kernel
theorem dX5_set_83 : decode cX5_set 83 = .ok (.aload_n 0, 1) := by decide +kernel
theorem dX5_set_84 : decode cX5_set 84 = .ok (.getfield 12, 3) := by decide +kernel
theorem dX5_set_87 : decode cX5_set 87 = .ok (.getfield 107, 3) := by decide +kernel
theorem dX5_set_90 : decode cX5_set 90 = .ok (.istore_n 3, 1) := by decide +kernel
theorem dX5_set_91 : decode cX5_set 91 = .ok (.aload_n 0, 1) := by decide +kernel
theorem dX5_set_92 : decode cX5_set 92 = .ok (.getfield 12, 3) := by decide +kernel
theorem dX5_set_95 : decode cX5_set 95 = .ok (.iload_n 2, 1) := by decide +kernel
theorem dX5_set_96 : decode cX5_set 96 = .ok (.putfield 107, 3) := by decide +kernel
theorem dX5_set_99 : decode cX5_set 99 = .ok (.iload_n 3, 1) := by decide +kernel
theorem dX5_set_100 : decode cX5_set 100 = .ok (.ireturn, 1) := by decide +kernel
theorem dX5_is_0 : decode cX5_is 0 = .ok (.iload_n 1, 1) := by decide +kernel
theorem dX5_is_1 : decode cX5_is 1 = .ok (.tableswitch 126 0 8 #[51, 59, 67, 75, 83, 91, 99, 110, 118], 51) := by decide +kernel
theorem dX5_is_52 : decode cX5_is 52 = .ok (.aload_n 0, 1) := by decide +kernel
theorem dX5_is_53 : decode cX5_is 53 = .ok (.getfield 12, 3) := by decide +kernel
theorem dX5_is_56 : decode cX5_is 56 = .ok (.getfield 101, 3) := by decide +kernel
theorem dX5_is_59 : decode cX5_is 59 = .ok (.ireturn, 1) := by decide +kernel
theorem dX5_is_60 : decode cX5_is 60 = .ok (.aload_n 0, 1) := by decide +kernel
theorem dX5_is_61 : decode cX5_is 61 = .ok (.getfield 12, 3) := by decide +kernel
theorem dX5_is_64 : decode cX5_is 64 = .ok (.getfield 104, 3) := by decide +kernel
theorem dX5_is_67 : decode cX5_is 67 = .ok (.ireturn, 1) := by decide +kernel
theorem dX5_is_68 : decode cX5_is 68 = .ok (.aload_n 0, 1) := by decide +kernel
theorem dX5_is_69 : decode cX5_is 69 = .ok (.getfield 12, 3) := by decide +kernel
theorem dX5_is_72 : decode cX5_is 72 = .ok (.getfield 107, 3) := by decide +kernel
theorem dX5_is_75 : decode cX5_is 75 = .ok (.ireturn, 1) := by decide +kernel
theorem dX5_is_76 : decode cX5_is 76 = .ok (.aload_n 0, 1) := by decide +kernel
theorem dX5_is_77 : decode cX5_is 77 = .ok (.getfield 12, 3) := by decide +kernel
theorem dX5_is_80 : decode cX5_is 80 = .ok (.getfield 110, 3) := by decide +kernel
theorem dX5_is_83 : decode cX5_is 83 = .ok (.ireturn, 1) := by decide +kernel
theorem dX5_is_84 : decode cX5_is 84 = .ok (.aload_n 0, 1) := by decide +kernel
theorem dX5_is_85 : decode cX5_is 85 = .ok (.getfield 12, 3) := by decide +kernel
theorem dX5_is_88 : decode cX5_is 88 = .ok (.getfield 113, 3) := by decide +kernel
theorem dX5_is_91 : decode cX5_is 91 = .ok (.ireturn, 1) := by decide +kernel
theorem dX5_is_92 : decode cX5_is 92 = .ok (.aload_n 0, 1) := by decide +kernel
theorem dX5_is_93 : decode cX5_is 93 = .ok (.getfield 12, 3) := by decide +kernel
theorem dX5_is_96 : decode cX5_is 96 = .ok (.getfield 116, 3) := by decide +kernel
theorem dX5_is_99 : decode cX5_is 99 = .ok (.ireturn, 1) := by decide +kernel
theorem dX5_is_100 : decode cX5_is 100 = .ok (.aload_n 0, 1) := by decide +kernel
theorem dX5_is_101 : decode cX5_is 101 = .ok (.getfield 12, 3) := by decide +kernel
theorem dX5_is_104 : decode cX5_is 104 = .ok (.getfield 59, 3) := by decide +kernel
theorem dX5_is_107 : decode cX5_is 107 = .ok (.getfield 62, 3) := by decide +kernel
theorem dX5_is_110 : decode cX5_is 110 = .ok (.ireturn, 1) := by decide +kernel
theorem dX5_is_111 : decode cX5_is 111 = .ok (.aload_n 0, 1) := by decide +kernel
theorem dX5_is_112 : decode cX5_is 112 = .ok (.getfield 12, 3) := by decide +kernel
theorem dX5_is_115 : decode cX5_is 115 = .ok (.getfield 119, 3) := by decide +kernel
theorem dX5_is_118 : decode cX5_is 118 = .ok (.ireturn, 1) := by decide +kernel
theorem dX5_is_119 : decode cX5_is 119 = .ok (.aload_n 0, 1) := by decide +kernel
theorem dX5_is_120 : decode cX5_is 120 = .ok (.getfield 12, 3) := by decide +kernel
theorem dX5_is_123 : decode cX5_is 123 = .ok (.getfield 122, 3) := by decide +kernel
theorem dX5_is_126 : decode cX5_is 126 = .ok (.ireturn, 1) := by decide +kernel
theorem dX5_is_127 : decode cX5_is 127 = .ok (.ldc 74, 2) := by decide +kernel
theorem dX5_is_129 : decode cX5_is 129 = .ok (.ireturn, 1) := by decide +kernel
theorem dX5_type_0 : decode cX5_type 0 = .ok (.iload_n 3, 1) := by decide +kernel
theorem dX5_type_1 : decode cX5_type 1 = .ok (.iconst 1, 1) := by decide +kernel
theorem dX5_type_2 : decode cX5_type 2 = .ok (.bipush 8, 2) := by decide +kernel
theorem dX5_type_4 : decode cX5_type 4 = .ok (.invokestatic 55, 3) := by decide +kernel
theorem dX5_type_7 : decode cX5_type 7 = .ok (.ifCond .eq 11, 3) := by decide +kernel
theorem dX5_type_10 : decode cX5_type 10 = .ok (.lload_n 1, 1) := by decide +kernel
theorem dX5_type_11 : decode cX5_type 11 = .ok (.iload_n 3, 1) := by decide +kernel
theorem dX5_type_12 : decode cX5_type 12 = .ok (.invokestatic 125, 3) := by decide +kernel
theorem dX5_type_15 : decode cX5_type 15 = .ok (.ifCond .ne 5, 3) := by decide +kernel
theorem dX5_type_18 : decode cX5_type 18 = .ok (.iconst (-1), 1) := by decide +kernel
theorem dX5_type_19 : decode cX5_type 19 = .ok (.ireturn, 1) := by decide +kernel
theorem dX5_type_20 : decode cX5_type 20 = .ok (.aload_n 0, 1) := by decide +kernel
theorem dX5_type_21 : decode cX5_type 21 = .ok (.getfield 26, 3) := by decide +kernel
theorem dX5_type_24 : decode cX5_type 24 = .ok (.getfield 129, 3) := by decide +kernel
theorem dX5_type_27 : decode cX5_type 27 = .ok (.iload_n 3, 1) := by decide +kernel
theorem dX5_type_28 : decode cX5_type 28 = .ok (.iadd, 1) := by decide +kernel
theorem dX5_type_29 : decode cX5_type 29 = .ok (.bipush 60, 2) := by decide +kernel
theorem dX5_type_31 : decode cX5_type 31 = .ok (.if_icmp .le 6, 3) := by decide +kernel
theorem dX5_type_34 : decode cX5_type 34 = .ok (.bipush (-3), 2) := by decide +kernel
theorem dX5_type_36 : decode cX5_type 36 = .ok (.ireturn, 1) := by decide +kernel
theorem dX5_type_37 : decode cX5_type 37 = .ok (.iload_n 3, 1) := by decide +kernel
theorem dX5_type_38 : decode cX5_type 38 = .ok (.iconst 1, 1) := by decide +kernel
theorem dX5_type_39 : decode cX5_type 39 = .ok (.isub, 1) := by decide +kernel
theorem dX5_type_40 : decode cX5_type 40 = .ok (.istore 4, 2) := by decide +kernel
theorem dX5_type_42 : decode cX5_type 42 = .ok (.iload 4, 2) := by decide +kernel
theorem dX5_type_44 : decode cX5_type 44 = .ok (.ifCond .lt 22, 3) := by decide +kernel
theorem dX5_type_47 : decode cX5_type 47 = .ok (.aload_n 0, 1) := by decide +kernel
theorem dX5_type_48 : decode cX5_type 48 = .ok (.getfield 26, 3) := by decide +kernel
theorem dX5_type_51 : decode cX5_type 51 = .ok (.lload_n 1, 1) := by decide +kernel
theorem dX5_type_52 : decode cX5_type 52 = .ok (.iload 4, 2) := by decide +kernel
theorem dX5_type_54 : decode cX5_type 54 = .ok (.invokestatic 132, 3) := by decide +kernel
theorem dX5_type_57 : decode cX5_type 57 = .ok (.invokevirtual 136, 3) := by decide +kernel
theorem dX5_type_60 : decode cX5_type 60 = .ok (.iinc 4 (-1), 3) := by decide +kernel
theorem dX5_type_63 : decode cX5_type 63 = .ok (.goto (-21), 3) := by decide +kernel
theorem dX5_type_66 : decode cX5_type 66 = .ok (.aload_n 0, 1) := by decide +kernel
theorem dX5_type_67 : decode cX5_type 67 = .ok (.getfield 26, 3) := by decide +kernel
theorem dX5_type_70 : decode cX5_type 70 = .ok (.getfield 129, 3) := by decide +kernel
theorem dX5_type_73 : decode cX5_type 73 = .ok (.ireturn, 1) := by decide +kernel
theorem dX5_village_0 : decode cX5_village 0 = .ok (.aload_n 0, 1) := by decide +kernel
theorem dX5_village_1 : decode cX5_village 1 = .ok (.getfield 26, 3) := by decide +kernel
theorem dX5_village_4 : decode cX5_village 4 = .ok (.aload_n 0, 1) := by decide +kernel
theorem dX5_village_5 : decode cX5_village 5 = .ok (.getfield 33, 3) := by decide +kernel
theorem dX5_village_8 : decode cX5_village 8 = .ok (.invokevirtual 140, 3) := by decide +kernel
theorem dX5_village_11 : decode cX5_village 11 = .ok (.istore_n 1, 1) := by decide +kernel
theorem dX5_village_12 : decode cX5_village 12 = .ok (.aload_n 0, 1) := by decide +kernel
theorem dX5_village_13 : decode cX5_village 13 = .ok (.getfield 26, 3) := by decide +kernel
theorem dX5_village_16 : decode cX5_village 16 = .ok (.iconst 0, 1) := by decide +kernel
theorem dX5_village_17 : decode cX5_village 17 = .ok (.putfield 129, 3) := by decide +kernel
theorem dX5_village_20 : decode cX5_village 20 = .ok (.iload_n 1, 1) := by decide +kernel
theorem dX5_village_21 : decode cX5_village 21 = .ok (.ifCond .le 14, 3) := by decide +kernel
theorem dX5_village_24 : decode cX5_village 24 = .ok (.aload_n 0, 1) := by decide +kernel
theorem dX5_village_25 : decode cX5_village 25 = .ok (.getfield 12, 3) := by decide +kernel
theorem dX5_village_28 : decode cX5_village 28 = .ok (.aload_n 0, 1) := by decide +kernel
theorem dX5_village_29 : decode cX5_village 29 = .ok (.getfield 33, 3) := by decide +kernel
theorem dX5_village_32 : decode cX5_village 32 = .ok (.invokevirtual 144, 3) := by decide +kernel
theorem dX5_village_35 : decode cX5_village 35 = .ok (.iload_n 1, 1) := by decide +kernel
theorem dX5_village_36 : decode cX5_village 36 = .ok (.ireturn, 1) := by decide +kernel
theorem dX5_plan_0 : decode cX5_plan 0 = .ok (.aload_n 0, 1) := by decide +kernel
theorem dX5_plan_1 : decode cX5_plan 1 = .ok (.getfield 26, 3) := by decide +kernel
theorem dX5_plan_4 : decode cX5_plan 4 = .ok (.aload_n 0, 1) := by decide +kernel
theorem dX5_plan_5 : decode cX5_plan 5 = .ok (.getfield 37, 3) := by decide +kernel
theorem dX5_plan_8 : decode cX5_plan 8 = .ok (.aload_n 0, 1) := by decide +kernel
theorem dX5_plan_9 : decode cX5_plan 9 = .ok (.getfield 12, 3) := by decide +kernel
theorem dX5_plan_12 : decode cX5_plan 12 = .ok (.getfield 59, 3) := by decide +kernel
theorem dX5_plan_15 : decode cX5_plan 15 = .ok (.invokevirtual 148, 3) := by decide +kernel
theorem dX5_plan_18 : decode cX5_plan 18 = .ok (.istore_n 1, 1) := by decide +kernel
theorem dX5_plan_19 : decode cX5_plan 19 = .ok (.aload_n 0, 1) := by decide +kernel
theorem dX5_plan_20 : decode cX5_plan 20 = .ok (.getfield 26, 3) := by decide +kernel
theorem dX5_plan_23 : decode cX5_plan 23 = .ok (.iconst 0, 1) := by decide +kernel
theorem dX5_plan_24 : decode cX5_plan 24 = .ok (.putfield 129, 3) := by decide +kernel
theorem dX5_plan_27 : decode cX5_plan 27 = .ok (.iload_n 1, 1) := by decide +kernel
theorem dX5_plan_28 : decode cX5_plan 28 = .ok (.ifCond .le 15, 3) := by decide +kernel
theorem dX5_plan_31 : decode cX5_plan 31 = .ok (.aload_n 0, 1) := by decide +kernel
theorem dX5_plan_32 : decode cX5_plan 32 = .ok (.getfield 12, 3) := by decide +kernel
theorem dX5_plan_35 : decode cX5_plan 35 = .ok (.aload_n 0, 1) := by decide +kernel
theorem dX5_plan_36 : decode cX5_plan 36 = .ok (.getfield 37, 3) := by decide +kernel
theorem dX5_plan_39 : decode cX5_plan 39 = .ok (.iload_n 1, 1) := by decide +kernel
theorem dX5_plan_40 : decode cX5_plan 40 = .ok (.invokevirtual 152, 3) := by decide +kernel
theorem dX5_plan_43 : decode cX5_plan 43 = .ok (.iload_n 1, 1) := by decide +kernel
theorem dX5_plan_44 : decode cX5_plan 44 = .ok (.ireturn, 1) := by decide +kernel
theorem dX5_may_0 : decode cX5_may 0 = .ok (.iconst 0, 1) := by decide +kernel
theorem dX5_may_1 : decode cX5_may 1 = .ok (.istore_n 1, 1) := by decide +kernel
theorem dX5_may_2 : decode cX5_may 2 = .ok (.iconst 0, 1) := by decide +kernel
theorem dX5_may_3 : decode cX5_may 3 = .ok (.istore_n 2, 1) := by decide +kernel
theorem dX5_may_4 : decode cX5_may 4 = .ok (.iload_n 2, 1) := by decide +kernel
theorem dX5_may_5 : decode cX5_may 5 = .ok (.aload_n 0, 1) := by decide +kernel
theorem dX5_may_6 : decode cX5_may 6 = .ok (.getfield 12, 3) := by decide +kernel
theorem dX5_may_9 : decode cX5_may 9 = .ok (.getfield 59, 3) := by decide +kernel
theorem dX5_may_12 : decode cX5_may 12 = .ok (.getfield 62, 3) := by decide +kernel
theorem dX5_may_15 : decode cX5_may 15 = .ok (.if_icmp .ge 26, 3) := by decide +kernel
theorem dX5_may_18 : decode cX5_may 18 = .ok (.aload_n 0, 1) := by decide +kernel
theorem dX5_may_19 : decode cX5_may 19 = .ok (.getfield 12, 3) := by decide +kernel
theorem dX5_may_22 : decode cX5_may 22 = .ok (.iload_n 2, 1) := by decide +kernel
theorem dX5_may_23 : decode cX5_may 23 = .ok (.invokevirtual 156, 3) := by decide +kernel
theorem dX5_may_26 : decode cX5_may 26 = .ok (.ifCond .eq 9, 3) := by decide +kernel
theorem dX5_may_29 : decode cX5_may 29 = .ok (.iload_n 1, 1) := by decide +kernel
theorem dX5_may_30 : decode cX5_may 30 = .ok (.iconst 1, 1) := by decide +kernel
theorem dX5_may_31 : decode cX5_may 31 = .ok (.iload_n 2, 1) := by decide +kernel
theorem dX5_may_32 : decode cX5_may 32 = .ok (.ishl, 1) := by decide +kernel
theorem dX5_may_33 : decode cX5_may 33 = .ok (.ior, 1) := by decide +kernel
theorem dX5_may_34 : decode cX5_may 34 = .ok (.istore_n 1, 1) := by decide +kernel
theorem dX5_may_35 : decode cX5_may 35 = .ok (.iinc 2 1, 3) := by decide +kernel
theorem dX5_may_38 : decode cX5_may 38 = .ok (.goto (-34), 3) := by decide +kernel
theorem dX5_may_41 : decode cX5_may 41 = .ok (.iload_n 1, 1) := by decide +kernel
theorem dX5_may_42 : decode cX5_may 42 = .ok (.ireturn, 1) := by decide +kernel
theorem dX5_draw_0 : decode cX5_draw 0 = .ok (.iload_n 1, 1) := by decide +kernel
theorem dX5_draw_1 : decode cX5_draw 1 = .ok (.bipush 9, 2) := by decide +kernel
theorem dX5_draw_3 : decode cX5_draw 3 = .ok (.if_icmp .eq 19, 3) := by decide +kernel
theorem dX5_draw_6 : decode cX5_draw 6 = .ok (.aload_n 0, 1) := by decide +kernel
theorem dX5_draw_7 : decode cX5_draw 7 = .ok (.getfield 12, 3) := by decide +kernel
theorem dX5_draw_10 : decode cX5_draw 10 = .ok (.getfield 59, 3) := by decide +kernel
theorem dX5_draw_13 : decode cX5_draw 13 = .ok (.iload_n 1, 1) := by decide +kernel
theorem dX5_draw_14 : decode cX5_draw 14 = .ok (.invokevirtual 70, 3) := by decide +kernel
theorem dX5_draw_17 : decode cX5_draw 17 = .ok (.ifCond .ne 5, 3) := by decide +kernel
theorem dX5_draw_20 : decode cX5_draw 20 = .ok (.iconst (-1), 1) := by decide +kernel
theorem dX5_draw_21 : decode cX5_draw 21 = .ok (.ireturn, 1) := by decide +kernel
theorem dX5_draw_22 : decode cX5_draw 22 = .ok (.iload_n 1, 1) := by decide +kernel
theorem dX5_draw_23 : decode cX5_draw 23 = .ok (.bipush 9, 2) := by decide +kernel
theorem dX5_draw_25 : decode cX5_draw 25 = .ok (.if_icmp .eq 17, 3) := by decide +kernel
theorem dX5_draw_28 : decode cX5_draw 28 = .ok (.aload_n 0, 1) := by decide +kernel
theorem dX5_draw_29 : decode cX5_draw 29 = .ok (.getfield 12, 3) := by decide +kernel
theorem dX5_draw_32 : decode cX5_draw 32 = .ok (.iload_n 1, 1) := by decide +kernel
theorem dX5_draw_33 : decode cX5_draw 33 = .ok (.invokevirtual 156, 3) := by decide +kernel
theorem dX5_draw_36 : decode cX5_draw 36 = .ok (.ifCond .ne 6, 3) := by decide +kernel
theorem dX5_draw_39 : decode cX5_draw 39 = .ok (.bipush (-2), 2) := by decide +kernel
theorem dX5_draw_41 : decode cX5_draw 41 = .ok (.ireturn, 1) := by decide +kernel
theorem dX5_draw_42 : decode cX5_draw 42 = .ok (.aload_n 0, 1) := by decide +kernel
theorem dX5_draw_43 : decode cX5_draw 43 = .ok (.getfield 12, 3) := by decide +kernel
theorem dX5_draw_46 : decode cX5_draw 46 = .ok (.iconst 1, 1) := by decide +kernel
theorem dX5_draw_47 : decode cX5_draw 47 = .ok (.invokevirtual 159, 3) := by decide +kernel
theorem dX5_draw_50 : decode cX5_draw 50 = .ok (.ifCond .ne 6, 3) := by decide +kernel
theorem dX5_draw_53 : decode cX5_draw 53 = .ok (.bipush (-3), 2) := by decide +kernel
theorem dX5_draw_55 : decode cX5_draw 55 = .ok (.ireturn, 1) := by decide +kernel
theorem dX5_draw_56 : decode cX5_draw 56 = .ok (.aload_n 0, 1) := by decide +kernel
theorem dX5_draw_57 : decode cX5_draw 57 = .ok (.getfield 12, 3) := by decide +kernel
theorem dX5_draw_60 : decode cX5_draw 60 = .ok (.iload_n 1, 1) := by decide +kernel
theorem dX5_draw_61 : decode cX5_draw 61 = .ok (.invokevirtual 162, 3) := by decide +kernel
theorem dX5_draw_64 : decode cX5_draw 64 = .ok (.ireturn, 1) := by decide +kernel
theorem dX5_pass_0 : decode cX5_pass 0 = .ok (.iload_n 1, 1) := by decide +kernel
theorem dX5_pass_1 : decode cX5_pass 1 = .ok (.iconst 1, 1) := by decide +kernel
theorem dX5_pass_2 : decode cX5_pass 2 = .ok (.bipush 60, 2) := by decide +kernel
theorem dX5_pass_4 : decode cX5_pass 4 = .ok (.invokestatic 55, 3) := by decide +kernel
theorem dX5_pass_7 : decode cX5_pass 7 = .ok (.ifCond .ne 5, 3) := by decide +kernel
theorem dX5_pass_10 : decode cX5_pass 10 = .ok (.iconst (-1), 1) := by decide +kernel
theorem dX5_pass_11 : decode cX5_pass 11 = .ok (.ireturn, 1) := by decide +kernel
theorem dX5_pass_12 : decode cX5_pass 12 = .ok (.aload_n 0, 1) := by decide +kernel
theorem dX5_pass_13 : decode cX5_pass 13 = .ok (.getfield 12, 3) := by decide +kernel
theorem dX5_pass_16 : decode cX5_pass 16 = .ok (.iload_n 1, 1) := by decide +kernel
theorem dX5_pass_17 : decode cX5_pass 17 = .ok (.invokevirtual 159, 3) := by decide +kernel
theorem dX5_pass_20 : decode cX5_pass 20 = .ok (.ifCond .ne 6, 3) := by decide +kernel
theorem dX5_pass_23 : decode cX5_pass 23 = .ok (.bipush (-3), 2) := by decide +kernel
theorem dX5_pass_25 : decode cX5_pass 25 = .ok (.ireturn, 1) := by decide +kernel
theorem dX5_pass_26 : decode cX5_pass 26 = .ok (.iconst 0, 1) := by decide +kernel
theorem dX5_pass_27 : decode cX5_pass 27 = .ok (.istore_n 2, 1) := by decide +kernel
theorem dX5_pass_28 : decode cX5_pass 28 = .ok (.iload_n 2, 1) := by decide +kernel
theorem dX5_pass_29 : decode cX5_pass 29 = .ok (.iload_n 1, 1) := by decide +kernel
theorem dX5_pass_30 : decode cX5_pass 30 = .ok (.if_icmp .ge 19, 3) := by decide +kernel
theorem dX5_pass_33 : decode cX5_pass 33 = .ok (.aload_n 0, 1) := by decide +kernel
theorem dX5_pass_34 : decode cX5_pass 34 = .ok (.getfield 12, 3) := by decide +kernel
theorem dX5_pass_37 : decode cX5_pass 37 = .ok (.bipush 9, 2) := by decide +kernel
theorem dX5_pass_39 : decode cX5_pass 39 = .ok (.invokevirtual 162, 3) := by decide +kernel
theorem dX5_pass_42 : decode cX5_pass 42 = .ok (.pop, 1) := by decide +kernel
theorem dX5_pass_43 : decode cX5_pass 43 = .ok (.iinc 2 1, 3) := by decide +kernel
theorem dX5_pass_46 : decode cX5_pass 46 = .ok (.goto (-18), 3) := by decide +kernel
theorem dX5_pass_49 : decode cX5_pass 49 = .ok (.aload_n 0, 1) := by decide +kernel
theorem dX5_pass_50 : decode cX5_pass 50 = .ok (.getfield 12, 3) := by decide +kernel
theorem dX5_pass_53 : decode cX5_pass 53 = .ok (.getfield 116, 3) := by decide +kernel
theorem dX5_pass_56 : decode cX5_pass 56 = .ok (.ireturn, 1) := by decide +kernel
theorem dX5_run_0 : decode cX5_run 0 = .ok (.aload_n 0, 1) := by decide +kernel
theorem dX5_run_1 : decode cX5_run 1 = .ok (.getfield 12, 3) := by decide +kernel
theorem dX5_run_4 : decode cX5_run 4 = .ok (.aload_n 0, 1) := by decide +kernel
theorem dX5_run_5 : decode cX5_run 5 = .ok (.getfield 12, 3) := by decide +kernel
theorem dX5_run_8 : decode cX5_run 8 = .ok (.getfield 119, 3) := by decide +kernel
theorem dX5_run_11 : decode cX5_run 11 = .ok (.invokevirtual 159, 3) := by decide +kernel
theorem dX5_run_14 : decode cX5_run 14 = .ok (.ifCond .ne 6, 3) := by decide +kernel
theorem dX5_run_17 : decode cX5_run 17 = .ok (.bipush (-3), 2) := by decide +kernel
theorem dX5_run_19 : decode cX5_run 19 = .ok (.ireturn, 1) := by decide +kernel
theorem dX5_run_20 : decode cX5_run 20 = .ok (.aload_n 0, 1) := by decide +kernel
theorem dX5_run_21 : decode cX5_run 21 = .ok (.getfield 12, 3) := by decide +kernel
theorem dX5_run_24 : decode cX5_run 24 = .ok (.invokevirtual 166, 3) := by decide +kernel
theorem dX5_run_27 : decode cX5_run 27 = .ok (.ireturn, 1) := by decide +kernel
theorem dX5_most_0 : decode cX5_most 0 = .ok (.iload_n 1, 1) := by decide +kernel
theorem dX5_most_1 : decode cX5_most 1 = .ok (.iconst 1, 1) := by decide +kernel
theorem dX5_most_2 : decode cX5_most 2 = .ok (.iconst 5, 1) := by decide +kernel
theorem dX5_most_3 : decode cX5_most 3 = .ok (.invokestatic 55, 3) := by decide +kernel
theorem dX5_most_6 : decode cX5_most 6 = .ok (.ifCond .eq 18, 3) := by decide +kernel
theorem dX5_most_9 : decode cX5_most 9 = .ok (.aload_n 0, 1) := by decide +kernel
theorem dX5_most_10 : decode cX5_most 10 = .ok (.aload_n 0, 1) := by decide +kernel
theorem dX5_most_11 : decode cX5_most 11 = .ok (.getfield 12, 3) := by decide +kernel
theorem dX5_most_14 : decode cX5_most 14 = .ok (.getfield 101, 3) := by decide +kernel
theorem dX5_most_17 : decode cX5_most 17 = .ok (.iload_n 1, 1) := by decide +kernel
theorem dX5_most_18 : decode cX5_most 18 = .ok (.invokevirtual 170, 3) := by decide +kernel
theorem dX5_most_21 : decode cX5_most 21 = .ok (.goto 4, 3) := by decide +kernel
theorem dX5_most_24 : decode cX5_most 24 = .ok (.iconst (-1), 1) := by decide +kernel
theorem dX5_most_25 : decode cX5_most 25 = .ok (.ireturn, 1) := by decide +kernel
theorem dX5_row_0 : decode cX5_row 0 = .ok (.iload_n 1, 1) := by decide +kernel
theorem dX5_row_1 : decode cX5_row 1 = .ok (.iconst 1, 1) := by decide +kernel
theorem dX5_row_2 : decode cX5_row 2 = .ok (.iconst 5, 1) := by decide +kernel
theorem dX5_row_3 : decode cX5_row 3 = .ok (.invokestatic 55, 3) := by decide +kernel
theorem dX5_row_6 : decode cX5_row 6 = .ok (.ifCond .eq 14, 3) := by decide +kernel
theorem dX5_row_9 : decode cX5_row 9 = .ok (.iload_n 2, 1) := by decide +kernel
theorem dX5_row_10 : decode cX5_row 10 = .ok (.iconst 0, 1) := by decide +kernel
theorem dX5_row_11 : decode cX5_row 11 = .ok (.iload_n 1, 1) := by decide +kernel
theorem dX5_row_12 : decode cX5_row 12 = .ok (.iconst 1, 1) := by decide +kernel
theorem dX5_row_13 : decode cX5_row 13 = .ok (.isub, 1) := by decide +kernel
theorem dX5_row_14 : decode cX5_row 14 = .ok (.invokestatic 55, 3) := by decide +kernel
theorem dX5_row_17 : decode cX5_row 17 = .ok (.ifCond .ne 5, 3) := by decide +kernel
theorem dX5_row_20 : decode cX5_row 20 = .ok (.iconst (-1), 1) := by decide +kernel
theorem dX5_row_21 : decode cX5_row 21 = .ok (.ireturn, 1) := by decide +kernel
theorem dX5_row_22 : decode cX5_row 22 = .ok (.aload_n 0, 1) := by decide +kernel
theorem dX5_row_23 : decode cX5_row 23 = .ok (.aload_n 0, 1) := by decide +kernel
theorem dX5_row_24 : decode cX5_row 24 = .ok (.getfield 12, 3) := by decide +kernel
theorem dX5_row_27 : decode cX5_row 27 = .ok (.getfield 101, 3) := by decide +kernel
theorem dX5_row_30 : decode cX5_row 30 = .ok (.iload_n 1, 1) := by decide +kernel
theorem dX5_row_31 : decode cX5_row 31 = .ok (.invokevirtual 170, 3) := by decide +kernel
theorem dX5_row_34 : decode cX5_row 34 = .ok (.pop, 1) := by decide +kernel
theorem dX5_row_35 : decode cX5_row 35 = .ok (.aload_n 0, 1) := by decide +kernel
theorem dX5_row_36 : decode cX5_row 36 = .ok (.getfield 44, 3) := by decide +kernel
theorem dX5_row_39 : decode cX5_row 39 = .ok (.getfield 174, 3) := by decide +kernel
theorem dX5_row_42 : decode cX5_row 42 = .ok (.iload_n 2, 1) := by decide +kernel
theorem dX5_row_43 : decode cX5_row 43 = .ok (.iaload, 1) := by decide +kernel
theorem dX5_row_44 : decode cX5_row 44 = .ok (.ireturn, 1) := by decide +kernel
theorem dX5_fewest_0 : decode cX5_fewest 0 = .ok (.iload_n 1, 1) := by decide +kernel
theorem dX5_fewest_1 : decode cX5_fewest 1 = .ok (.iconst 0, 1) := by decide +kernel
theorem dX5_fewest_2 : decode cX5_fewest 2 = .ok (.bipush 99, 2) := by decide +kernel
theorem dX5_fewest_4 : decode cX5_fewest 4 = .ok (.invokestatic 55, 3) := by decide +kernel
theorem dX5_fewest_7 : decode cX5_fewest 7 = .ok (.ifCond .ne 5, 3) := by decide +kernel
theorem dX5_fewest_10 : decode cX5_fewest 10 = .ok (.iconst (-1), 1) := by decide +kernel
theorem dX5_fewest_11 : decode cX5_fewest 11 = .ok (.ireturn, 1) := by decide +kernel
theorem dX5_fewest_12 : decode cX5_fewest 12 = .ok (.aload_n 0, 1) := by decide +kernel
theorem dX5_fewest_13 : decode cX5_fewest 13 = .ok (.getfield 44, 3) := by decide +kernel
theorem dX5_fewest_16 : decode cX5_fewest 16 = .ok (.aload_n 0, 1) := by decide +kernel
theorem dX5_fewest_17 : decode cX5_fewest 17 = .ok (.getfield 12, 3) := by decide +kernel
theorem dX5_fewest_20 : decode cX5_fewest 20 = .ok (.invokevirtual 177, 3) := by decide +kernel
theorem dX5_fewest_23 : decode cX5_fewest 23 = .ok (.iconst 0, 1) := by decide +kernel
theorem dX5_fewest_24 : decode cX5_fewest 24 = .ok (.istore_n 2, 1) := by decide +kernel
theorem dX5_fewest_25 : decode cX5_fewest 25 = .ok (.iload_n 2, 1) := by decide +kernel
theorem dX5_fewest_26 : decode cX5_fewest 26 = .ok (.iconst 5, 1) := by decide +kernel
theorem dX5_fewest_27 : decode cX5_fewest 27 = .ok (.if_icmp .gt 30, 3) := by decide +kernel
theorem dX5_fewest_30 : decode cX5_fewest 30 = .ok (.aload_n 0, 1) := by decide +kernel
theorem dX5_fewest_31 : decode cX5_fewest 31 = .ok (.getfield 44, 3) := by decide +kernel
theorem dX5_fewest_34 : decode cX5_fewest 34 = .ok (.iload_n 2, 1) := by decide +kernel
theorem dX5_fewest_35 : decode cX5_fewest 35 = .ok (.aload_n 0, 1) := by decide +kernel
theorem dX5_fewest_36 : decode cX5_fewest 36 = .ok (.getfield 12, 3) := by decide +kernel
theorem dX5_fewest_39 : decode cX5_fewest 39 = .ok (.getfield 101, 3) := by decide +kernel
theorem dX5_fewest_42 : decode cX5_fewest 42 = .ok (.invokevirtual 181, 3) := by decide +kernel
theorem dX5_fewest_45 : decode cX5_fewest 45 = .ok (.iload_n 1, 1) := by decide +kernel
theorem dX5_fewest_46 : decode cX5_fewest 46 = .ok (.if_icmp .lt 5, 3) := by decide +kernel
theorem dX5_fewest_49 : decode cX5_fewest 49 = .ok (.iload_n 2, 1) := by decide +kernel
theorem dX5_fewest_50 : decode cX5_fewest 50 = .ok (.ireturn, 1) := by decide +kernel
theorem dX5_fewest_51 : decode cX5_fewest 51 = .ok (.iinc 2 1, 3) := by decide +kernel
theorem dX5_fewest_54 : decode cX5_fewest 54 = .ok (.goto (-29), 3) := by decide +kernel
theorem dX5_fewest_57 : decode cX5_fewest 57 = .ok (.bipush (-4), 2) := by decide +kernel
theorem dX5_fewest_59 : decode cX5_fewest 59 = .ok (.ireturn, 1) := by decide +kernel
theorem dX5_peace_0 : decode cX5_peace 0 = .ok (.aload_n 0, 1) := by decide +kernel
theorem dX5_peace_1 : decode cX5_peace 1 = .ok (.getfield 44, 3) := by decide +kernel
theorem dX5_peace_4 : decode cX5_peace 4 = .ok (.aload_n 0, 1) := by decide +kernel
theorem dX5_peace_5 : decode cX5_peace 5 = .ok (.getfield 12, 3) := by decide +kernel
theorem dX5_peace_8 : decode cX5_peace 8 = .ok (.invokevirtual 177, 3) := by decide +kernel
theorem dX5_peace_11 : decode cX5_peace 11 = .ok (.aload_n 0, 1) := by decide +kernel
theorem dX5_peace_12 : decode cX5_peace 12 = .ok (.getfield 44, 3) := by decide +kernel
theorem dX5_peace_15 : decode cX5_peace 15 = .ok (.iconst 4, 1) := by decide +kernel
theorem dX5_peace_16 : decode cX5_peace 16 = .ok (.aload_n 0, 1) := by decide +kernel
theorem dX5_peace_17 : decode cX5_peace 17 = .ok (.getfield 12, 3) := by decide +kernel
theorem dX5_peace_20 : decode cX5_peace 20 = .ok (.getfield 101, 3) := by decide +kernel
theorem dX5_peace_23 : decode cX5_peace 23 = .ok (.invokevirtual 181, 3) := by decide +kernel
theorem dX5_peace_26 : decode cX5_peace 26 = .ok (.istore_n 1, 1) := by decide +kernel
theorem dX5_peace_27 : decode cX5_peace 27 = .ok (.bipush (-4), 2) := by decide +kernel
theorem dX5_peace_29 : decode cX5_peace 29 = .ok (.istore_n 2, 1) := by decide +kernel
theorem dX5_peace_30 : decode cX5_peace 30 = .ok (.iconst 0, 1) := by decide +kernel
theorem dX5_peace_31 : decode cX5_peace 31 = .ok (.istore_n 3, 1) := by decide +kernel
theorem dX5_peace_32 : decode cX5_peace 32 = .ok (.iload_n 3, 1) := by decide +kernel
theorem dX5_peace_33 : decode cX5_peace 33 = .ok (.aload_n 0, 1) := by decide +kernel
theorem dX5_peace_34 : decode cX5_peace 34 = .ok (.getfield 12, 3) := by decide +kernel
theorem dX5_peace_37 : decode cX5_peace 37 = .ok (.getfield 59, 3) := by decide +kernel
theorem dX5_peace_40 : decode cX5_peace 40 = .ok (.getfield 62, 3) := by decide +kernel
theorem dX5_peace_43 : decode cX5_peace 43 = .ok (.if_icmp .ge 81, 3) := by decide +kernel
theorem dX5_peace_46 : decode cX5_peace 46 = .ok (.iload_n 3, 1) := by decide +kernel
theorem dX5_peace_47 : decode cX5_peace 47 = .ok (.iconst 1, 1) := by decide +kernel
theorem dX5_peace_48 : decode cX5_peace 48 = .ok (.iadd, 1) := by decide +kernel
theorem dX5_peace_49 : decode cX5_peace 49 = .ok (.istore 4, 2) := by decide +kernel
theorem dX5_peace_51 : decode cX5_peace 51 = .ok (.iload 4, 2) := by decide +kernel
theorem dX5_peace_53 : decode cX5_peace 53 = .ok (.aload_n 0, 1) := by decide +kernel
theorem dX5_peace_54 : decode cX5_peace 54 = .ok (.getfield 12, 3) := by decide +kernel
theorem dX5_peace_57 : decode cX5_peace 57 = .ok (.getfield 59, 3) := by decide +kernel
theorem dX5_peace_60 : decode cX5_peace 60 = .ok (.getfield 62, 3) := by decide +kernel
theorem dX5_peace_63 : decode cX5_peace 63 = .ok (.if_icmp .ge 55, 3) := by decide +kernel
theorem dX5_peace_66 : decode cX5_peace 66 = .ok (.aload_n 0, 1) := by decide +kernel
theorem dX5_peace_67 : decode cX5_peace 67 = .ok (.getfield 12, 3) := by decide +kernel
theorem dX5_peace_70 : decode cX5_peace 70 = .ok (.getfield 59, 3) := by decide +kernel
theorem dX5_peace_73 : decode cX5_peace 73 = .ok (.iload_n 3, 1) := by decide +kernel
theorem dX5_peace_74 : decode cX5_peace 74 = .ok (.iload 4, 2) := by decide +kernel
theorem dX5_peace_76 : decode cX5_peace 76 = .ok (.invokevirtual 90, 3) := by decide +kernel
theorem dX5_peace_79 : decode cX5_peace 79 = .ok (.ifCond .eq 13, 3) := by decide +kernel
theorem dX5_peace_82 : decode cX5_peace 82 = .ok (.aload_n 0, 1) := by decide +kernel
theorem dX5_peace_83 : decode cX5_peace 83 = .ok (.iload_n 3, 1) := by decide +kernel
theorem dX5_peace_84 : decode cX5_peace 84 = .ok (.iload 4, 2) := by decide +kernel
theorem dX5_peace_86 : decode cX5_peace 86 = .ok (.invokevirtual 184, 3) := by decide +kernel
theorem dX5_peace_89 : decode cX5_peace 89 = .ok (.goto 4, 3) := by decide +kernel
theorem dX5_peace_92 : decode cX5_peace 92 = .ok (.iconst 0, 1) := by decide +kernel
theorem dX5_peace_93 : decode cX5_peace 93 = .ok (.istore 5, 2) := by decide +kernel
theorem dX5_peace_95 : decode cX5_peace 95 = .ok (.iload 5, 2) := by decide +kernel
theorem dX5_peace_97 : decode cX5_peace 97 = .ok (.iload_n 1, 1) := by decide +kernel
theorem dX5_peace_98 : decode cX5_peace 98 = .ok (.if_icmp .le 14, 3) := by decide +kernel
theorem dX5_peace_101 : decode cX5_peace 101 = .ok (.iload 5, 2) := by decide +kernel
theorem dX5_peace_103 : decode cX5_peace 103 = .ok (.istore_n 1, 1) := by decide +kernel
theorem dX5_peace_104 : decode cX5_peace 104 = .ok (.bipush 10, 2) := by decide +kernel
theorem dX5_peace_106 : decode cX5_peace 106 = .ok (.iload_n 3, 1) := by decide +kernel
theorem dX5_peace_107 : decode cX5_peace 107 = .ok (.imul, 1) := by decide +kernel
theorem dX5_peace_108 : decode cX5_peace 108 = .ok (.iload 4, 2) := by decide +kernel
theorem dX5_peace_110 : decode cX5_peace 110 = .ok (.iadd, 1) := by decide +kernel
theorem dX5_peace_111 : decode cX5_peace 111 = .ok (.istore_n 2, 1) := by decide +kernel
theorem dX5_peace_112 : decode cX5_peace 112 = .ok (.iinc 4 1, 3) := by decide +kernel
theorem dX5_peace_115 : decode cX5_peace 115 = .ok (.goto (-64), 3) := by decide +kernel
theorem dX5_peace_118 : decode cX5_peace 118 = .ok (.iinc 3 1, 3) := by decide +kernel
theorem dX5_peace_121 : decode cX5_peace 121 = .ok (.goto (-89), 3) := by decide +kernel
theorem dX5_peace_124 : decode cX5_peace 124 = .ok (.iload_n 2, 1) := by decide +kernel
theorem dX5_peace_125 : decode cX5_peace 125 = .ok (.ireturn, 1) := by decide +kernel
theorem dX5_gives_0 : decode cX5_gives 0 = .ok (.aload_n 0, 1) := by decide +kernel
theorem dX5_gives_1 : decode cX5_gives 1 = .ok (.getfield 12, 3) := by decide +kernel
theorem dX5_gives_4 : decode cX5_gives 4 = .ok (.getfield 59, 3) := by decide +kernel
theorem dX5_gives_7 : decode cX5_gives 7 = .ok (.iload_n 1, 1) := by decide +kernel
theorem dX5_gives_8 : decode cX5_gives 8 = .ok (.invokevirtual 70, 3) := by decide +kernel
theorem dX5_gives_11 : decode cX5_gives 11 = .ok (.ifCond .eq 10, 3) := by decide +kernel
theorem dX5_gives_14 : decode cX5_gives 14 = .ok (.iload_n 2, 1) := by decide +kernel
theorem dX5_gives_15 : decode cX5_gives 15 = .ok (.invokestatic 98, 3) := by decide +kernel
theorem dX5_gives_18 : decode cX5_gives 18 = .ok (.ifCond .ne 5, 3) := by decide +kernel
theorem dX5_gives_21 : decode cX5_gives 21 = .ok (.iconst (-1), 1) := by decide +kernel
theorem dX5_gives_22 : decode cX5_gives 22 = .ok (.ireturn, 1) := by decide +kernel
theorem dX5_gives_23 : decode cX5_gives 23 = .ok (.aload_n 0, 1) := by decide +kernel
theorem dX5_gives_24 : decode cX5_gives 24 = .ok (.getfield 12, 3) := by decide +kernel
theorem dX5_gives_27 : decode cX5_gives 27 = .ok (.iload_n 1, 1) := by decide +kernel
theorem dX5_gives_28 : decode cX5_gives 28 = .ok (.iload_n 2, 1) := by decide +kernel
theorem dX5_gives_29 : decode cX5_gives 29 = .ok (.invokevirtual 187, 3) := by decide +kernel
theorem dX5_gives_32 : decode cX5_gives 32 = .ok (.ireturn, 1) := by decide +kernel
theorem dX5_stranger_0 : decode cX5_stranger 0 = .ok (.iload_n 1, 1) := by decide +kernel
theorem dX5_stranger_1 : decode cX5_stranger 1 = .ok (.invokestatic 98, 3) := by decide +kernel
theorem dX5_stranger_4 : decode cX5_stranger 4 = .ok (.ifCond .eq 25, 3) := by decide +kernel
theorem dX5_stranger_7 : decode cX5_stranger 7 = .ok (.aload_n 0, 1) := by decide +kernel
theorem dX5_stranger_8 : decode cX5_stranger 8 = .ok (.getfield 12, 3) := by decide +kernel
theorem dX5_stranger_11 : decode cX5_stranger 11 = .ok (.getfield 59, 3) := by decide +kernel
theorem dX5_stranger_14 : decode cX5_stranger 14 = .ok (.iload_n 2, 1) := by decide +kernel
theorem dX5_stranger_15 : decode cX5_stranger 15 = .ok (.invokevirtual 70, 3) := by decide +kernel
theorem dX5_stranger_18 : decode cX5_stranger 18 = .ok (.ifCond .eq 11, 3) := by decide +kernel
theorem dX5_stranger_21 : decode cX5_stranger 21 = .ok (.iload_n 3, 1) := by decide +kernel
theorem dX5_stranger_22 : decode cX5_stranger 22 = .ok (.i2l, 1) := by decide +kernel
theorem dX5_stranger_23 : decode cX5_stranger 23 = .ok (.invokestatic 190, 3) := by decide +kernel
theorem dX5_stranger_26 : decode cX5_stranger 26 = .ok (.ifCond .ne 5, 3) := by decide +kernel
theorem dX5_stranger_29 : decode cX5_stranger 29 = .ok (.iconst (-1), 1) := by decide +kernel
theorem dX5_stranger_30 : decode cX5_stranger 30 = .ok (.ireturn, 1) := by decide +kernel
theorem dX5_stranger_31 : decode cX5_stranger 31 = .ok (.iconst 0, 1) := by decide +kernel
theorem dX5_stranger_32 : decode cX5_stranger 32 = .ok (.istore 4, 2) := by decide +kernel
theorem dX5_stranger_34 : decode cX5_stranger 34 = .ok (.bipush (-3), 2) := by decide +kernel
theorem dX5_stranger_36 : decode cX5_stranger 36 = .ok (.istore 5, 2) := by decide +kernel
theorem dX5_stranger_38 : decode cX5_stranger 38 = .ok (.iload 5, 2) := by decide +kernel
theorem dX5_stranger_40 : decode cX5_stranger 40 = .ok (.iconst 3, 1) := by decide +kernel
theorem dX5_stranger_41 : decode cX5_stranger 41 = .ok (.if_icmp .gt 49, 3) := by decide +kernel
theorem dX5_stranger_44 : decode cX5_stranger 44 = .ok (.iload_n 1, 1) := by decide +kernel
theorem dX5_stranger_45 : decode cX5_stranger 45 = .ok (.iload 5, 2) := by decide +kernel
theorem dX5_stranger_47 : decode cX5_stranger 47 = .ok (.iadd, 1) := by decide +kernel
theorem dX5_stranger_48 : decode cX5_stranger 48 = .ok (.invokestatic 194, 3) := by decide +kernel
theorem dX5_stranger_51 : decode cX5_stranger 51 = .ok (.invokestatic 197, 3) := by decide +kernel
theorem dX5_stranger_54 : decode cX5_stranger 54 = .ok (.istore 6, 2) := by decide +kernel
theorem dX5_stranger_56 : decode cX5_stranger 56 = .ok (.aload_n 0, 1) := by decide +kernel
theorem dX5_stranger_57 : decode cX5_stranger 57 = .ok (.getfield 12, 3) := by decide +kernel
theorem dX5_stranger_60 : decode cX5_stranger 60 = .ok (.getfield 59, 3) := by decide +kernel
theorem dX5_stranger_63 : decode cX5_stranger 63 = .ok (.iload_n 2, 1) := by decide +kernel
theorem dX5_stranger_64 : decode cX5_stranger 64 = .ok (.iload 6, 2) := by decide +kernel
theorem dX5_stranger_66 : decode cX5_stranger 66 = .ok (.invokevirtual 200, 3) := by decide +kernel
theorem dX5_stranger_69 : decode cX5_stranger 69 = .ok (.iload_n 3, 1) := by decide +kernel
theorem dX5_stranger_70 : decode cX5_stranger 70 = .ok (.if_icmp .ne 14, 3) := by decide +kernel
theorem dX5_stranger_73 : decode cX5_stranger 73 = .ok (.iload 4, 2) := by decide +kernel
theorem dX5_stranger_75 : decode cX5_stranger 75 = .ok (.iconst 1, 1) := by decide +kernel
theorem dX5_stranger_76 : decode cX5_stranger 76 = .ok (.iload 5, 2) := by decide +kernel
theorem dX5_stranger_78 : decode cX5_stranger 78 = .ok (.iconst 3, 1) := by decide +kernel
theorem dX5_stranger_79 : decode cX5_stranger 79 = .ok (.iadd, 1) := by decide +kernel
theorem dX5_stranger_80 : decode cX5_stranger 80 = .ok (.ishl, 1) := by decide +kernel
theorem dX5_stranger_81 : decode cX5_stranger 81 = .ok (.ior, 1) := by decide +kernel
theorem dX5_stranger_82 : decode cX5_stranger 82 = .ok (.istore 4, 2) := by decide +kernel
theorem dX5_stranger_84 : decode cX5_stranger 84 = .ok (.iinc 5 1, 3) := by decide +kernel
theorem dX5_stranger_87 : decode cX5_stranger 87 = .ok (.goto (-49), 3) := by decide +kernel
theorem dX5_stranger_90 : decode cX5_stranger 90 = .ok (.iload 4, 2) := by decide +kernel
theorem dX5_stranger_92 : decode cX5_stranger 92 = .ok (.ireturn, 1) := by decide +kernel
theorem dX5_liar_0 : decode cX5_liar 0 = .ok (.aload_n 0, 1) := by decide +kernel
theorem dX5_liar_1 : decode cX5_liar 1 = .ok (.iload_n 1, 1) := by decide +kernel
theorem dX5_liar_2 : decode cX5_liar 2 = .ok (.iload_n 2, 1) := by decide +kernel
theorem dX5_liar_3 : decode cX5_liar 3 = .ok (.iload_n 3, 1) := by decide +kernel
theorem dX5_liar_4 : decode cX5_liar 4 = .ok (.invokevirtual 203, 3) := by decide +kernel
theorem dX5_liar_7 : decode cX5_liar 7 = .ok (.ifCond .eq 22, 3) := by decide +kernel
theorem dX5_liar_10 : decode cX5_liar 10 = .ok (.aload_n 0, 1) := by decide +kernel
theorem dX5_liar_11 : decode cX5_liar 11 = .ok (.iload 4, 2) := by decide +kernel
theorem dX5_liar_13 : decode cX5_liar 13 = .ok (.iload 5, 2) := by decide +kernel
theorem dX5_liar_15 : decode cX5_liar 15 = .ok (.iload 6, 2) := by decide +kernel
theorem dX5_liar_17 : decode cX5_liar 17 = .ok (.invokevirtual 203, 3) := by decide +kernel
theorem dX5_liar_20 : decode cX5_liar 20 = .ok (.ifCond .eq 9, 3) := by decide +kernel
theorem dX5_liar_23 : decode cX5_liar 23 = .ok (.iload_n 1, 1) := by decide +kernel
theorem dX5_liar_24 : decode cX5_liar 24 = .ok (.iload 4, 2) := by decide +kernel
theorem dX5_liar_26 : decode cX5_liar 26 = .ok (.if_icmp .ne 5, 3) := by decide +kernel
theorem dX5_liar_29 : decode cX5_liar 29 = .ok (.iconst (-1), 1) := by decide +kernel
theorem dX5_liar_30 : decode cX5_liar 30 = .ok (.ireturn, 1) := by decide +kernel
theorem dX5_liar_31 : decode cX5_liar 31 = .ok (.aload_n 0, 1) := by decide +kernel
theorem dX5_liar_32 : decode cX5_liar 32 = .ok (.getfield 12, 3) := by decide +kernel
theorem dX5_liar_35 : decode cX5_liar 35 = .ok (.getfield 59, 3) := by decide +kernel
theorem dX5_liar_38 : decode cX5_liar 38 = .ok (.iload_n 1, 1) := by decide +kernel
theorem dX5_liar_39 : decode cX5_liar 39 = .ok (.iload_n 2, 1) := by decide +kernel
theorem dX5_liar_40 : decode cX5_liar 40 = .ok (.invokevirtual 200, 3) := by decide +kernel
theorem dX5_liar_43 : decode cX5_liar 43 = .ok (.iload_n 3, 1) := by decide +kernel
theorem dX5_liar_44 : decode cX5_liar 44 = .ok (.if_icmp .ne 7, 3) := by decide +kernel
theorem dX5_liar_47 : decode cX5_liar 47 = .ok (.iconst 0, 1) := by decide +kernel
theorem dX5_liar_48 : decode cX5_liar 48 = .ok (.goto 4, 3) := by decide +kernel
theorem dX5_liar_51 : decode cX5_liar 51 = .ok (.iconst 1, 1) := by decide +kernel
theorem dX5_liar_52 : decode cX5_liar 52 = .ok (.istore 7, 2) := by decide +kernel
theorem dX5_liar_54 : decode cX5_liar 54 = .ok (.aload_n 0, 1) := by decide +kernel
theorem dX5_liar_55 : decode cX5_liar 55 = .ok (.getfield 12, 3) := by decide +kernel
theorem dX5_liar_58 : decode cX5_liar 58 = .ok (.getfield 59, 3) := by decide +kernel
theorem dX5_liar_61 : decode cX5_liar 61 = .ok (.iload 4, 2) := by decide +kernel
theorem dX5_liar_63 : decode cX5_liar 63 = .ok (.iload 5, 2) := by decide +kernel
theorem dX5_liar_65 : decode cX5_liar 65 = .ok (.invokevirtual 200, 3) := by decide +kernel
theorem dX5_liar_68 : decode cX5_liar 68 = .ok (.iload 6, 2) := by decide +kernel
theorem dX5_liar_70 : decode cX5_liar 70 = .ok (.if_icmp .ne 7, 3) := by decide +kernel
theorem dX5_liar_73 : decode cX5_liar 73 = .ok (.iconst 0, 1) := by decide +kernel
theorem dX5_liar_74 : decode cX5_liar 74 = .ok (.goto 4, 3) := by decide +kernel
theorem dX5_liar_77 : decode cX5_liar 77 = .ok (.iconst 2, 1) := by decide +kernel
theorem dX5_liar_78 : decode cX5_liar 78 = .ok (.istore 8, 2) := by decide +kernel
theorem dX5_liar_80 : decode cX5_liar 80 = .ok (.iload 7, 2) := by decide +kernel
theorem dX5_liar_82 : decode cX5_liar 82 = .ok (.iload 8, 2) := by decide +kernel
theorem dX5_liar_84 : decode cX5_liar 84 = .ok (.ior, 1) := by decide +kernel
theorem dX5_liar_85 : decode cX5_liar 85 = .ok (.ireturn, 1) := by decide +kernel
theorem dX5_other_0 : decode cX5_other 0 = .ok (.iload_n 1, 1) := by decide +kernel
theorem dX5_other_1 : decode cX5_other 1 = .ok (.iconst 1, 1) := by decide +kernel
theorem dX5_other_2 : decode cX5_other 2 = .ok (.iconst 5, 1) := by decide +kernel
theorem dX5_other_3 : decode cX5_other 3 = .ok (.invokestatic 55, 3) := by decide +kernel
theorem dX5_other_6 : decode cX5_other 6 = .ok (.ifCond .eq 19, 3) := by decide +kernel
theorem dX5_other_9 : decode cX5_other 9 = .ok (.aload_n 0, 1) := by decide +kernel
theorem dX5_other_10 : decode cX5_other 10 = .ok (.aload_n 0, 1) := by decide +kernel
theorem dX5_other_11 : decode cX5_other 11 = .ok (.getfield 12, 3) := by decide +kernel
theorem dX5_other_14 : decode cX5_other 14 = .ok (.getfield 101, 3) := by decide +kernel
theorem dX5_other_17 : decode cX5_other 17 = .ok (.ineg, 1) := by decide +kernel
theorem dX5_other_18 : decode cX5_other 18 = .ok (.iload_n 1, 1) := by decide +kernel
theorem dX5_other_19 : decode cX5_other 19 = .ok (.invokevirtual 170, 3) := by decide +kernel
theorem dX5_other_22 : decode cX5_other 22 = .ok (.goto 4, 3) := by decide +kernel
theorem dX5_other_25 : decode cX5_other 25 = .ok (.iconst (-1), 1) := by decide +kernel
theorem dX5_other_26 : decode cX5_other 26 = .ok (.ireturn, 1) := by decide +kernel
theorem dX5_drawn_0 : decode cX5_drawn 0 = .ok (.iload_n 1, 1) := by decide +kernel
theorem dX5_drawn_1 : decode cX5_drawn 1 = .ok (.iconst 1, 1) := by decide +kernel
theorem dX5_drawn_2 : decode cX5_drawn 2 = .ok (.bipush 60, 2) := by decide +kernel
theorem dX5_drawn_4 : decode cX5_drawn 4 = .ok (.invokestatic 55, 3) := by decide +kernel
theorem dX5_drawn_7 : decode cX5_drawn 7 = .ok (.ifCond .ne 5, 3) := by decide +kernel
theorem dX5_drawn_10 : decode cX5_drawn 10 = .ok (.iconst (-1), 1) := by decide +kernel
theorem dX5_drawn_11 : decode cX5_drawn 11 = .ok (.ireturn, 1) := by decide +kernel
theorem dX5_drawn_12 : decode cX5_drawn 12 = .ok (.aload_n 0, 1) := by decide +kernel
theorem dX5_drawn_13 : decode cX5_drawn 13 = .ok (.getfield 12, 3) := by decide +kernel
theorem dX5_drawn_16 : decode cX5_drawn 16 = .ok (.iload_n 1, 1) := by decide +kernel
theorem dX5_drawn_17 : decode cX5_drawn 17 = .ok (.invokevirtual 159, 3) := by decide +kernel
theorem dX5_drawn_20 : decode cX5_drawn 20 = .ok (.ifCond .ne 6, 3) := by decide +kernel
theorem dX5_drawn_23 : decode cX5_drawn 23 = .ok (.bipush (-3), 2) := by decide +kernel
theorem dX5_drawn_25 : decode cX5_drawn 25 = .ok (.ireturn, 1) := by decide +kernel
theorem dX5_drawn_26 : decode cX5_drawn 26 = .ok (.iconst 0, 1) := by decide +kernel
theorem dX5_drawn_27 : decode cX5_drawn 27 = .ok (.istore_n 2, 1) := by decide +kernel
theorem dX5_drawn_28 : decode cX5_drawn 28 = .ok (.iconst 0, 1) := by decide +kernel
theorem dX5_drawn_29 : decode cX5_drawn 29 = .ok (.istore_n 3, 1) := by decide +kernel
theorem dX5_drawn_30 : decode cX5_drawn 30 = .ok (.iload_n 3, 1) := by decide +kernel
theorem dX5_drawn_31 : decode cX5_drawn 31 = .ok (.iload_n 1, 1) := by decide +kernel
theorem dX5_drawn_32 : decode cX5_drawn 32 = .ok (.if_icmp .ge 26, 3) := by decide +kernel
theorem dX5_drawn_35 : decode cX5_drawn 35 = .ok (.iload_n 2, 1) := by decide +kernel
theorem dX5_drawn_36 : decode cX5_drawn 36 = .ok (.aload_n 0, 1) := by decide +kernel
theorem dX5_drawn_37 : decode cX5_drawn 37 = .ok (.getfield 12, 3) := by decide +kernel
theorem dX5_drawn_40 : decode cX5_drawn 40 = .ok (.aload_n 0, 1) := by decide +kernel
theorem dX5_drawn_41 : decode cX5_drawn 41 = .ok (.getfield 12, 3) := by decide +kernel
theorem dX5_drawn_44 : decode cX5_drawn 44 = .ok (.invokevirtual 206, 3) := by decide +kernel
theorem dX5_drawn_47 : decode cX5_drawn 47 = .ok (.invokevirtual 162, 3) := by decide +kernel
theorem dX5_drawn_50 : decode cX5_drawn 50 = .ok (.iadd, 1) := by decide +kernel
theorem dX5_drawn_51 : decode cX5_drawn 51 = .ok (.istore_n 2, 1) := by decide +kernel
theorem dX5_drawn_52 : decode cX5_drawn 52 = .ok (.iinc 3 1, 3) := by decide +kernel
theorem dX5_drawn_55 : decode cX5_drawn 55 = .ok (.goto (-25), 3) := by decide +kernel
theorem dX5_drawn_58 : decode cX5_drawn 58 = .ok (.iload_n 2, 1) := by decide +kernel
theorem dX5_drawn_59 : decode cX5_drawn 59 = .ok (.ireturn, 1) := by decide +kernel
theorem dX5_seed_0 : decode cX5_seed 0 = .ok (.iload_n 1, 1) := by decide +kernel
theorem dX5_seed_1 : decode cX5_seed 1 = .ok (.ifCond .ge 5, 3) := by decide +kernel
theorem dX5_seed_4 : decode cX5_seed 4 = .ok (.iconst (-1), 1) := by decide +kernel
theorem dX5_seed_5 : decode cX5_seed 5 = .ok (.ireturn, 1) := by decide +kernel
theorem dX5_seed_6 : decode cX5_seed 6 = .ok (.aload_n 0, 1) := by decide +kernel
theorem dX5_seed_7 : decode cX5_seed 7 = .ok (.getfield 12, 3) := by decide +kernel
theorem dX5_seed_10 : decode cX5_seed 10 = .ok (.getfield 209, 3) := by decide +kernel
theorem dX5_seed_13 : decode cX5_seed 13 = .ok (.istore_n 2, 1) := by decide +kernel
theorem dX5_seed_14 : decode cX5_seed 14 = .ok (.aload_n 0, 1) := by decide +kernel
theorem dX5_seed_15 : decode cX5_seed 15 = .ok (.getfield 12, 3) := by decide +kernel
theorem dX5_seed_18 : decode cX5_seed 18 = .ok (.iload_n 1, 1) := by decide +kernel
theorem dX5_seed_19 : decode cX5_seed 19 = .ok (.putfield 209, 3) := by decide +kernel
theorem dX5_seed_22 : decode cX5_seed 22 = .ok (.iload_n 2, 1) := by decide +kernel
theorem dX5_seed_23 : decode cX5_seed 23 = .ok (.ireturn, 1) := by decide +kernel
theorem dX5_image_0 : decode cX5_image 0 = .ok (.aload_n 0, 1) := by decide +kernel
theorem dX5_image_1 : decode cX5_image 1 = .ok (.getfield 16, 3) := by decide +kernel
theorem dX5_image_4 : decode cX5_image 4 = .ok (.aload_n 0, 1) := by decide +kernel
theorem dX5_image_5 : decode cX5_image 5 = .ok (.getfield 12, 3) := by decide +kernel
theorem dX5_image_8 : decode cX5_image 8 = .ok (.invokevirtual 212, 3) := by decide +kernel
theorem dX5_image_11 : decode cX5_image 11 = .ok (.aload_n 0, 1) := by decide +kernel
theorem dX5_image_12 : decode cX5_image 12 = .ok (.iconst 1, 1) := by decide +kernel
theorem dX5_image_13 : decode cX5_image 13 = .ok (.putfield 19, 3) := by decide +kernel
theorem dX5_image_16 : decode cX5_image 16 = .ok (.iconst 1, 1) := by decide +kernel
theorem dX5_image_17 : decode cX5_image 17 = .ok (.ireturn, 1) := by decide +kernel
theorem dX5_restore_0 : decode cX5_restore 0 = .ok (.aload_n 0, 1) := by decide +kernel
theorem dX5_restore_1 : decode cX5_restore 1 = .ok (.getfield 19, 3) := by decide +kernel
theorem dX5_restore_4 : decode cX5_restore 4 = .ok (.ifCond .ne 6, 3) := by decide +kernel
theorem dX5_restore_7 : decode cX5_restore 7 = .ok (.bipush (-4), 2) := by decide +kernel
theorem dX5_restore_9 : decode cX5_restore 9 = .ok (.ireturn, 1) := by decide +kernel
theorem dX5_restore_10 : decode cX5_restore 10 = .ok (.aload_n 0, 1) := by decide +kernel
theorem dX5_restore_11 : decode cX5_restore 11 = .ok (.getfield 12, 3) := by decide +kernel
theorem dX5_restore_14 : decode cX5_restore 14 = .ok (.aload_n 0, 1) := by decide +kernel
theorem dX5_restore_15 : decode cX5_restore 15 = .ok (.getfield 16, 3) := by decide +kernel
theorem dX5_restore_18 : decode cX5_restore 18 = .ok (.invokevirtual 212, 3) := by decide +kernel
theorem dX5_restore_21 : decode cX5_restore 21 = .ok (.iconst 1, 1) := by decide +kernel
theorem dX5_restore_22 : decode cX5_restore 22 = .ok (.ireturn, 1) := by decide +kernel
theorem dX5_fit_0 : decode cX5_fit 0 = .ok (.iload 4, 2) := by decide +kernel
theorem dX5_fit_2 : decode cX5_fit 2 = .ok (.iconst 1, 1) := by decide +kernel
theorem dX5_fit_3 : decode cX5_fit 3 = .ok (.bipush 8, 2) := by decide +kernel
theorem dX5_fit_5 : decode cX5_fit 5 = .ok (.invokestatic 55, 3) := by decide +kernel
theorem dX5_fit_8 : decode cX5_fit 8 = .ok (.ifCond .ne 5, 3) := by decide +kernel
theorem dX5_fit_11 : decode cX5_fit 11 = .ok (.iconst (-1), 1) := by decide +kernel
theorem dX5_fit_12 : decode cX5_fit 12 = .ok (.ireturn, 1) := by decide +kernel
theorem dX5_fit_13 : decode cX5_fit 13 = .ok (.aload_n 0, 1) := by decide +kernel
theorem dX5_fit_14 : decode cX5_fit 14 = .ok (.iload_n 1, 1) := by decide +kernel
theorem dX5_fit_15 : decode cX5_fit 15 = .ok (.iload_n 2, 1) := by decide +kernel
theorem dX5_fit_16 : decode cX5_fit 16 = .ok (.iload_n 3, 1) := by decide +kernel
theorem dX5_fit_17 : decode cX5_fit 17 = .ok (.iconst 2, 1) := by decide +kernel
theorem dX5_fit_18 : decode cX5_fit 18 = .ok (.iload 4, 2) := by decide +kernel
theorem dX5_fit_20 : decode cX5_fit 20 = .ok (.imul, 1) := by decide +kernel
theorem dX5_fit_21 : decode cX5_fit 21 = .ok (.invokevirtual 215, 3) := by decide +kernel
theorem dX5_fit_24 : decode cX5_fit 24 = .ok (.istore 5, 2) := by decide +kernel
theorem dX5_fit_26 : decode cX5_fit 26 = .ok (.iload 5, 2) := by decide +kernel
theorem dX5_fit_28 : decode cX5_fit 28 = .ok (.ifCond .eq 6, 3) := by decide +kernel
theorem dX5_fit_31 : decode cX5_fit 31 = .ok (.iload 5, 2) := by decide +kernel
theorem dX5_fit_33 : decode cX5_fit 33 = .ok (.ireturn, 1) := by decide +kernel
theorem dX5_fit_34 : decode cX5_fit 34 = .ok (.aload_n 0, 1) := by decide +kernel
theorem dX5_fit_35 : decode cX5_fit 35 = .ok (.aload_n 0, 1) := by decide +kernel
theorem dX5_fit_36 : decode cX5_fit 36 = .ok (.getfield 50, 3) := by decide +kernel
theorem dX5_fit_39 : decode cX5_fit 39 = .ok (.iload_n 1, 1) := by decide +kernel
theorem dX5_fit_40 : decode cX5_fit 40 = .ok (.aaload, 1) := by decide +kernel
theorem dX5_fit_41 : decode cX5_fit 41 = .ok (.iload_n 3, 1) := by decide +kernel
theorem dX5_fit_42 : decode cX5_fit 42 = .ok (.iload 4, 2) := by decide +kernel
theorem dX5_fit_44 : decode cX5_fit 44 = .ok (.invokevirtual 219, 3) := by decide +kernel
theorem dX5_fit_47 : decode cX5_fit 47 = .ok (.ifCond .ne 6, 3) := by decide +kernel
theorem dX5_fit_50 : decode cX5_fit 50 = .ok (.bipush (-2), 2) := by decide +kernel
theorem dX5_fit_52 : decode cX5_fit 52 = .ok (.ireturn, 1) := by decide +kernel
theorem dX5_fit_53 : decode cX5_fit 53 = .ok (.iconst 0, 1) := by decide +kernel
theorem dX5_fit_54 : decode cX5_fit 54 = .ok (.istore 6, 2) := by decide +kernel
theorem dX5_fit_56 : decode cX5_fit 56 = .ok (.bipush (-9), 2) := by decide +kernel
theorem dX5_fit_58 : decode cX5_fit 58 = .ok (.istore 7, 2) := by decide +kernel
theorem dX5_fit_60 : decode cX5_fit 60 = .ok (.iload 7, 2) := by decide +kernel
theorem dX5_fit_62 : decode cX5_fit 62 = .ok (.bipush 9, 2) := by decide +kernel
theorem dX5_fit_64 : decode cX5_fit 64 = .ok (.if_icmp .gt 39, 3) := by decide +kernel
theorem dX5_fit_67 : decode cX5_fit 67 = .ok (.aload_n 0, 1) := by decide +kernel
theorem dX5_fit_68 : decode cX5_fit 68 = .ok (.iload 7, 2) := by decide +kernel
theorem dX5_fit_70 : decode cX5_fit 70 = .ok (.aload_n 0, 1) := by decide +kernel
theorem dX5_fit_71 : decode cX5_fit 71 = .ok (.getfield 50, 3) := by decide +kernel
theorem dX5_fit_74 : decode cX5_fit 74 = .ok (.iload_n 1, 1) := by decide +kernel
theorem dX5_fit_75 : decode cX5_fit 75 = .ok (.aaload, 1) := by decide +kernel
theorem dX5_fit_76 : decode cX5_fit 76 = .ok (.iload_n 3, 1) := by decide +kernel
theorem dX5_fit_77 : decode cX5_fit 77 = .ok (.iload 4, 2) := by decide +kernel
theorem dX5_fit_79 : decode cX5_fit 79 = .ok (.invokevirtual 223, 3) := by decide +kernel
theorem dX5_fit_82 : decode cX5_fit 82 = .ok (.ifCond .eq 15, 3) := by decide +kernel
theorem dX5_fit_85 : decode cX5_fit 85 = .ok (.iload 6, 2) := by decide +kernel
theorem dX5_fit_87 : decode cX5_fit 87 = .ok (.iconst 1, 1) := by decide +kernel
theorem dX5_fit_88 : decode cX5_fit 88 = .ok (.iload 7, 2) := by decide +kernel
theorem dX5_fit_90 : decode cX5_fit 90 = .ok (.bipush 9, 2) := by decide +kernel
theorem dX5_fit_92 : decode cX5_fit 92 = .ok (.iadd, 1) := by decide +kernel
theorem dX5_fit_93 : decode cX5_fit 93 = .ok (.ishl, 1) := by decide +kernel
theorem dX5_fit_94 : decode cX5_fit 94 = .ok (.ior, 1) := by decide +kernel
theorem dX5_fit_95 : decode cX5_fit 95 = .ok (.istore 6, 2) := by decide +kernel
theorem dX5_fit_97 : decode cX5_fit 97 = .ok (.iinc 7 1, 3) := by decide +kernel
theorem dX5_fit_100 : decode cX5_fit 100 = .ok (.goto (-40), 3) := by decide +kernel
theorem dX5_fit_103 : decode cX5_fit 103 = .ok (.iload 6, 2) := by decide +kernel
theorem dX5_fit_105 : decode cX5_fit 105 = .ok (.ireturn, 1) := by decide +kernel
theorem dX5_film_0 : decode cX5_film 0 = .ok (.aload_n 0, 1) := by decide +kernel
theorem dX5_film_1 : decode cX5_film 1 = .ok (.getfield 12, 3) := by decide +kernel
theorem dX5_film_4 : decode cX5_film 4 = .ok (.getfield 59, 3) := by decide +kernel
theorem dX5_film_7 : decode cX5_film 7 = .ok (.iload_n 1, 1) := by decide +kernel
theorem dX5_film_8 : decode cX5_film 8 = .ok (.invokevirtual 70, 3) := by decide +kernel
theorem dX5_film_11 : decode cX5_film 11 = .ok (.ifCond .ne 5, 3) := by decide +kernel
theorem dX5_film_14 : decode cX5_film 14 = .ok (.iconst (-1), 1) := by decide +kernel
theorem dX5_film_15 : decode cX5_film 15 = .ok (.ireturn, 1) := by decide +kernel
theorem dX5_film_16 : decode cX5_film 16 = .ok (.aload_n 0, 1) := by decide +kernel
theorem dX5_film_17 : decode cX5_film 17 = .ok (.iload_n 2, 1) := by decide +kernel
theorem dX5_film_18 : decode cX5_film 18 = .ok (.iload_n 3, 1) := by decide +kernel
theorem dX5_film_19 : decode cX5_film 19 = .ok (.iload 4, 2) := by decide +kernel
theorem dX5_film_21 : decode cX5_film 21 = .ok (.bipush 19, 2) := by decide +kernel
theorem dX5_film_23 : decode cX5_film 23 = .ok (.invokevirtual 215, 3) := by decide +kernel
theorem dX5_film_26 : decode cX5_film 26 = .ok (.istore 5, 2) := by decide +kernel
theorem dX5_film_28 : decode cX5_film 28 = .ok (.iload 5, 2) := by decide +kernel
theorem dX5_film_30 : decode cX5_film 30 = .ok (.ifCond .eq 6, 3) := by decide +kernel
theorem dX5_film_33 : decode cX5_film 33 = .ok (.iload 5, 2) := by decide +kernel
theorem dX5_film_35 : decode cX5_film 35 = .ok (.ireturn, 1) := by decide +kernel
theorem dX5_film_36 : decode cX5_film 36 = .ok (.iconst 0, 1) := by decide +kernel
theorem dX5_film_37 : decode cX5_film 37 = .ok (.istore 6, 2) := by decide +kernel
theorem dX5_film_39 : decode cX5_film 39 = .ok (.iload 6, 2) := by decide +kernel
theorem dX5_film_41 : decode cX5_film 41 = .ok (.bipush 19, 2) := by decide +kernel
theorem dX5_film_43 : decode cX5_film 43 = .ok (.if_icmp .ge 37, 3) := by decide +kernel
theorem dX5_film_46 : decode cX5_film 46 = .ok (.aload_n 0, 1) := by decide +kernel
theorem dX5_film_47 : decode cX5_film 47 = .ok (.getfield 50, 3) := by decide +kernel
theorem dX5_film_50 : decode cX5_film 50 = .ok (.iload_n 2, 1) := by decide +kernel
theorem dX5_film_51 : decode cX5_film 51 = .ok (.aaload, 1) := by decide +kernel
theorem dX5_film_52 : decode cX5_film 52 = .ok (.iload 4, 2) := by decide +kernel
theorem dX5_film_54 : decode cX5_film 54 = .ok (.iload 6, 2) := by decide +kernel
theorem dX5_film_56 : decode cX5_film 56 = .ok (.iadd, 1) := by decide +kernel
theorem dX5_film_57 : decode cX5_film 57 = .ok (.aload_n 0, 1) := by decide +kernel
theorem dX5_film_58 : decode cX5_film 58 = .ok (.getfield 12, 3) := by decide +kernel
theorem dX5_film_61 : decode cX5_film 61 = .ok (.iload_n 1, 1) := by decide +kernel
theorem dX5_film_62 : decode cX5_film 62 = .ok (.iload 6, 2) := by decide +kernel
theorem dX5_film_64 : decode cX5_film 64 = .ok (.bipush 9, 2) := by decide +kernel
theorem dX5_film_66 : decode cX5_film 66 = .ok (.isub, 1) := by decide +kernel
theorem dX5_film_67 : decode cX5_film 67 = .ok (.invokevirtual 187, 3) := by decide +kernel
theorem dX5_film_70 : decode cX5_film 70 = .ok (.i2l, 1) := by decide +kernel
theorem dX5_film_71 : decode cX5_film 71 = .ok (.invokevirtual 227, 3) := by decide +kernel
theorem dX5_film_74 : decode cX5_film 74 = .ok (.iinc 6 1, 3) := by decide +kernel
theorem dX5_film_77 : decode cX5_film 77 = .ok (.goto (-38), 3) := by decide +kernel
theorem dX5_film_80 : decode cX5_film 80 = .ok (.bipush 19, 2) := by decide +kernel
theorem dX5_film_82 : decode cX5_film 82 = .ok (.ireturn, 1) := by decide +kernel
theorem dX5_sheet_0 : decode cX5_sheet 0 = .ok (.iload_n 1, 1) := by decide +kernel
theorem dX5_sheet_1 : decode cX5_sheet 1 = .ok (.invokestatic 231, 3) := by decide +kernel
theorem dX5_sheet_4 : decode cX5_sheet 4 = .ok (.ifCond .eq 16, 3) := by decide +kernel
theorem dX5_sheet_7 : decode cX5_sheet 7 = .ok (.iload_n 2, 1) := by decide +kernel
theorem dX5_sheet_8 : decode cX5_sheet 8 = .ok (.invokestatic 234, 3) := by decide +kernel
theorem dX5_sheet_11 : decode cX5_sheet 11 = .ok (.ifCond .eq 9, 3) := by decide +kernel
theorem dX5_sheet_14 : decode cX5_sheet 14 = .ok (.iload_n 3, 1) := by decide +kernel
theorem dX5_sheet_15 : decode cX5_sheet 15 = .ok (.bipush 24, 2) := by decide +kernel
theorem dX5_sheet_17 : decode cX5_sheet 17 = .ok (.if_icmp .le 5, 3) := by decide +kernel
theorem dX5_sheet_20 : decode cX5_sheet 20 = .ok (.iconst (-1), 1) := by decide +kernel
theorem dX5_sheet_21 : decode cX5_sheet 21 = .ok (.ireturn, 1) := by decide +kernel
theorem dX5_sheet_22 : decode cX5_sheet 22 = .ok (.iload_n 3, 1) := by decide +kernel
theorem dX5_sheet_23 : decode cX5_sheet 23 = .ok (.ifCond .ge 6, 3) := by decide +kernel
theorem dX5_sheet_26 : decode cX5_sheet 26 = .ok (.bipush (-14), 2) := by decide +kernel
theorem dX5_sheet_28 : decode cX5_sheet 28 = .ok (.ireturn, 1) := by decide +kernel
theorem dX5_sheet_29 : decode cX5_sheet 29 = .ok (.aload_n 0, 1) := by decide +kernel
theorem dX5_sheet_30 : decode cX5_sheet 30 = .ok (.getfield 50, 3) := by decide +kernel
theorem dX5_sheet_33 : decode cX5_sheet 33 = .ok (.iload_n 1, 1) := by decide +kernel
theorem dX5_sheet_34 : decode cX5_sheet 34 = .ok (.aaload, 1) := by decide +kernel
theorem dX5_sheet_35 : decode cX5_sheet 35 = .ok (.iload_n 2, 1) := by decide +kernel
theorem dX5_sheet_36 : decode cX5_sheet 36 = .ok (.iload_n 3, 1) := by decide +kernel
theorem dX5_sheet_37 : decode cX5_sheet 37 = .ok (.invokevirtual 237, 3) := by decide +kernel
theorem dX5_sheet_40 : decode cX5_sheet 40 = .ok (.iload_n 3, 1) := by decide +kernel
theorem dX5_sheet_41 : decode cX5_sheet 41 = .ok (.ireturn, 1) := by decide +kernel
theorem dX5_drop_0 : decode cX5_drop 0 = .ok (.iload_n 1, 1) := by decide +kernel
theorem dX5_drop_1 : decode cX5_drop 1 = .ok (.invokestatic 231, 3) := by decide +kernel
theorem dX5_drop_4 : decode cX5_drop 4 = .ok (.ifCond .ne 5, 3) := by decide +kernel
theorem dX5_drop_7 : decode cX5_drop 7 = .ok (.iconst (-1), 1) := by decide +kernel
theorem dX5_drop_8 : decode cX5_drop 8 = .ok (.ireturn, 1) := by decide +kernel
theorem dX5_drop_9 : decode cX5_drop 9 = .ok (.aload_n 0, 1) := by decide +kernel
theorem dX5_drop_10 : decode cX5_drop 10 = .ok (.getfield 50, 3) := by decide +kernel
theorem dX5_drop_13 : decode cX5_drop 13 = .ok (.iload_n 1, 1) := by decide +kernel
theorem dX5_drop_14 : decode cX5_drop 14 = .ok (.aaload, 1) := by decide +kernel
theorem dX5_drop_15 : decode cX5_drop 15 = .ok (.getfield 241, 3) := by decide +kernel
theorem dX5_drop_18 : decode cX5_drop 18 = .ok (.ifCond .ne 6, 3) := by decide +kernel
theorem dX5_drop_21 : decode cX5_drop 21 = .ok (.bipush (-11), 2) := by decide +kernel
theorem dX5_drop_23 : decode cX5_drop 23 = .ok (.ireturn, 1) := by decide +kernel
theorem dX5_drop_24 : decode cX5_drop 24 = .ok (.aload_n 0, 1) := by decide +kernel
theorem dX5_drop_25 : decode cX5_drop 25 = .ok (.getfield 50, 3) := by decide +kernel
theorem dX5_drop_28 : decode cX5_drop 28 = .ok (.iload_n 1, 1) := by decide +kernel
theorem dX5_drop_29 : decode cX5_drop 29 = .ok (.aaload, 1) := by decide +kernel
theorem dX5_drop_30 : decode cX5_drop 30 = .ok (.iconst 0, 1) := by decide +kernel
theorem dX5_drop_31 : decode cX5_drop 31 = .ok (.putfield 241, 3) := by decide +kernel
theorem dX5_drop_34 : decode cX5_drop 34 = .ok (.aload_n 0, 1) := by decide +kernel
theorem dX5_drop_35 : decode cX5_drop 35 = .ok (.getfield 50, 3) := by decide +kernel
theorem dX5_drop_38 : decode cX5_drop 38 = .ok (.iload_n 1, 1) := by decide +kernel
theorem dX5_drop_39 : decode cX5_drop 39 = .ok (.aaload, 1) := by decide +kernel
theorem dX5_drop_40 : decode cX5_drop 40 = .ok (.getfield 244, 3) := by decide +kernel
theorem dX5_drop_43 : decode cX5_drop 43 = .ok (.ireturn, 1) := by decide +kernel
theorem dX5_item_0 : decode cX5_item 0 = .ok (.aload_n 0, 1) := by decide +kernel
theorem dX5_item_1 : decode cX5_item 1 = .ok (.iload_n 1, 1) := by decide +kernel
theorem dX5_item_2 : decode cX5_item 2 = .ok (.iload_n 2, 1) := by decide +kernel
theorem dX5_item_3 : decode cX5_item 3 = .ok (.iload_n 3, 1) := by decide +kernel
theorem dX5_item_4 : decode cX5_item 4 = .ok (.iconst 1, 1) := by decide +kernel
theorem dX5_item_5 : decode cX5_item 5 = .ok (.invokevirtual 215, 3) := by decide +kernel
theorem dX5_item_8 : decode cX5_item 8 = .ok (.istore 6, 2) := by decide +kernel
theorem dX5_item_10 : decode cX5_item 10 = .ok (.iload 6, 2) := by decide +kernel
theorem dX5_item_12 : decode cX5_item 12 = .ok (.ifCond .eq 6, 3) := by decide +kernel
theorem dX5_item_15 : decode cX5_item 15 = .ok (.iload 6, 2) := by decide +kernel
theorem dX5_item_17 : decode cX5_item 17 = .ok (.ireturn, 1) := by decide +kernel
theorem dX5_item_18 : decode cX5_item 18 = .ok (.aload_n 0, 1) := by decide +kernel
theorem dX5_item_19 : decode cX5_item 19 = .ok (.getfield 50, 3) := by decide +kernel
theorem dX5_item_22 : decode cX5_item 22 = .ok (.iload_n 1, 1) := by decide +kernel
theorem dX5_item_23 : decode cX5_item 23 = .ok (.aaload, 1) := by decide +kernel
theorem dX5_item_24 : decode cX5_item 24 = .ok (.iload_n 3, 1) := by decide +kernel
theorem dX5_item_25 : decode cX5_item 25 = .ok (.lload 4, 2) := by decide +kernel
theorem dX5_item_27 : decode cX5_item 27 = .ok (.invokevirtual 227, 3) := by decide +kernel
theorem dX5_item_30 : decode cX5_item 30 = .ok (.iconst 1, 1) := by decide +kernel
theorem dX5_item_31 : decode cX5_item 31 = .ok (.ireturn, 1) := by decide +kernel
theorem dX5_copy_0 : decode cX5_copy 0 = .ok (.iload_n 1, 1) := by decide +kernel
theorem dX5_copy_1 : decode cX5_copy 1 = .ok (.invokestatic 231, 3) := by decide +kernel
theorem dX5_copy_4 : decode cX5_copy 4 = .ok (.ifCond .eq 10, 3) := by decide +kernel
theorem dX5_copy_7 : decode cX5_copy 7 = .ok (.iload_n 3, 1) := by decide +kernel
theorem dX5_copy_8 : decode cX5_copy 8 = .ok (.invokestatic 231, 3) := by decide +kernel
theorem dX5_copy_11 : decode cX5_copy 11 = .ok (.ifCond .ne 5, 3) := by decide +kernel
theorem dX5_copy_14 : decode cX5_copy 14 = .ok (.iconst (-1), 1) := by decide +kernel
theorem dX5_copy_15 : decode cX5_copy 15 = .ok (.ireturn, 1) := by decide +kernel
theorem dX5_copy_16 : decode cX5_copy 16 = .ok (.aload_n 0, 1) := by decide +kernel
theorem dX5_copy_17 : decode cX5_copy 17 = .ok (.getfield 50, 3) := by decide +kernel
theorem dX5_copy_20 : decode cX5_copy 20 = .ok (.iload_n 1, 1) := by decide +kernel
theorem dX5_copy_21 : decode cX5_copy 21 = .ok (.aaload, 1) := by decide +kernel
theorem dX5_copy_22 : decode cX5_copy 22 = .ok (.getfield 241, 3) := by decide +kernel
theorem dX5_copy_25 : decode cX5_copy 25 = .ok (.ifCond .eq 15, 3) := by decide +kernel
theorem dX5_copy_28 : decode cX5_copy 28 = .ok (.aload_n 0, 1) := by decide +kernel
theorem dX5_copy_29 : decode cX5_copy 29 = .ok (.getfield 50, 3) := by decide +kernel
theorem dX5_copy_32 : decode cX5_copy 32 = .ok (.iload_n 3, 1) := by decide +kernel
theorem dX5_copy_33 : decode cX5_copy 33 = .ok (.aaload, 1) := by decide +kernel
theorem dX5_copy_34 : decode cX5_copy 34 = .ok (.getfield 241, 3) := by decide +kernel
theorem dX5_copy_37 : decode cX5_copy 37 = .ok (.ifCond .ne 6, 3) := by decide +kernel
theorem dX5_copy_40 : decode cX5_copy 40 = .ok (.bipush (-11), 2) := by decide +kernel
theorem dX5_copy_42 : decode cX5_copy 42 = .ok (.ireturn, 1) := by decide +kernel
theorem dX5_copy_43 : decode cX5_copy 43 = .ok (.aload_n 0, 1) := by decide +kernel
theorem dX5_copy_44 : decode cX5_copy 44 = .ok (.getfield 50, 3) := by decide +kernel
theorem dX5_copy_47 : decode cX5_copy 47 = .ok (.iload_n 1, 1) := by decide +kernel
theorem dX5_copy_48 : decode cX5_copy 48 = .ok (.aaload, 1) := by decide +kernel
theorem dX5_copy_49 : decode cX5_copy 49 = .ok (.getfield 245, 3) := by decide +kernel
theorem dX5_copy_52 : decode cX5_copy 52 = .ok (.aload_n 0, 1) := by decide +kernel
theorem dX5_copy_53 : decode cX5_copy 53 = .ok (.getfield 50, 3) := by decide +kernel
theorem dX5_copy_56 : decode cX5_copy 56 = .ok (.iload_n 3, 1) := by decide +kernel
theorem dX5_copy_57 : decode cX5_copy 57 = .ok (.aaload, 1) := by decide +kernel
theorem dX5_copy_58 : decode cX5_copy 58 = .ok (.getfield 245, 3) := by decide +kernel
theorem dX5_copy_61 : decode cX5_copy 61 = .ok (.if_icmp .eq 6, 3) := by decide +kernel
theorem dX5_copy_64 : decode cX5_copy 64 = .ok (.bipush (-12), 2) := by decide +kernel
theorem dX5_copy_66 : decode cX5_copy 66 = .ok (.ireturn, 1) := by decide +kernel
theorem dX5_copy_67 : decode cX5_copy 67 = .ok (.aload_n 0, 1) := by decide +kernel
theorem dX5_copy_68 : decode cX5_copy 68 = .ok (.getfield 50, 3) := by decide +kernel
theorem dX5_copy_71 : decode cX5_copy 71 = .ok (.iload_n 1, 1) := by decide +kernel
theorem dX5_copy_72 : decode cX5_copy 72 = .ok (.aaload, 1) := by decide +kernel
theorem dX5_copy_73 : decode cX5_copy 73 = .ok (.iload_n 2, 1) := by decide +kernel
theorem dX5_copy_74 : decode cX5_copy 74 = .ok (.iload 5, 2) := by decide +kernel
theorem dX5_copy_76 : decode cX5_copy 76 = .ok (.invokevirtual 248, 3) := by decide +kernel
theorem dX5_copy_79 : decode cX5_copy 79 = .ok (.ifCond .eq 19, 3) := by decide +kernel
theorem dX5_copy_82 : decode cX5_copy 82 = .ok (.aload_n 0, 1) := by decide +kernel
theorem dX5_copy_83 : decode cX5_copy 83 = .ok (.getfield 50, 3) := by decide +kernel
theorem dX5_copy_86 : decode cX5_copy 86 = .ok (.iload_n 3, 1) := by decide +kernel
theorem dX5_copy_87 : decode cX5_copy 87 = .ok (.aaload, 1) := by decide +kernel
theorem dX5_copy_88 : decode cX5_copy 88 = .ok (.iload 4, 2) := by decide +kernel
theorem dX5_copy_90 : decode cX5_copy 90 = .ok (.iload 5, 2) := by decide +kernel
theorem dX5_copy_92 : decode cX5_copy 92 = .ok (.invokevirtual 248, 3) := by decide +kernel
theorem dX5_copy_95 : decode cX5_copy 95 = .ok (.ifCond .ne 6, 3) := by decide +kernel
theorem dX5_copy_98 : decode cX5_copy 98 = .ok (.bipush (-13), 2) := by decide +kernel
theorem dX5_copy_100 : decode cX5_copy 100 = .ok (.ireturn, 1) := by decide +kernel
theorem dX5_copy_101 : decode cX5_copy 101 = .ok (.aload_n 0, 1) := by decide +kernel
theorem dX5_copy_102 : decode cX5_copy 102 = .ok (.getfield 50, 3) := by decide +kernel
theorem dX5_copy_105 : decode cX5_copy 105 = .ok (.iload_n 1, 1) := by decide +kernel
theorem dX5_copy_106 : decode cX5_copy 106 = .ok (.aaload, 1) := by decide +kernel
theorem dX5_copy_107 : decode cX5_copy 107 = .ok (.getfield 251, 3) := by decide +kernel
theorem dX5_copy_110 : decode cX5_copy 110 = .ok (.iload_n 2, 1) := by decide +kernel
theorem dX5_copy_111 : decode cX5_copy 111 = .ok (.aload_n 0, 1) := by decide +kernel
theorem dX5_copy_112 : decode cX5_copy 112 = .ok (.getfield 50, 3) := by decide +kernel
theorem dX5_copy_115 : decode cX5_copy 115 = .ok (.iload_n 3, 1) := by decide +kernel
theorem dX5_copy_116 : decode cX5_copy 116 = .ok (.aaload, 1) := by decide +kernel
theorem dX5_copy_117 : decode cX5_copy 117 = .ok (.getfield 251, 3) := by decide +kernel
theorem dX5_copy_120 : decode cX5_copy 120 = .ok (.iload 4, 2) := by decide +kernel
theorem dX5_copy_122 : decode cX5_copy 122 = .ok (.iload 5, 2) := by decide +kernel
theorem dX5_copy_124 : decode cX5_copy 124 = .ok (.invokestatic 255, 3) := by decide +kernel
theorem dX5_copy_127 : decode cX5_copy 127 = .ok (.iload 5, 2) := by decide +kernel
theorem dX5_copy_129 : decode cX5_copy 129 = .ok (.ireturn, 1) := by decide +kernel
theorem dX5_within_0 : decode cX5_within 0 = .ok (.iload_n 0, 1) := by decide +kernel
theorem dX5_within_1 : decode cX5_within 1 = .ok (.iload_n 1, 1) := by decide +kernel
theorem dX5_within_2 : decode cX5_within 2 = .ok (.if_icmp .lt 12, 3) := by decide +kernel
theorem dX5_within_5 : decode cX5_within 5 = .ok (.iload_n 0, 1) := by decide +kernel
theorem dX5_within_6 : decode cX5_within 6 = .ok (.iload_n 2, 1) := by decide +kernel
theorem dX5_within_7 : decode cX5_within 7 = .ok (.if_icmp .gt 7, 3) := by decide +kernel
theorem dX5_within_10 : decode cX5_within 10 = .ok (.iconst 1, 1) := by decide +kernel
theorem dX5_within_11 : decode cX5_within 11 = .ok (.goto 4, 3) := by decide +kernel
theorem dX5_within_14 : decode cX5_within 14 = .ok (.iconst 0, 1) := by decide +kernel
theorem dX5_within_15 : decode cX5_within 15 = .ok (.ireturn, 1) := by decide +kernel
theorem dX5_isMood_0 : decode cX5_isMood 0 = .ok (.iload_n 0, 1) := by decide +kernel
theorem dX5_isMood_1 : decode cX5_isMood 1 = .ok (.bipush (-9), 2) := by decide +kernel
theorem dX5_isMood_3 : decode cX5_isMood 3 = .ok (.bipush 9, 2) := by decide +kernel
theorem dX5_isMood_5 : decode cX5_isMood 5 = .ok (.invokestatic 55, 3) := by decide +kernel
theorem dX5_isMood_8 : decode cX5_isMood 8 = .ok (.ireturn, 1) := by decide +kernel
theorem dX5_isPails_0 : decode cX5_isPails 0 = .ok (.lload_n 0, 1) := by decide +kernel
theorem dX5_isPails_1 : decode cX5_isPails 1 = .ok (.lconst 0, 1) := by decide +kernel
theorem dX5_isPails_2 : decode cX5_isPails 2 = .ok (.lcmp, 1) := by decide +kernel
theorem dX5_isPails_3 : decode cX5_isPails 3 = .ok (.ifCond .lt 15, 3) := by decide +kernel
theorem dX5_isPails_6 : decode cX5_isPails 6 = .ok (.lload_n 0, 1) := by decide +kernel
theorem dX5_isPails_7 : decode cX5_isPails 7 = .ok (.ldc2_w 261, 3) := by decide +kernel
theorem dX5_isPails_10 : decode cX5_isPails 10 = .ok (.lcmp, 1) := by decide +kernel
theorem dX5_isPails_11 : decode cX5_isPails 11 = .ok (.ifCond .gt 7, 3) := by decide +kernel
theorem dX5_isPails_14 : decode cX5_isPails 14 = .ok (.iconst 1, 1) := by decide +kernel
theorem dX5_isPails_15 : decode cX5_isPails 15 = .ok (.goto 4, 3) := by decide +kernel
theorem dX5_isPails_18 : decode cX5_isPails 18 = .ok (.iconst 0, 1) := by decide +kernel
theorem dX5_isPails_19 : decode cX5_isPails 19 = .ok (.ireturn, 1) := by decide +kernel
theorem dX5_isSheet_0 : decode cX5_isSheet 0 = .ok (.iload_n 0, 1) := by decide +kernel
theorem dX5_isSheet_1 : decode cX5_isSheet 1 = .ok (.iconst 0, 1) := by decide +kernel
theorem dX5_isSheet_2 : decode cX5_isSheet 2 = .ok (.iconst 3, 1) := by decide +kernel
theorem dX5_isSheet_3 : decode cX5_isSheet 3 = .ok (.invokestatic 55, 3) := by decide +kernel
theorem dX5_isSheet_6 : decode cX5_isSheet 6 = .ok (.ireturn, 1) := by decide +kernel
theorem dX5_isLane_0 : decode cX5_isLane 0 = .ok (.iload_n 0, 1) := by decide +kernel
theorem dX5_isLane_1 : decode cX5_isLane 1 = .ok (.iconst 0, 1) := by decide +kernel
theorem dX5_isLane_2 : decode cX5_isLane 2 = .ok (.iconst 2, 1) := by decide +kernel
theorem dX5_isLane_3 : decode cX5_isLane 3 = .ok (.invokestatic 55, 3) := by decide +kernel
theorem dX5_isLane_6 : decode cX5_isLane 6 = .ok (.ireturn, 1) := by decide +kernel
theorem dX5_asMood_0 : decode cX5_asMood 0 = .ok (.bipush (-9), 2) := by decide +kernel
theorem dX5_asMood_2 : decode cX5_asMood 2 = .ok (.bipush 9, 2) := by decide +kernel
theorem dX5_asMood_4 : decode cX5_asMood 4 = .ok (.iload_n 0, 1) := by decide +kernel
theorem dX5_asMood_5 : decode cX5_asMood 5 = .ok (.invokestatic 263, 3) := by decide +kernel
theorem dX5_asMood_8 : decode cX5_asMood 8 = .ok (.invokestatic 268, 3) := by decide +kernel
theorem dX5_asMood_11 : decode cX5_asMood 11 = .ok (.ireturn, 1) := by decide +kernel
theorem dX5_waned_0 : decode cX5_waned 0 = .ok (.iload_n 0, 1) := by decide +kernel
theorem dX5_waned_1 : decode cX5_waned 1 = .ok (.iload_n 0, 1) := by decide +kernel
theorem dX5_waned_2 : decode cX5_waned 2 = .ok (.iconst 0, 1) := by decide +kernel
theorem dX5_waned_3 : decode cX5_waned 3 = .ok (.invokestatic 271, 3) := by decide +kernel
theorem dX5_waned_6 : decode cX5_waned 6 = .ok (.isub, 1) := by decide +kernel
theorem dX5_waned_7 : decode cX5_waned 7 = .ok (.ireturn, 1) := by decide +kernel
theorem dX5_rained_0 : decode cX5_rained 0 = .ok (.sipush 999, 3) := by decide +kernel
theorem dX5_rained_3 : decode cX5_rained 3 = .ok (.iload_n 0, 1) := by decide +kernel
theorem dX5_rained_4 : decode cX5_rained 4 = .ok (.iload_n 1, 1) := by decide +kernel
theorem dX5_rained_5 : decode cX5_rained 5 = .ok (.iadd, 1) := by decide +kernel
theorem dX5_rained_6 : decode cX5_rained 6 = .ok (.invokestatic 263, 3) := by decide +kernel
theorem dX5_rained_9 : decode cX5_rained 9 = .ok (.ireturn, 1) := by decide +kernel
theorem dX5_byteOf_0 : decode cX5_byteOf 0 = .ok (.lload_n 0, 1) := by decide +kernel
theorem dX5_byteOf_1 : decode cX5_byteOf 1 = .ok (.bipush 8, 2) := by decide +kernel
theorem dX5_byteOf_3 : decode cX5_byteOf 3 = .ok (.iload_n 2, 1) := by decide +kernel
theorem dX5_byteOf_4 : decode cX5_byteOf 4 = .ok (.imul, 1) := by decide +kernel
theorem dX5_byteOf_5 : decode cX5_byteOf 5 = .ok (.lshr, 1) := by decide +kernel
theorem dX5_byteOf_6 : decode cX5_byteOf 6 = .ok (.l2i, 1) := by decide +kernel
theorem dX5_byteOf_7 : decode cX5_byteOf 7 = .ok (.sipush 255, 3) := by decide +kernel
theorem dX5_byteOf_10 : decode cX5_byteOf 10 = .ok (.iand, 1) := by decide +kernel
theorem dX5_byteOf_11 : decode cX5_byteOf 11 = .ok (.ireturn, 1) := by decide +kernel
theorem dX5_areSigns_0 : decode cX5_areSigns 0 = .ok (.iconst 0, 1) := by decide +kernel
theorem dX5_areSigns_1 : decode cX5_areSigns 1 = .ok (.istore_n 3, 1) := by decide +kernel
theorem dX5_areSigns_2 : decode cX5_areSigns 2 = .ok (.iload_n 3, 1) := by decide +kernel
theorem dX5_areSigns_3 : decode cX5_areSigns 3 = .ok (.iload_n 2, 1) := by decide +kernel
theorem dX5_areSigns_4 : decode cX5_areSigns 4 = .ok (.if_icmp .ge 26, 3) := by decide +kernel
theorem dX5_areSigns_7 : decode cX5_areSigns 7 = .ok (.lload_n 0, 1) := by decide +kernel
theorem dX5_areSigns_8 : decode cX5_areSigns 8 = .ok (.iload_n 3, 1) := by decide +kernel
theorem dX5_areSigns_9 : decode cX5_areSigns 9 = .ok (.invokestatic 132, 3) := by decide +kernel
theorem dX5_areSigns_12 : decode cX5_areSigns 12 = .ok (.bipush 32, 2) := by decide +kernel
theorem dX5_areSigns_14 : decode cX5_areSigns 14 = .ok (.bipush 126, 2) := by decide +kernel
theorem dX5_areSigns_16 : decode cX5_areSigns 16 = .ok (.invokestatic 55, 3) := by decide +kernel
theorem dX5_areSigns_19 : decode cX5_areSigns 19 = .ok (.ifCond .ne 5, 3) := by decide +kernel
theorem dX5_areSigns_22 : decode cX5_areSigns 22 = .ok (.iconst 0, 1) := by decide +kernel
theorem dX5_areSigns_23 : decode cX5_areSigns 23 = .ok (.ireturn, 1) := by decide +kernel
theorem dX5_areSigns_24 : decode cX5_areSigns 24 = .ok (.iinc 3 1, 3) := by decide +kernel
theorem dX5_areSigns_27 : decode cX5_areSigns 27 = .ok (.goto (-25), 3) := by decide +kernel
theorem dX5_areSigns_30 : decode cX5_areSigns 30 = .ok (.iconst 1, 1) := by decide +kernel
theorem dX5_areSigns_31 : decode cX5_areSigns 31 = .ok (.ireturn, 1) := by decide +kernel
theorem dX5_isTale_0 : decode cX5_isTale 0 = .ok (.aload_n 0, 1) := by decide +kernel
theorem dX5_isTale_1 : decode cX5_isTale 1 = .ok (.getfield 12, 3) := by decide +kernel
theorem dX5_isTale_4 : decode cX5_isTale 4 = .ok (.getfield 59, 3) := by decide +kernel
theorem dX5_isTale_7 : decode cX5_isTale 7 = .ok (.iload_n 1, 1) := by decide +kernel
theorem dX5_isTale_8 : decode cX5_isTale 8 = .ok (.invokevirtual 70, 3) := by decide +kernel
theorem dX5_isTale_11 : decode cX5_isTale 11 = .ok (.ifCond .eq 22, 3) := by decide +kernel
theorem dX5_isTale_14 : decode cX5_isTale 14 = .ok (.iload_n 2, 1) := by decide +kernel
theorem dX5_isTale_15 : decode cX5_isTale 15 = .ok (.invokestatic 98, 3) := by decide +kernel
theorem dX5_isTale_18 : decode cX5_isTale 18 = .ok (.ifCond .eq 15, 3) := by decide +kernel
theorem dX5_isTale_21 : decode cX5_isTale 21 = .ok (.iload_n 3, 1) := by decide +kernel
theorem dX5_isTale_22 : decode cX5_isTale 22 = .ok (.i2l, 1) := by decide +kernel
theorem dX5_isTale_23 : decode cX5_isTale 23 = .ok (.invokestatic 190, 3) := by decide +kernel
theorem dX5_isTale_26 : decode cX5_isTale 26 = .ok (.ifCond .eq 7, 3) := by decide +kernel
theorem dX5_isTale_29 : decode cX5_isTale 29 = .ok (.iconst 1, 1) := by decide +kernel
theorem dX5_isTale_30 : decode cX5_isTale 30 = .ok (.goto 4, 3) := by decide +kernel
theorem dX5_isTale_33 : decode cX5_isTale 33 = .ok (.iconst 0, 1) := by decide +kernel
theorem dX5_isTale_34 : decode cX5_isTale 34 = .ok (.ireturn, 1) := by decide +kernel
theorem dX5_mostFrom_0 : decode cX5_mostFrom 0 = .ok (.aload_n 0, 1) := by decide +kernel
theorem dX5_mostFrom_1 : decode cX5_mostFrom 1 = .ok (.getfield 44, 3) := by decide +kernel
theorem dX5_mostFrom_4 : decode cX5_mostFrom 4 = .ok (.aload_n 0, 1) := by decide +kernel
theorem dX5_mostFrom_5 : decode cX5_mostFrom 5 = .ok (.getfield 12, 3) := by decide +kernel
theorem dX5_mostFrom_8 : decode cX5_mostFrom 8 = .ok (.invokevirtual 177, 3) := by decide +kernel
theorem dX5_mostFrom_11 : decode cX5_mostFrom 11 = .ok (.aload_n 0, 1) := by decide +kernel
theorem dX5_mostFrom_12 : decode cX5_mostFrom 12 = .ok (.getfield 44, 3) := by decide +kernel
theorem dX5_mostFrom_15 : decode cX5_mostFrom 15 = .ok (.iload_n 2, 1) := by decide +kernel
theorem dX5_mostFrom_16 : decode cX5_mostFrom 16 = .ok (.iload_n 1, 1) := by decide +kernel
theorem dX5_mostFrom_17 : decode cX5_mostFrom 17 = .ok (.invokevirtual 181, 3) := by decide +kernel
theorem dX5_mostFrom_20 : decode cX5_mostFrom 20 = .ok (.ireturn, 1) := by decide +kernel
theorem dX5_mostInPeace_0 : decode cX5_mostInPeace 0 = .ok (.aload_n 0, 1) := by decide +kernel
theorem dX5_mostInPeace_1 : decode cX5_mostInPeace 1 = .ok (.getfield 44, 3) := by decide +kernel
theorem dX5_mostInPeace_4 : decode cX5_mostInPeace 4 = .ok (.getfield 276, 3) := by decide +kernel
theorem dX5_mostInPeace_7 : decode cX5_mostInPeace 7 = .ok (.iload_n 1, 1) := by decide +kernel
theorem dX5_mostInPeace_8 : decode cX5_mostInPeace 8 = .ok (.iload_n 2, 1) := by decide +kernel
theorem dX5_mostInPeace_9 : decode cX5_mostInPeace 9 = .ok (.iconst 0, 1) := by decide +kernel
theorem dX5_mostInPeace_10 : decode cX5_mostInPeace 10 = .ok (.invokevirtual 94, 3) := by decide +kernel
theorem dX5_mostInPeace_13 : decode cX5_mostInPeace 13 = .ok (.aload_n 0, 1) := by decide +kernel
theorem dX5_mostInPeace_14 : decode cX5_mostInPeace 14 = .ok (.getfield 44, 3) := by decide +kernel
theorem dX5_mostInPeace_17 : decode cX5_mostInPeace 17 = .ok (.iconst 4, 1) := by decide +kernel
theorem dX5_mostInPeace_18 : decode cX5_mostInPeace 18 = .ok (.aload_n 0, 1) := by decide +kernel
theorem dX5_mostInPeace_19 : decode cX5_mostInPeace 19 = .ok (.getfield 12, 3) := by decide +kernel
theorem dX5_mostInPeace_22 : decode cX5_mostInPeace 22 = .ok (.getfield 101, 3) := by decide +kernel
theorem dX5_mostInPeace_25 : decode cX5_mostInPeace 25 = .ok (.invokevirtual 181, 3) := by decide +kernel
theorem dX5_mostInPeace_28 : decode cX5_mostInPeace 28 = .ok (.istore_n 3, 1) := by decide +kernel
theorem dX5_mostInPeace_29 : decode cX5_mostInPeace 29 = .ok (.aload_n 0, 1) := by decide +kernel
theorem dX5_mostInPeace_30 : decode cX5_mostInPeace 30 = .ok (.getfield 44, 3) := by decide +kernel
theorem dX5_mostInPeace_33 : decode cX5_mostInPeace 33 = .ok (.getfield 276, 3) := by decide +kernel
theorem dX5_mostInPeace_36 : decode cX5_mostInPeace 36 = .ok (.iload_n 1, 1) := by decide +kernel
theorem dX5_mostInPeace_37 : decode cX5_mostInPeace 37 = .ok (.iload_n 2, 1) := by decide +kernel
theorem dX5_mostInPeace_38 : decode cX5_mostInPeace 38 = .ok (.iconst 1, 1) := by decide +kernel
theorem dX5_mostInPeace_39 : decode cX5_mostInPeace 39 = .ok (.invokevirtual 94, 3) := by decide +kernel
theorem dX5_mostInPeace_42 : decode cX5_mostInPeace 42 = .ok (.iload_n 3, 1) := by decide +kernel
theorem dX5_mostInPeace_43 : decode cX5_mostInPeace 43 = .ok (.ireturn, 1) := by decide +kernel
theorem dX5_refusal_0 : decode cX5_refusal 0 = .ok (.iload_n 1, 1) := by decide +kernel
theorem dX5_refusal_1 : decode cX5_refusal 1 = .ok (.invokestatic 231, 3) := by decide +kernel
theorem dX5_refusal_4 : decode cX5_refusal 4 = .ok (.ifCond .eq 10, 3) := by decide +kernel
theorem dX5_refusal_7 : decode cX5_refusal 7 = .ok (.iload_n 2, 1) := by decide +kernel
theorem dX5_refusal_8 : decode cX5_refusal 8 = .ok (.invokestatic 234, 3) := by decide +kernel
theorem dX5_refusal_11 : decode cX5_refusal 11 = .ok (.ifCond .ne 5, 3) := by decide +kernel
theorem dX5_refusal_14 : decode cX5_refusal 14 = .ok (.iconst (-1), 1) := by decide +kernel
theorem dX5_refusal_15 : decode cX5_refusal 15 = .ok (.ireturn, 1) := by decide +kernel
theorem dX5_refusal_16 : decode cX5_refusal 16 = .ok (.aload_n 0, 1) := by decide +kernel
theorem dX5_refusal_17 : decode cX5_refusal 17 = .ok (.getfield 50, 3) := by decide +kernel
theorem dX5_refusal_20 : decode cX5_refusal 20 = .ok (.iload_n 1, 1) := by decide +kernel
theorem dX5_refusal_21 : decode cX5_refusal 21 = .ok (.aaload, 1) := by decide +kernel
theorem dX5_refusal_22 : decode cX5_refusal 22 = .ok (.getfield 241, 3) := by decide +kernel
theorem dX5_refusal_25 : decode cX5_refusal 25 = .ok (.ifCond .ne 6, 3) := by decide +kernel
theorem dX5_refusal_28 : decode cX5_refusal 28 = .ok (.bipush (-11), 2) := by decide +kernel
theorem dX5_refusal_30 : decode cX5_refusal 30 = .ok (.ireturn, 1) := by decide +kernel
theorem dX5_refusal_31 : decode cX5_refusal 31 = .ok (.aload_n 0, 1) := by decide +kernel
theorem dX5_refusal_32 : decode cX5_refusal 32 = .ok (.getfield 50, 3) := by decide +kernel
theorem dX5_refusal_35 : decode cX5_refusal 35 = .ok (.iload_n 1, 1) := by decide +kernel
theorem dX5_refusal_36 : decode cX5_refusal 36 = .ok (.aaload, 1) := by decide +kernel
theorem dX5_refusal_37 : decode cX5_refusal 37 = .ok (.getfield 245, 3) := by decide +kernel
theorem dX5_refusal_40 : decode cX5_refusal 40 = .ok (.iload_n 2, 1) := by decide +kernel
theorem dX5_refusal_41 : decode cX5_refusal 41 = .ok (.if_icmp .eq 6, 3) := by decide +kernel
theorem dX5_refusal_44 : decode cX5_refusal 44 = .ok (.bipush (-12), 2) := by decide +kernel
theorem dX5_refusal_46 : decode cX5_refusal 46 = .ok (.ireturn, 1) := by decide +kernel
theorem dX5_refusal_47 : decode cX5_refusal 47 = .ok (.aload_n 0, 1) := by decide +kernel
theorem dX5_refusal_48 : decode cX5_refusal 48 = .ok (.getfield 50, 3) := by decide +kernel
theorem dX5_refusal_51 : decode cX5_refusal 51 = .ok (.iload_n 1, 1) := by decide +kernel
theorem dX5_refusal_52 : decode cX5_refusal 52 = .ok (.aaload, 1) := by decide +kernel
theorem dX5_refusal_53 : decode cX5_refusal 53 = .ok (.iload_n 3, 1) := by decide +kernel
theorem dX5_refusal_54 : decode cX5_refusal 54 = .ok (.iload 4, 2) := by decide +kernel
theorem dX5_refusal_56 : decode cX5_refusal 56 = .ok (.invokevirtual 248, 3) := by decide +kernel
theorem dX5_refusal_59 : decode cX5_refusal 59 = .ok (.ifCond .eq 7, 3) := by decide +kernel
theorem dX5_refusal_62 : decode cX5_refusal 62 = .ok (.iconst 0, 1) := by decide +kernel
theorem dX5_refusal_63 : decode cX5_refusal 63 = .ok (.goto 5, 3) := by decide +kernel
theorem dX5_refusal_66 : decode cX5_refusal 66 = .ok (.bipush (-13), 2) := by decide +kernel
theorem dX5_refusal_68 : decode cX5_refusal 68 = .ok (.ireturn, 1) := by decide +kernel
theorem dX5_areDrawings_0 : decode cX5_areDrawings 0 = .ok (.iconst 0, 1) := by decide +kernel
theorem dX5_areDrawings_1 : decode cX5_areDrawings 1 = .ok (.istore 4, 2) := by decide +kernel
theorem dX5_areDrawings_3 : decode cX5_areDrawings 3 = .ok (.iload 4, 2) := by decide +kernel
theorem dX5_areDrawings_5 : decode cX5_areDrawings 5 = .ok (.iload_n 3, 1) := by decide +kernel
theorem dX5_areDrawings_6 : decode cX5_areDrawings 6 = .ok (.if_icmp .ge 67, 3) := by decide +kernel
theorem dX5_areDrawings_9 : decode cX5_areDrawings 9 = .ok (.aload_n 1, 1) := by decide +kernel
theorem dX5_areDrawings_10 : decode cX5_areDrawings 10 = .ok (.getfield 251, 3) := by decide +kernel
theorem dX5_areDrawings_13 : decode cX5_areDrawings 13 = .ok (.iload_n 2, 1) := by decide +kernel
theorem dX5_areDrawings_14 : decode cX5_areDrawings 14 = .ok (.iconst 2, 1) := by decide +kernel
theorem dX5_areDrawings_15 : decode cX5_areDrawings 15 = .ok (.iload 4, 2) := by decide +kernel
theorem dX5_areDrawings_17 : decode cX5_areDrawings 17 = .ok (.imul, 1) := by decide +kernel
theorem dX5_areDrawings_18 : decode cX5_areDrawings 18 = .ok (.iadd, 1) := by decide +kernel
theorem dX5_areDrawings_19 : decode cX5_areDrawings 19 = .ok (.laload, 1) := by decide +kernel
theorem dX5_areDrawings_20 : decode cX5_areDrawings 20 = .ok (.lstore 5, 2) := by decide +kernel
theorem dX5_areDrawings_22 : decode cX5_areDrawings 22 = .ok (.lload 5, 2) := by decide +kernel
theorem dX5_areDrawings_24 : decode cX5_areDrawings 24 = .ok (.lconst 0, 1) := by decide +kernel
theorem dX5_areDrawings_25 : decode cX5_areDrawings 25 = .ok (.lcmp, 1) := by decide +kernel
theorem dX5_areDrawings_26 : decode cX5_areDrawings 26 = .ok (.ifCond .lt 39, 3) := by decide +kernel
theorem dX5_areDrawings_29 : decode cX5_areDrawings 29 = .ok (.lload 5, 2) := by decide +kernel
theorem dX5_areDrawings_31 : decode cX5_areDrawings 31 = .ok (.aload_n 0, 1) := by decide +kernel
theorem dX5_areDrawings_32 : decode cX5_areDrawings 32 = .ok (.getfield 12, 3) := by decide +kernel
theorem dX5_areDrawings_35 : decode cX5_areDrawings 35 = .ok (.getfield 59, 3) := by decide +kernel
theorem dX5_areDrawings_38 : decode cX5_areDrawings 38 = .ok (.getfield 62, 3) := by decide +kernel
theorem dX5_areDrawings_41 : decode cX5_areDrawings 41 = .ok (.i2l, 1) := by decide +kernel
theorem dX5_areDrawings_42 : decode cX5_areDrawings 42 = .ok (.lcmp, 1) := by decide +kernel
theorem dX5_areDrawings_43 : decode cX5_areDrawings 43 = .ok (.ifCond .ge 22, 3) := by decide +kernel
theorem dX5_areDrawings_46 : decode cX5_areDrawings 46 = .ok (.aload_n 1, 1) := by decide +kernel
theorem dX5_areDrawings_47 : decode cX5_areDrawings 47 = .ok (.getfield 251, 3) := by decide +kernel
theorem dX5_areDrawings_50 : decode cX5_areDrawings 50 = .ok (.iload_n 2, 1) := by decide +kernel
theorem dX5_areDrawings_51 : decode cX5_areDrawings 51 = .ok (.iconst 2, 1) := by decide +kernel
theorem dX5_areDrawings_52 : decode cX5_areDrawings 52 = .ok (.iload 4, 2) := by decide +kernel
theorem dX5_areDrawings_54 : decode cX5_areDrawings 54 = .ok (.imul, 1) := by decide +kernel
theorem dX5_areDrawings_55 : decode cX5_areDrawings 55 = .ok (.iadd, 1) := by decide +kernel
theorem dX5_areDrawings_56 : decode cX5_areDrawings 56 = .ok (.iconst 1, 1) := by decide +kernel
theorem dX5_areDrawings_57 : decode cX5_areDrawings 57 = .ok (.iadd, 1) := by decide +kernel
theorem dX5_areDrawings_58 : decode cX5_areDrawings 58 = .ok (.laload, 1) := by decide +kernel
theorem dX5_areDrawings_59 : decode cX5_areDrawings 59 = .ok (.invokestatic 190, 3) := by decide +kernel
theorem dX5_areDrawings_62 : decode cX5_areDrawings 62 = .ok (.ifCond .ne 5, 3) := by decide +kernel
theorem dX5_areDrawings_65 : decode cX5_areDrawings 65 = .ok (.iconst 0, 1) := by decide +kernel
theorem dX5_areDrawings_66 : decode cX5_areDrawings 66 = .ok (.ireturn, 1) := by decide +kernel
theorem dX5_areDrawings_67 : decode cX5_areDrawings 67 = .ok (.iinc 4 1, 3) := by decide +kernel
theorem dX5_areDrawings_70 : decode cX5_areDrawings 70 = .ok (.goto (-67), 3) := by decide +kernel
theorem dX5_areDrawings_73 : decode cX5_areDrawings 73 = .ok (.iconst 1, 1) := by decide +kernel
theorem dX5_areDrawings_74 : decode cX5_areDrawings 74 = .ok (.ireturn, 1) := by decide +kernel
theorem dX5_fitsFrom_0 : decode cX5_fitsFrom 0 = .ok (.iload_n 1, 1) := by decide +kernel
theorem dX5_fitsFrom_1 : decode cX5_fitsFrom 1 = .ok (.istore 5, 2) := by decide +kernel
theorem dX5_fitsFrom_3 : decode cX5_fitsFrom 3 = .ok (.iconst 0, 1) := by decide +kernel
theorem dX5_fitsFrom_4 : decode cX5_fitsFrom 4 = .ok (.istore 6, 2) := by decide +kernel
theorem dX5_fitsFrom_6 : decode cX5_fitsFrom 6 = .ok (.iload 6, 2) := by decide +kernel
theorem dX5_fitsFrom_8 : decode cX5_fitsFrom 8 = .ok (.iload 4, 2) := by decide +kernel
theorem dX5_fitsFrom_10 : decode cX5_fitsFrom 10 = .ok (.if_icmp .ge 76, 3) := by decide +kernel
theorem dX5_fitsFrom_13 : decode cX5_fitsFrom 13 = .ok (.aload_n 2, 1) := by decide +kernel
theorem dX5_fitsFrom_14 : decode cX5_fitsFrom 14 = .ok (.getfield 251, 3) := by decide +kernel
theorem dX5_fitsFrom_17 : decode cX5_fitsFrom 17 = .ok (.iload_n 3, 1) := by decide +kernel
theorem dX5_fitsFrom_18 : decode cX5_fitsFrom 18 = .ok (.iconst 2, 1) := by decide +kernel
theorem dX5_fitsFrom_19 : decode cX5_fitsFrom 19 = .ok (.iload 6, 2) := by decide +kernel
theorem dX5_fitsFrom_21 : decode cX5_fitsFrom 21 = .ok (.imul, 1) := by decide +kernel
theorem dX5_fitsFrom_22 : decode cX5_fitsFrom 22 = .ok (.iadd, 1) := by decide +kernel
theorem dX5_fitsFrom_23 : decode cX5_fitsFrom 23 = .ok (.laload, 1) := by decide +kernel
theorem dX5_fitsFrom_24 : decode cX5_fitsFrom 24 = .ok (.l2i, 1) := by decide +kernel
theorem dX5_fitsFrom_25 : decode cX5_fitsFrom 25 = .ok (.istore 7, 2) := by decide +kernel
theorem dX5_fitsFrom_27 : decode cX5_fitsFrom 27 = .ok (.aload_n 0, 1) := by decide +kernel
theorem dX5_fitsFrom_28 : decode cX5_fitsFrom 28 = .ok (.getfield 12, 3) := by decide +kernel
theorem dX5_fitsFrom_31 : decode cX5_fitsFrom 31 = .ok (.getfield 59, 3) := by decide +kernel
theorem dX5_fitsFrom_34 : decode cX5_fitsFrom 34 = .ok (.iload 7, 2) := by decide +kernel
theorem dX5_fitsFrom_36 : decode cX5_fitsFrom 36 = .ok (.iload 5, 2) := by decide +kernel
theorem dX5_fitsFrom_38 : decode cX5_fitsFrom 38 = .ok (.invokevirtual 200, 3) := by decide +kernel
theorem dX5_fitsFrom_41 : decode cX5_fitsFrom 41 = .ok (.i2l, 1) := by decide +kernel
theorem dX5_fitsFrom_42 : decode cX5_fitsFrom 42 = .ok (.aload_n 2, 1) := by decide +kernel
theorem dX5_fitsFrom_43 : decode cX5_fitsFrom 43 = .ok (.getfield 251, 3) := by decide +kernel
theorem dX5_fitsFrom_46 : decode cX5_fitsFrom 46 = .ok (.iload_n 3, 1) := by decide +kernel
theorem dX5_fitsFrom_47 : decode cX5_fitsFrom 47 = .ok (.iconst 2, 1) := by decide +kernel
theorem dX5_fitsFrom_48 : decode cX5_fitsFrom 48 = .ok (.iload 6, 2) := by decide +kernel
theorem dX5_fitsFrom_50 : decode cX5_fitsFrom 50 = .ok (.imul, 1) := by decide +kernel
theorem dX5_fitsFrom_51 : decode cX5_fitsFrom 51 = .ok (.iadd, 1) := by decide +kernel
theorem dX5_fitsFrom_52 : decode cX5_fitsFrom 52 = .ok (.iconst 1, 1) := by decide +kernel
theorem dX5_fitsFrom_53 : decode cX5_fitsFrom 53 = .ok (.iadd, 1) := by decide +kernel
theorem dX5_fitsFrom_54 : decode cX5_fitsFrom 54 = .ok (.laload, 1) := by decide +kernel
theorem dX5_fitsFrom_55 : decode cX5_fitsFrom 55 = .ok (.lcmp, 1) := by decide +kernel
theorem dX5_fitsFrom_56 : decode cX5_fitsFrom 56 = .ok (.ifCond .eq 5, 3) := by decide +kernel
theorem dX5_fitsFrom_59 : decode cX5_fitsFrom 59 = .ok (.iconst 0, 1) := by decide +kernel
theorem dX5_fitsFrom_60 : decode cX5_fitsFrom 60 = .ok (.ireturn, 1) := by decide +kernel
theorem dX5_fitsFrom_61 : decode cX5_fitsFrom 61 = .ok (.aload_n 0, 1) := by decide +kernel
theorem dX5_fitsFrom_62 : decode cX5_fitsFrom 62 = .ok (.getfield 12, 3) := by decide +kernel
theorem dX5_fitsFrom_65 : decode cX5_fitsFrom 65 = .ok (.getfield 59, 3) := by decide +kernel
theorem dX5_fitsFrom_68 : decode cX5_fitsFrom 68 = .ok (.iload 7, 2) := by decide +kernel
theorem dX5_fitsFrom_70 : decode cX5_fitsFrom 70 = .ok (.iload 5, 2) := by decide +kernel
theorem dX5_fitsFrom_72 : decode cX5_fitsFrom 72 = .ok (.invokevirtual 277, 3) := by decide +kernel
theorem dX5_fitsFrom_75 : decode cX5_fitsFrom 75 = .ok (.invokestatic 197, 3) := by decide +kernel
theorem dX5_fitsFrom_78 : decode cX5_fitsFrom 78 = .ok (.istore 5, 2) := by decide +kernel
theorem dX5_fitsFrom_80 : decode cX5_fitsFrom 80 = .ok (.iinc 6 1, 3) := by decide +kernel
theorem dX5_fitsFrom_83 : decode cX5_fitsFrom 83 = .ok (.goto (-77), 3) := by decide +kernel
theorem dX5_fitsFrom_86 : decode cX5_fitsFrom 86 = .ok (.iconst 1, 1) := by decide +kernel
theorem dX5_fitsFrom_87 : decode cX5_fitsFrom 87 = .ok (.ireturn, 1) := by decide +kernel
theorem dJ6_compare_7cf53_0 : decode cJ6_compare_7cf53 0 = .ok (.iload_n 0, 1) := by decide +kernel
theorem dJ6_compare_7cf53_1 : decode cJ6_compare_7cf53 1 = .ok (.iload_n 1, 1) := by decide +kernel
theorem dJ6_compare_7cf53_2 : decode cJ6_compare_7cf53 2 = .ok (.if_icmp .ge 7, 3) := by decide +kernel
theorem dJ6_compare_7cf53_5 : decode cJ6_compare_7cf53 5 = .ok (.iconst (-1), 1) := by decide +kernel
theorem dJ6_compare_7cf53_6 : decode cJ6_compare_7cf53 6 = .ok (.goto 13, 3) := by decide +kernel
theorem dJ6_compare_7cf53_9 : decode cJ6_compare_7cf53 9 = .ok (.iload_n 0, 1) := by decide +kernel
theorem dJ6_compare_7cf53_10 : decode cJ6_compare_7cf53 10 = .ok (.iload_n 1, 1) := by decide +kernel
theorem dJ6_compare_7cf53_11 : decode cJ6_compare_7cf53 11 = .ok (.if_icmp .ne 7, 3) := by decide +kernel
theorem dJ6_compare_7cf53_14 : decode cJ6_compare_7cf53 14 = .ok (.iconst 0, 1) := by decide +kernel
theorem dJ6_compare_7cf53_15 : decode cJ6_compare_7cf53 15 = .ok (.goto 4, 3) := by decide +kernel
theorem dJ6_compare_7cf53_18 : decode cJ6_compare_7cf53 18 = .ok (.iconst 1, 1) := by decide +kernel
theorem dJ6_compare_7cf53_19 : decode cJ6_compare_7cf53 19 = .ok (.ireturn, 1) := by decide +kernel
theorem dJ9_max_7cf53_0 : decode cJ9_max_7cf53 0 = .ok (.iload_n 0, 1) := by decide +kernel
theorem dJ9_max_7cf53_1 : decode cJ9_max_7cf53 1 = .ok (.iload_n 1, 1) := by decide +kernel
theorem dJ9_max_7cf53_2 : decode cJ9_max_7cf53 2 = .ok (.if_icmp .lt 7, 3) := by decide +kernel
theorem dJ9_max_7cf53_5 : decode cJ9_max_7cf53 5 = .ok (.iload_n 0, 1) := by decide +kernel
theorem dJ9_max_7cf53_6 : decode cJ9_max_7cf53 6 = .ok (.goto 4, 3) := by decide +kernel
theorem dJ9_max_7cf53_9 : decode cJ9_max_7cf53 9 = .ok (.iload_n 1, 1) := by decide +kernel
theorem dJ9_max_7cf53_10 : decode cJ9_max_7cf53 10 = .ok (.ireturn, 1) := by decide +kernel
theorem dJ9_min_7cf53_0 : decode cJ9_min_7cf53 0 = .ok (.iload_n 0, 1) := by decide +kernel
theorem dJ9_min_7cf53_1 : decode cJ9_min_7cf53 1 = .ok (.iload_n 1, 1) := by decide +kernel
theorem dJ9_min_7cf53_2 : decode cJ9_min_7cf53 2 = .ok (.if_icmp .gt 7, 3) := by decide +kernel
theorem dJ9_min_7cf53_5 : decode cJ9_min_7cf53 5 = .ok (.iload_n 0, 1) := by decide +kernel
theorem dJ9_min_7cf53_6 : decode cJ9_min_7cf53 6 = .ok (.goto 4, 3) := by decide +kernel
theorem dJ9_min_7cf53_9 : decode cJ9_min_7cf53 9 = .ok (.iload_n 1, 1) := by decide +kernel
theorem dJ9_min_7cf53_10 : decode cJ9_min_7cf53 10 = .ok (.ireturn, 1) := by decide +kernel
end
section
theorem dX6_init_0 : decode cX6_init 0 = .ok (.aload_n 0, 1) := by decide +kernel
theorem dX6_init_1 : decode cX6_init 1 = .ok (.invokespecial 1, 3) := by decide +kernel
theorem dX6_init_4 : decode cX6_init 4 = .ok (.aload_n 0, 1) := by decide +kernel
theorem dX6_init_5 : decode cX6_init 5 = .ok (.bipush 6, 2) := by decide +kernel
theorem dX6_init_7 : decode cX6_init 7 = .ok (.newarray .int, 2) := by decide +kernel
theorem dX6_init_9 : decode cX6_init 9 = .ok (.putfield 7, 3) := by decide +kernel
theorem dX6_init_12 : decode cX6_init 12 = .ok (.aload_n 0, 1) := by decide +kernel
theorem dX6_init_13 : decode cX6_init 13 = .ok (.bipush 6, 2) := by decide +kernel
theorem dX6_init_15 : decode cX6_init 15 = .ok (.newarray .int, 2) := by decide +kernel
theorem dX6_init_17 : decode cX6_init 17 = .ok (.putfield 13, 3) := by decide +kernel
theorem dX6_init_20 : decode cX6_init 20 = .ok (.aload_n 0, 1) := by decide +kernel
theorem dX6_init_21 : decode cX6_init 21 = .ok (.bipush 6, 2) := by decide +kernel
theorem dX6_init_23 : decode cX6_init 23 = .ok (.newarray .int, 2) := by decide +kernel
theorem dX6_init_25 : decode cX6_init 25 = .ok (.putfield 16, 3) := by decide +kernel
theorem dX6_init_28 : decode cX6_init 28 = .ok (.aload_n 0, 1) := by decide +kernel
theorem dX6_init_29 : decode cX6_init 29 = .ok (.bipush 6, 2) := by decide +kernel
theorem dX6_init_31 : decode cX6_init 31 = .ok (.newarray .int, 2) := by decide +kernel
theorem dX6_init_33 : decode cX6_init 33 = .ok (.putfield 19, 3) := by decide +kernel
theorem dX6_init_36 : decode cX6_init 36 = .ok (.aload_n 0, 1) := by decide +kernel
theorem dX6_init_37 : decode cX6_init 37 = .ok (.bipush 6, 2) := by decide +kernel
theorem dX6_init_39 : decode cX6_init 39 = .ok (.newarray .int, 2) := by decide +kernel
theorem dX6_init_41 : decode cX6_init 41 = .ok (.putfield 22, 3) := by decide +kernel
theorem dX6_init_44 : decode cX6_init 44 = .ok (.aload_n 0, 1) := by decide +kernel
theorem dX6_init_45 : decode cX6_init 45 = .ok (.sipush 200, 3) := by decide +kernel
theorem dX6_init_48 : decode cX6_init 48 = .ok (.putfield 25, 3) := by decide +kernel
theorem dX6_init_51 : decode cX6_init 51 = .ok (.aload_n 0, 1) := by decide +kernel
theorem dX6_init_52 : decode cX6_init 52 = .ok (.iconst 1, 1) := by decide +kernel
theorem dX6_init_53 : decode cX6_init 53 = .ok (.putfield 29, 3) := by decide +kernel
theorem dX6_init_56 : decode cX6_init 56 = .ok (.aload_n 0, 1) := by decide +kernel
theorem dX6_init_57 : decode cX6_init 57 = .ok (.bipush 9, 2) := by decide +kernel
theorem dX6_init_59 : decode cX6_init 59 = .ok (.putfield 32, 3) := by decide +kernel
theorem dX6_init_62 : decode cX6_init 62 = .ok (.aload_n 0, 1) := by decide +kernel
theorem dX6_init_63 : decode cX6_init 63 = .ok (.bipush 24, 2) := by decide +kernel
theorem dX6_init_65 : decode cX6_init 65 = .ok (.newarray .int, 2) := by decide +kernel
theorem dX6_init_67 : decode cX6_init 67 = .ok (.putfield 35, 3) := by decide +kernel
theorem dX6_init_70 : decode cX6_init 70 = .ok (.aload_n 0, 1) := by decide +kernel
theorem dX6_init_71 : decode cX6_init 71 = .ok (.iconst 1, 1) := by decide +kernel
theorem dX6_init_72 : decode cX6_init 72 = .ok (.putfield 38, 3) := by decide +kernel
theorem dX6_init_75 : decode cX6_init 75 = .ok (.aload_n 0, 1) := by decide +kernel
theorem dX6_init_76 : decode cX6_init 76 = .ok (.bipush 60, 2) := by decide +kernel
theorem dX6_init_78 : decode cX6_init 78 = .ok (.newarray .int, 2) := by decide +kernel
theorem dX6_init_80 : decode cX6_init 80 = .ok (.putfield 41, 3) := by decide +kernel
theorem dX6_init_83 : decode cX6_init 83 = .ok (.aload_n 0, 1) := by decide +kernel
theorem dX6_init_84 : decode cX6_init 84 = .ok (.bipush 24, 2) := by decide +kernel
theorem dX6_init_86 : decode cX6_init 86 = .ok (.newarray .int, 2) := by decide +kernel
theorem dX6_init_88 : decode cX6_init 88 = .ok (.putfield 44, 3) := by decide +kernel
theorem dX6_init_91 : decode cX6_init 91 = .ok (.aload_n 0, 1) := by decide +kernel
theorem dX6_init_92 : decode cX6_init 92 = .ok (.bipush 6, 2) := by decide +kernel
theorem dX6_init_94 : decode cX6_init 94 = .ok (.newarray .int, 2) := by decide +kernel
theorem dX6_init_96 : decode cX6_init 96 = .ok (.putfield 47, 3) := by decide +kernel
theorem dX6_init_99 : decode cX6_init 99 = .ok (.aload_n 0, 1) := by decide +kernel
theorem dX6_init_100 : decode cX6_init 100 = .ok (.iconst 5, 1) := by decide +kernel
theorem dX6_init_101 : decode cX6_init 101 = .ok (.newarray .int, 2) := by decide +kernel
theorem dX6_init_103 : decode cX6_init 103 = .ok (.putfield 50, 3) := by decide +kernel
theorem dX6_init_106 : decode cX6_init 106 = .ok (.aload_n 0, 1) := by decide +kernel
theorem dX6_init_107 : decode cX6_init 107 = .ok (.iconst 5, 1) := by decide +kernel
theorem dX6_init_108 : decode cX6_init 108 = .ok (.newarray .int, 2) := by decide +kernel
theorem dX6_init_110 : decode cX6_init 110 = .ok (.putfield 53, 3) := by decide +kernel
theorem dX6_init_113 : decode cX6_init 113 = .ok (.aload_n 0, 1) := by decide +kernel
theorem dX6_init_114 : decode cX6_init 114 = .ok (.bipush 64, 2) := by decide +kernel
theorem dX6_init_116 : decode cX6_init 116 = .ok (.newarray .int, 2) := by decide +kernel
theorem dX6_init_118 : decode cX6_init 118 = .ok (.putfield 56, 3) := by decide +kernel
theorem dX6_init_121 : decode cX6_init 121 = .ok (.aload_n 0, 1) := by decide +kernel
theorem dX6_init_122 : decode cX6_init 122 = .ok (.iconst 4, 1) := by decide +kernel
theorem dX6_init_123 : decode cX6_init 123 = .ok (.newarray .int, 2) := by decide +kernel
theorem dX6_init_125 : decode cX6_init 125 = .ok (.putfield 59, 3) := by decide +kernel
theorem dX6_init_128 : decode cX6_init 128 = .ok (.aload_n 0, 1) := by decide +kernel
theorem dX6_init_129 : decode cX6_init 129 = .ok (.iconst 4, 1) := by decide +kernel
theorem dX6_init_130 : decode cX6_init 130 = .ok (.newarray .int, 2) := by decide +kernel
theorem dX6_init_132 : decode cX6_init 132 = .ok (.putfield 62, 3) := by decide +kernel
theorem dX6_init_135 : decode cX6_init 135 = .ok (.aload_n 0, 1) := by decide +kernel
theorem dX6_init_136 : decode cX6_init 136 = .ok (.bipush 96, 2) := by decide +kernel
theorem dX6_init_138 : decode cX6_init 138 = .ok (.newarray .long, 2) := by decide +kernel
theorem dX6_init_140 : decode cX6_init 140 = .ok (.putfield 65, 3) := by decide +kernel
theorem dX6_init_143 : decode cX6_init 143 = .ok (.aload_n 0, 1) := by decide +kernel
theorem dX6_init_144 : decode cX6_init 144 = .ok (.bipush 24, 2) := by decide +kernel
theorem dX6_init_146 : decode cX6_init 146 = .ok (.newarray .long, 2) := by decide +kernel
theorem dX6_init_148 : decode cX6_init 148 = .ok (.putfield 69, 3) := by decide +kernel
theorem dX6_init_151 : decode cX6_init 151 = .ok (.iconst 0, 1) := by decide +kernel
theorem dX6_init_152 : decode cX6_init 152 = .ok (.istore_n 1, 1) := by decide +kernel
theorem dX6_init_153 : decode cX6_init 153 = .ok (.iload_n 1, 1) := by decide +kernel
theorem dX6_init_154 : decode cX6_init 154 = .ok (.iconst 4, 1) := by decide +kernel
theorem dX6_init_155 : decode cX6_init 155 = .ok (.if_icmp .ge 16, 3) := by decide +kernel
theorem dX6_init_158 : decode cX6_init 158 = .ok (.aload_n 0, 1) := by decide +kernel
theorem dX6_init_159 : decode cX6_init 159 = .ok (.getfield 59, 3) := by decide +kernel
theorem dX6_init_162 : decode cX6_init 162 = .ok (.iload_n 1, 1) := by decide +kernel
theorem dX6_init_163 : decode cX6_init 163 = .ok (.iconst (-1), 1) := by decide +kernel
theorem dX6_init_164 : decode cX6_init 164 = .ok (.iastore, 1) := by decide +kernel
theorem dX6_init_165 : decode cX6_init 165 = .ok (.iinc 1 1, 3) := by decide +kernel
theorem dX6_init_168 : decode cX6_init 168 = .ok (.goto (-15), 3) := by decide +kernel
theorem dX6_init_171 : decode cX6_init 171 = .ok (.return_, 1) := by decide +kernel
theorem dX6_in_0 : decode cX6_in 0 = .ok (.lload_n 0, 1) := by decide +kernel
theorem dX6_in_1 : decode cX6_in 1 = .ok (.lload_n 2, 1) := by decide +kernel
theorem dX6_in_2 : decode cX6_in 2 = .ok (.lcmp, 1) := by decide +kernel
theorem dX6_in_3 : decode cX6_in 3 = .ok (.ifCond .lt 14, 3) := by decide +kernel
theorem dX6_in_6 : decode cX6_in 6 = .ok (.lload_n 0, 1) := by decide +kernel
theorem dX6_in_7 : decode cX6_in 7 = .ok (.lload 4, 2) := by decide +kernel
theorem dX6_in_9 : decode cX6_in 9 = .ok (.lcmp, 1) := by decide +kernel
theorem dX6_in_10 : decode cX6_in 10 = .ok (.ifCond .gt 7, 3) := by decide +kernel
theorem dX6_in_13 : decode cX6_in 13 = .ok (.iconst 1, 1) := by decide +kernel
theorem dX6_in_14 : decode cX6_in 14 = .ok (.goto 4, 3) := by decide +kernel
theorem dX6_in_17 : decode cX6_in 17 = .ok (.iconst 0, 1) := by decide +kernel
theorem dX6_in_18 : decode cX6_in 18 = .ok (.ireturn, 1) := by decide +kernel
theorem dX6_has_0 : decode cX6_has 0 = .ok (.iload_n 0, 1) := by decide +kernel
theorem dX6_has_1 : decode cX6_has 1 = .ok (.iload_n 1, 1) := by decide +kernel
theorem dX6_has_2 : decode cX6_has 2 = .ok (.ishr, 1) := by decide +kernel
theorem dX6_has_3 : decode cX6_has 3 = .ok (.iconst 1, 1) := by decide +kernel
theorem dX6_has_4 : decode cX6_has 4 = .ok (.iand, 1) := by decide +kernel
theorem dX6_has_5 : decode cX6_has 5 = .ok (.iconst 1, 1) := by decide +kernel
theorem dX6_has_6 : decode cX6_has 6 = .ok (.if_icmp .ne 7, 3) := by decide +kernel
theorem dX6_has_9 : decode cX6_has 9 = .ok (.iconst 1, 1) := by decide +kernel
theorem dX6_has_10 : decode cX6_has 10 = .ok (.goto 4, 3) := by decide +kernel
theorem dX6_has_13 : decode cX6_has 13 = .ok (.iconst 0, 1) := by decide +kernel
theorem dX6_has_14 : decode cX6_has 14 = .ok (.ireturn, 1) := by decide +kernel
theorem dX6_isOne_0 : decode cX6_isOne 0 = .ok (.iload_n 1, 1) := by decide +kernel
theorem dX6_isOne_1 : decode cX6_isOne 1 = .ok (.i2l, 1) := by decide +kernel
theorem dX6_isOne_2 : decode cX6_isOne 2 = .ok (.lconst 0, 1) := by decide +kernel
theorem dX6_isOne_3 : decode cX6_isOne 3 = .ok (.aload_n 0, 1) := by decide +kernel
theorem dX6_isOne_4 : decode cX6_isOne 4 = .ok (.getfield 72, 3) := by decide +kernel
theorem dX6_isOne_7 : decode cX6_isOne 7 = .ok (.iconst 1, 1) := by decide +kernel
theorem dX6_isOne_8 : decode cX6_isOne 8 = .ok (.isub, 1) := by decide +kernel
theorem dX6_isOne_9 : decode cX6_isOne 9 = .ok (.i2l, 1) := by decide +kernel
theorem dX6_isOne_10 : decode cX6_isOne 10 = .ok (.invokestatic 75, 3) := by decide +kernel
theorem dX6_isOne_13 : decode cX6_isOne 13 = .ok (.ireturn, 1) := by decide +kernel
theorem dX6_isMood_0 : decode cX6_isMood 0 = .ok (.iload_n 0, 1) := by decide +kernel
theorem dX6_isMood_1 : decode cX6_isMood 1 = .ok (.i2l, 1) := by decide +kernel
theorem dX6_isMood_2 : decode cX6_isMood 2 = .ok (.ldc2_w 79, 3) := by decide +kernel
theorem dX6_isMood_5 : decode cX6_isMood 5 = .ok (.ldc2_w 81, 3) := by decide +kernel
theorem dX6_isMood_8 : decode cX6_isMood 8 = .ok (.invokestatic 75, 3) := by decide +kernel
theorem dX6_isMood_11 : decode cX6_isMood 11 = .ok (.ireturn, 1) := by decide +kernel
theorem dX6_add_0 : decode cX6_add 0 = .ok (.aload_n 0, 1) := by decide +kernel
theorem dX6_add_1 : decode cX6_add 1 = .ok (.getfield 7, 3) := by decide +kernel
theorem dX6_add_4 : decode cX6_add 4 = .ok (.aload_n 0, 1) := by decide +kernel
theorem dX6_add_5 : decode cX6_add 5 = .ok (.getfield 72, 3) := by decide +kernel
theorem dX6_add_8 : decode cX6_add 8 = .ok (.iload_n 1, 1) := by decide +kernel
theorem dX6_add_9 : decode cX6_add 9 = .ok (.iastore, 1) := by decide +kernel
theorem dX6_add_10 : decode cX6_add 10 = .ok (.aload_n 0, 1) := by decide +kernel
theorem dX6_add_11 : decode cX6_add 11 = .ok (.getfield 13, 3) := by decide +kernel
theorem dX6_add_14 : decode cX6_add 14 = .ok (.aload_n 0, 1) := by decide +kernel
theorem dX6_add_15 : decode cX6_add 15 = .ok (.getfield 72, 3) := by decide +kernel
theorem dX6_add_18 : decode cX6_add 18 = .ok (.iload_n 2, 1) := by decide +kernel
theorem dX6_add_19 : decode cX6_add 19 = .ok (.iastore, 1) := by decide +kernel
theorem dX6_add_20 : decode cX6_add 20 = .ok (.aload_n 0, 1) := by decide +kernel
theorem dX6_add_21 : decode cX6_add 21 = .ok (.getfield 16, 3) := by decide +kernel
theorem dX6_add_24 : decode cX6_add 24 = .ok (.aload_n 0, 1) := by decide +kernel
theorem dX6_add_25 : decode cX6_add 25 = .ok (.getfield 72, 3) := by decide +kernel
theorem dX6_add_28 : decode cX6_add 28 = .ok (.iload_n 3, 1) := by decide +kernel
theorem dX6_add_29 : decode cX6_add 29 = .ok (.iastore, 1) := by decide +kernel
theorem dX6_add_30 : decode cX6_add 30 = .ok (.aload_n 0, 1) := by decide +kernel
theorem dX6_add_31 : decode cX6_add 31 = .ok (.getfield 19, 3) := by decide +kernel
theorem dX6_add_34 : decode cX6_add 34 = .ok (.aload_n 0, 1) := by decide +kernel
theorem dX6_add_35 : decode cX6_add 35 = .ok (.getfield 72, 3) := by decide +kernel
theorem dX6_add_38 : decode cX6_add 38 = .ok (.iconst 0, 1) := by decide +kernel
theorem dX6_add_39 : decode cX6_add 39 = .ok (.iastore, 1) := by decide +kernel
theorem dX6_add_40 : decode cX6_add 40 = .ok (.aload_n 0, 1) := by decide +kernel
theorem dX6_add_41 : decode cX6_add 41 = .ok (.getfield 22, 3) := by decide +kernel
theorem dX6_add_44 : decode cX6_add 44 = .ok (.aload_n 0, 1) := by decide +kernel
theorem dX6_add_45 : decode cX6_add 45 = .ok (.getfield 72, 3) := by decide +kernel
theorem dX6_add_48 : decode cX6_add 48 = .ok (.iconst 0, 1) := by decide +kernel
theorem dX6_add_49 : decode cX6_add 49 = .ok (.iastore, 1) := by decide +kernel
theorem dX6_add_50 : decode cX6_add 50 = .ok (.aload_n 0, 1) := by decide +kernel
theorem dX6_add_51 : decode cX6_add 51 = .ok (.dup, 1) := by decide +kernel
theorem dX6_add_52 : decode cX6_add 52 = .ok (.getfield 72, 3) := by decide +kernel
theorem dX6_add_55 : decode cX6_add 55 = .ok (.iconst 1, 1) := by decide +kernel
theorem dX6_add_56 : decode cX6_add 56 = .ok (.iadd, 1) := by decide +kernel
theorem dX6_add_57 : decode cX6_add 57 = .ok (.putfield 72, 3) := by decide +kernel
theorem dX6_add_60 : decode cX6_add 60 = .ok (.return_, 1) := by decide +kernel
theorem dX6_folk_0 : decode cX6_folk 0 = .ok (.iload_n 1, 1) := by decide +kernel
theorem dX6_folk_1 : decode cX6_folk 1 = .ok (.i2l, 1) := by decide +kernel
theorem dX6_folk_2 : decode cX6_folk 2 = .ok (.lconst 0, 1) := by decide +kernel
theorem dX6_folk_3 : decode cX6_folk 3 = .ok (.ldc2_w 83, 3) := by decide +kernel
theorem dX6_folk_6 : decode cX6_folk 6 = .ok (.invokestatic 75, 3) := by decide +kernel
theorem dX6_folk_9 : decode cX6_folk 9 = .ok (.ifCond .eq 29, 3) := by decide +kernel
theorem dX6_folk_12 : decode cX6_folk 12 = .ok (.iload_n 2, 1) := by decide +kernel
theorem dX6_folk_13 : decode cX6_folk 13 = .ok (.i2l, 1) := by decide +kernel
theorem dX6_folk_14 : decode cX6_folk 14 = .ok (.ldc2_w 85, 3) := by decide +kernel
theorem dX6_folk_17 : decode cX6_folk 17 = .ok (.ldc2_w 83, 3) := by decide +kernel
theorem dX6_folk_20 : decode cX6_folk 20 = .ok (.invokestatic 75, 3) := by decide +kernel
theorem dX6_folk_23 : decode cX6_folk 23 = .ok (.ifCond .eq 15, 3) := by decide +kernel
theorem dX6_folk_26 : decode cX6_folk 26 = .ok (.iload_n 3, 1) := by decide +kernel
theorem dX6_folk_27 : decode cX6_folk 27 = .ok (.i2l, 1) := by decide +kernel
theorem dX6_folk_28 : decode cX6_folk 28 = .ok (.lconst 1, 1) := by decide +kernel
theorem dX6_folk_29 : decode cX6_folk 29 = .ok (.ldc2_w 81, 3) := by decide +kernel
theorem dX6_folk_32 : decode cX6_folk 32 = .ok (.invokestatic 75, 3) := by decide +kernel
theorem dX6_folk_35 : decode cX6_folk 35 = .ok (.ifCond .ne 5, 3) := by decide +kernel
theorem dX6_folk_38 : decode cX6_folk 38 = .ok (.iconst (-1), 1) := by decide +kernel
theorem dX6_folk_39 : decode cX6_folk 39 = .ok (.ireturn, 1) := by decide +kernel
theorem dX6_folk_40 : decode cX6_folk 40 = .ok (.aload_n 0, 1) := by decide +kernel
theorem dX6_folk_41 : decode cX6_folk 41 = .ok (.getfield 72, 3) := by decide +kernel
theorem dX6_folk_44 : decode cX6_folk 44 = .ok (.bipush 6, 2) := by decide +kernel
theorem dX6_folk_46 : decode cX6_folk 46 = .ok (.if_icmp .ne 6, 3) := by decide +kernel
theorem dX6_folk_49 : decode cX6_folk 49 = .ok (.bipush (-3), 2) := by decide +kernel
theorem dX6_folk_51 : decode cX6_folk 51 = .ok (.ireturn, 1) := by decide +kernel
theorem dX6_folk_52 : decode cX6_folk 52 = .ok (.aload_n 0, 1) := by decide +kernel
theorem dX6_folk_53 : decode cX6_folk 53 = .ok (.iload_n 1, 1) := by decide +kernel
theorem dX6_folk_54 : decode cX6_folk 54 = .ok (.iload_n 2, 1) := by decide +kernel
theorem dX6_folk_55 : decode cX6_folk 55 = .ok (.iload_n 3, 1) := by decide +kernel
theorem dX6_folk_56 : decode cX6_folk 56 = .ok (.invokevirtual 87, 3) := by decide +kernel
theorem dX6_folk_59 : decode cX6_folk 59 = .ok (.aload_n 0, 1) := by decide +kernel
theorem dX6_folk_60 : decode cX6_folk 60 = .ok (.getfield 72, 3) := by decide +kernel
theorem dX6_folk_63 : decode cX6_folk 63 = .ok (.iconst 1, 1) := by decide +kernel
theorem dX6_folk_64 : decode cX6_folk 64 = .ok (.isub, 1) := by decide +kernel
theorem dX6_folk_65 : decode cX6_folk 65 = .ok (.ireturn, 1) := by decide +kernel
theorem dX6_told_0 : decode cX6_told 0 = .ok (.aload_n 0, 1) := by decide +kernel
theorem dX6_told_1 : decode cX6_told 1 = .ok (.iload_n 1, 1) := by decide +kernel
theorem dX6_told_2 : decode cX6_told 2 = .ok (.invokevirtual 91, 3) := by decide +kernel
theorem dX6_told_5 : decode cX6_told 5 = .ok (.ifCond .eq 15, 3) := by decide +kernel
theorem dX6_told_8 : decode cX6_told 8 = .ok (.iload_n 2, 1) := by decide +kernel
theorem dX6_told_9 : decode cX6_told 9 = .ok (.i2l, 1) := by decide +kernel
theorem dX6_told_10 : decode cX6_told 10 = .ok (.lconst 0, 1) := by decide +kernel
theorem dX6_told_11 : decode cX6_told 11 = .ok (.ldc2_w 95, 3) := by decide +kernel
theorem dX6_told_14 : decode cX6_told 14 = .ok (.invokestatic 75, 3) := by decide +kernel
theorem dX6_told_17 : decode cX6_told 17 = .ok (.ifCond .ne 6, 3) := by decide +kernel
theorem dX6_told_20 : decode cX6_told 20 = .ok (.ldc 97, 2) := by decide +kernel
theorem dX6_told_22 : decode cX6_told 22 = .ok (.ireturn, 1) := by decide +kernel
theorem dX6_told_23 : decode cX6_told 23 = .ok (.aload_n 0, 1) := by decide +kernel
theorem dX6_told_24 : decode cX6_told 24 = .ok (.getfield 22, 3) := by decide +kernel
theorem dX6_told_27 : decode cX6_told 27 = .ok (.iload_n 1, 1) := by decide +kernel
theorem dX6_told_28 : decode cX6_told 28 = .ok (.iaload, 1) := by decide +kernel
theorem dX6_told_29 : decode cX6_told 29 = .ok (.aload_n 0, 1) := by decide +kernel
theorem dX6_told_30 : decode cX6_told 30 = .ok (.getfield 98, 3) := by decide +kernel
theorem dX6_told_33 : decode cX6_told 33 = .ok (.if_icmp .le 17, 3) := by decide +kernel
theorem dX6_told_36 : decode cX6_told 36 = .ok (.aload_n 0, 1) := by decide +kernel
theorem dX6_told_37 : decode cX6_told 37 = .ok (.getfield 22, 3) := by decide +kernel
theorem dX6_told_40 : decode cX6_told 40 = .ok (.iload_n 1, 1) := by decide +kernel
theorem dX6_told_41 : decode cX6_told 41 = .ok (.iaload, 1) := by decide +kernel
theorem dX6_told_42 : decode cX6_told 42 = .ok (.aload_n 0, 1) := by decide +kernel
theorem dX6_told_43 : decode cX6_told 43 = .ok (.getfield 98, 3) := by decide +kernel
theorem dX6_told_46 : decode cX6_told 46 = .ok (.isub, 1) := by decide +kernel
theorem dX6_told_47 : decode cX6_told 47 = .ok (.goto 4, 3) := by decide +kernel
theorem dX6_told_50 : decode cX6_told 50 = .ok (.iconst 0, 1) := by decide +kernel
theorem dX6_told_51 : decode cX6_told 51 = .ok (.istore_n 3, 1) := by decide +kernel
theorem dX6_told_52 : decode cX6_told 52 = .ok (.iload_n 2, 1) := by decide +kernel
theorem dX6_told_53 : decode cX6_told 53 = .ok (.ifCond .ne 12, 3) := by decide +kernel
theorem dX6_told_56 : decode cX6_told 56 = .ok (.aload_n 0, 1) := by decide +kernel
theorem dX6_told_57 : decode cX6_told 57 = .ok (.getfield 7, 3) := by decide +kernel
theorem dX6_told_60 : decode cX6_told 60 = .ok (.iload_n 1, 1) := by decide +kernel
theorem dX6_told_61 : decode cX6_told 61 = .ok (.iaload, 1) := by decide +kernel
theorem dX6_told_62 : decode cX6_told 62 = .ok (.goto 46, 3) := by decide +kernel
theorem dX6_told_65 : decode cX6_told 65 = .ok (.iload_n 2, 1) := by decide +kernel
theorem dX6_told_66 : decode cX6_told 66 = .ok (.iconst 1, 1) := by decide +kernel
theorem dX6_told_67 : decode cX6_told 67 = .ok (.if_icmp .ne 12, 3) := by decide +kernel
theorem dX6_told_70 : decode cX6_told 70 = .ok (.aload_n 0, 1) := by decide +kernel
theorem dX6_told_71 : decode cX6_told 71 = .ok (.getfield 13, 3) := by decide +kernel
theorem dX6_told_74 : decode cX6_told 74 = .ok (.iload_n 1, 1) := by decide +kernel
theorem dX6_told_75 : decode cX6_told 75 = .ok (.iaload, 1) := by decide +kernel
theorem dX6_told_76 : decode cX6_told 76 = .ok (.goto 32, 3) := by decide +kernel
theorem dX6_told_79 : decode cX6_told 79 = .ok (.iload_n 2, 1) := by decide +kernel
theorem dX6_told_80 : decode cX6_told 80 = .ok (.iconst 2, 1) := by decide +kernel
theorem dX6_told_81 : decode cX6_told 81 = .ok (.if_icmp .ne 12, 3) := by decide +kernel
theorem dX6_told_84 : decode cX6_told 84 = .ok (.aload_n 0, 1) := by decide +kernel
theorem dX6_told_85 : decode cX6_told 85 = .ok (.getfield 16, 3) := by decide +kernel
theorem dX6_told_88 : decode cX6_told 88 = .ok (.iload_n 1, 1) := by decide +kernel
theorem dX6_told_89 : decode cX6_told 89 = .ok (.iaload, 1) := by decide +kernel
theorem dX6_told_90 : decode cX6_told 90 = .ok (.goto 18, 3) := by decide +kernel
theorem dX6_told_93 : decode cX6_told 93 = .ok (.iload_n 2, 1) := by decide +kernel
theorem dX6_told_94 : decode cX6_told 94 = .ok (.iconst 3, 1) := by decide +kernel
theorem dX6_told_95 : decode cX6_told 95 = .ok (.if_icmp .ne 7, 3) := by decide +kernel
theorem dX6_told_98 : decode cX6_told 98 = .ok (.iload_n 3, 1) := by decide +kernel
theorem dX6_told_99 : decode cX6_told 99 = .ok (.goto 9, 3) := by decide +kernel
theorem dX6_told_102 : decode cX6_told 102 = .ok (.aload_n 0, 1) := by decide +kernel
theorem dX6_told_103 : decode cX6_told 103 = .ok (.getfield 19, 3) := by decide +kernel
theorem dX6_told_106 : decode cX6_told 106 = .ok (.iload_n 1, 1) := by decide +kernel
theorem dX6_told_107 : decode cX6_told 107 = .ok (.iaload, 1) := by decide +kernel
theorem dX6_told_108 : decode cX6_told 108 = .ok (.ireturn, 1) := by decide +kernel
theorem dX6_setQuarrel_0 : decode cX6_setQuarrel 0 = .ok (.aload_n 0, 1) := by decide +kernel
theorem dX6_setQuarrel_1 : decode cX6_setQuarrel 1 = .ok (.getfield 19, 3) := by decide +kernel
theorem dX6_setQuarrel_4 : decode cX6_setQuarrel 4 = .ok (.iload_n 1, 1) := by decide +kernel
theorem dX6_setQuarrel_5 : decode cX6_setQuarrel 5 = .ok (.iload_n 3, 1) := by decide +kernel
theorem dX6_setQuarrel_6 : decode cX6_setQuarrel 6 = .ok (.ifCond .eq 16, 3) := by decide +kernel
theorem dX6_setQuarrel_9 : decode cX6_setQuarrel 9 = .ok (.aload_n 0, 1) := by decide +kernel
theorem dX6_setQuarrel_10 : decode cX6_setQuarrel 10 = .ok (.getfield 19, 3) := by decide +kernel
theorem dX6_setQuarrel_13 : decode cX6_setQuarrel 13 = .ok (.iload_n 1, 1) := by decide +kernel
theorem dX6_setQuarrel_14 : decode cX6_setQuarrel 14 = .ok (.iaload, 1) := by decide +kernel
theorem dX6_setQuarrel_15 : decode cX6_setQuarrel 15 = .ok (.iconst 1, 1) := by decide +kernel
theorem dX6_setQuarrel_16 : decode cX6_setQuarrel 16 = .ok (.iload_n 2, 1) := by decide +kernel
theorem dX6_setQuarrel_17 : decode cX6_setQuarrel 17 = .ok (.ishl, 1) := by decide +kernel
theorem dX6_setQuarrel_18 : decode cX6_setQuarrel 18 = .ok (.ior, 1) := by decide +kernel
theorem dX6_setQuarrel_19 : decode cX6_setQuarrel 19 = .ok (.goto 15, 3) := by decide +kernel
theorem dX6_setQuarrel_22 : decode cX6_setQuarrel 22 = .ok (.aload_n 0, 1) := by decide +kernel
theorem dX6_setQuarrel_23 : decode cX6_setQuarrel 23 = .ok (.getfield 19, 3) := by decide +kernel
theorem dX6_setQuarrel_26 : decode cX6_setQuarrel 26 = .ok (.iload_n 1, 1) := by decide +kernel
theorem dX6_setQuarrel_27 : decode cX6_setQuarrel 27 = .ok (.iaload, 1) := by decide +kernel
theorem dX6_setQuarrel_28 : decode cX6_setQuarrel 28 = .ok (.iconst 1, 1) := by decide +kernel
theorem dX6_setQuarrel_29 : decode cX6_setQuarrel 29 = .ok (.iload_n 2, 1) := by decide +kernel
theorem dX6_setQuarrel_30 : decode cX6_setQuarrel 30 = .ok (.ishl, 1) := by decide +kernel
theorem dX6_setQuarrel_31 : decode cX6_setQuarrel 31 = .ok (.iconst (-1), 1) := by decide +kernel
theorem dX6_setQuarrel_32 : decode cX6_setQuarrel 32 = .ok (.ixor, 1) := by decide +kernel
theorem dX6_setQuarrel_33 : decode cX6_setQuarrel 33 = .ok (.iand, 1) := by decide +kernel
theorem dX6_setQuarrel_34 : decode cX6_setQuarrel 34 = .ok (.iastore, 1) := by decide +kernel
theorem dX6_setQuarrel_35 : decode cX6_setQuarrel 35 = .ok (.aload_n 0, 1) := by decide +kernel
theorem dX6_setQuarrel_36 : decode cX6_setQuarrel 36 = .ok (.getfield 19, 3) := by decide +kernel
theorem dX6_setQuarrel_39 : decode cX6_setQuarrel 39 = .ok (.iload_n 2, 1) := by decide +kernel
theorem dX6_setQuarrel_40 : decode cX6_setQuarrel 40 = .ok (.iload_n 3, 1) := by decide +kernel
theorem dX6_setQuarrel_41 : decode cX6_setQuarrel 41 = .ok (.ifCond .eq 16, 3) := by decide +kernel
theorem dX6_setQuarrel_44 : decode cX6_setQuarrel 44 = .ok (.aload_n 0, 1) := by decide +kernel
theorem dX6_setQuarrel_45 : decode cX6_setQuarrel 45 = .ok (.getfield 19, 3) := by decide +kernel
theorem dX6_setQuarrel_48 : decode cX6_setQuarrel 48 = .ok (.iload_n 2, 1) := by decide +kernel
theorem dX6_setQuarrel_49 : decode cX6_setQuarrel 49 = .ok (.iaload, 1) := by decide +kernel
theorem dX6_setQuarrel_50 : decode cX6_setQuarrel 50 = .ok (.iconst 1, 1) := by decide +kernel
theorem dX6_setQuarrel_51 : decode cX6_setQuarrel 51 = .ok (.iload_n 1, 1) := by decide +kernel
theorem dX6_setQuarrel_52 : decode cX6_setQuarrel 52 = .ok (.ishl, 1) := by decide +kernel
theorem dX6_setQuarrel_53 : decode cX6_setQuarrel 53 = .ok (.ior, 1) := by decide +kernel
theorem dX6_setQuarrel_54 : decode cX6_setQuarrel 54 = .ok (.goto 15, 3) := by decide +kernel
theorem dX6_setQuarrel_57 : decode cX6_setQuarrel 57 = .ok (.aload_n 0, 1) := by decide +kernel
theorem dX6_setQuarrel_58 : decode cX6_setQuarrel 58 = .ok (.getfield 19, 3) := by decide +kernel
theorem dX6_setQuarrel_61 : decode cX6_setQuarrel 61 = .ok (.iload_n 2, 1) := by decide +kernel
theorem dX6_setQuarrel_62 : decode cX6_setQuarrel 62 = .ok (.iaload, 1) := by decide +kernel
theorem dX6_setQuarrel_63 : decode cX6_setQuarrel 63 = .ok (.iconst 1, 1) := by decide +kernel
theorem dX6_setQuarrel_64 : decode cX6_setQuarrel 64 = .ok (.iload_n 1, 1) := by decide +kernel
theorem dX6_setQuarrel_65 : decode cX6_setQuarrel 65 = .ok (.ishl, 1) := by decide +kernel
theorem dX6_setQuarrel_66 : decode cX6_setQuarrel 66 = .ok (.iconst (-1), 1) := by decide +kernel
theorem dX6_setQuarrel_67 : decode cX6_setQuarrel 67 = .ok (.ixor, 1) := by decide +kernel
theorem dX6_setQuarrel_68 : decode cX6_setQuarrel 68 = .ok (.iand, 1) := by decide +kernel
theorem dX6_setQuarrel_69 : decode cX6_setQuarrel 69 = .ok (.iastore, 1) := by decide +kernel
theorem dX6_setQuarrel_70 : decode cX6_setQuarrel 70 = .ok (.return_, 1) := by decide +kernel
theorem dX6_quarrel_0 : decode cX6_quarrel 0 = .ok (.aload_n 0, 1) := by decide +kernel
theorem dX6_quarrel_1 : decode cX6_quarrel 1 = .ok (.iload_n 1, 1) := by decide +kernel
theorem dX6_quarrel_2 : decode cX6_quarrel 2 = .ok (.invokevirtual 91, 3) := by decide +kernel
theorem dX6_quarrel_5 : decode cX6_quarrel 5 = .ok (.ifCond .eq 16, 3) := by decide +kernel
theorem dX6_quarrel_8 : decode cX6_quarrel 8 = .ok (.aload_n 0, 1) := by decide +kernel
theorem dX6_quarrel_9 : decode cX6_quarrel 9 = .ok (.iload_n 2, 1) := by decide +kernel
theorem dX6_quarrel_10 : decode cX6_quarrel 10 = .ok (.invokevirtual 91, 3) := by decide +kernel
theorem dX6_quarrel_13 : decode cX6_quarrel 13 = .ok (.ifCond .eq 8, 3) := by decide +kernel
theorem dX6_quarrel_16 : decode cX6_quarrel 16 = .ok (.iload_n 1, 1) := by decide +kernel
theorem dX6_quarrel_17 : decode cX6_quarrel 17 = .ok (.iload_n 2, 1) := by decide +kernel
theorem dX6_quarrel_18 : decode cX6_quarrel 18 = .ok (.if_icmp .ne 5, 3) := by decide +kernel
theorem dX6_quarrel_21 : decode cX6_quarrel 21 = .ok (.iconst (-1), 1) := by decide +kernel
theorem dX6_quarrel_22 : decode cX6_quarrel 22 = .ok (.ireturn, 1) := by decide +kernel
theorem dX6_quarrel_23 : decode cX6_quarrel 23 = .ok (.aload_n 0, 1) := by decide +kernel
theorem dX6_quarrel_24 : decode cX6_quarrel 24 = .ok (.getfield 19, 3) := by decide +kernel
theorem dX6_quarrel_27 : decode cX6_quarrel 27 = .ok (.iload_n 1, 1) := by decide +kernel
theorem dX6_quarrel_28 : decode cX6_quarrel 28 = .ok (.iaload, 1) := by decide +kernel
theorem dX6_quarrel_29 : decode cX6_quarrel 29 = .ok (.iload_n 2, 1) := by decide +kernel
theorem dX6_quarrel_30 : decode cX6_quarrel 30 = .ok (.ishr, 1) := by decide +kernel
theorem dX6_quarrel_31 : decode cX6_quarrel 31 = .ok (.iconst 1, 1) := by decide +kernel
theorem dX6_quarrel_32 : decode cX6_quarrel 32 = .ok (.iand, 1) := by decide +kernel
theorem dX6_quarrel_33 : decode cX6_quarrel 33 = .ok (.istore 4, 2) := by decide +kernel
theorem dX6_quarrel_35 : decode cX6_quarrel 35 = .ok (.aload_n 0, 1) := by decide +kernel
theorem dX6_quarrel_36 : decode cX6_quarrel 36 = .ok (.iload_n 1, 1) := by decide +kernel
theorem dX6_quarrel_37 : decode cX6_quarrel 37 = .ok (.iload_n 2, 1) := by decide +kernel
theorem dX6_quarrel_38 : decode cX6_quarrel 38 = .ok (.iload_n 3, 1) := by decide +kernel
theorem dX6_quarrel_39 : decode cX6_quarrel 39 = .ok (.invokevirtual 101, 3) := by decide +kernel
theorem dX6_quarrel_42 : decode cX6_quarrel 42 = .ok (.iload 4, 2) := by decide +kernel
theorem dX6_quarrel_44 : decode cX6_quarrel 44 = .ok (.ireturn, 1) := by decide +kernel
theorem dX6_set_0 : decode cX6_set 0 = .ok (.iload_n 1, 1) := by decide +kernel
theorem dX6_set_1 : decode cX6_set 1 = .ok (.i2l, 1) := by decide +kernel
theorem dX6_set_2 : decode cX6_set 2 = .ok (.lconst 0, 1) := by decide +kernel
theorem dX6_set_3 : decode cX6_set 3 = .ok (.ldc2_w 105, 3) := by decide +kernel
theorem dX6_set_6 : decode cX6_set 6 = .ok (.invokestatic 75, 3) := by decide +kernel
theorem dX6_set_9 : decode cX6_set 9 = .ok (.ifCond .eq 40, 3) := by decide +kernel
theorem dX6_set_12 : decode cX6_set 12 = .ok (.iload_n 1, 1) := by decide +kernel
theorem dX6_set_13 : decode cX6_set 13 = .ok (.ifCond .ne 13, 3) := by decide +kernel
theorem dX6_set_16 : decode cX6_set 16 = .ok (.iload_n 2, 1) := by decide +kernel
theorem dX6_set_17 : decode cX6_set 17 = .ok (.invokestatic 107, 3) := by decide +kernel
theorem dX6_set_20 : decode cX6_set 20 = .ok (.ifCond .eq 29, 3) := by decide +kernel
theorem dX6_set_23 : decode cX6_set 23 = .ok (.goto 29, 3) := by decide +kernel
theorem dX6_set_26 : decode cX6_set 26 = .ok (.iload_n 2, 1) := by decide +kernel
theorem dX6_set_27 : decode cX6_set 27 = .ok (.i2l, 1) := by decide +kernel
theorem dX6_set_28 : decode cX6_set 28 = .ok (.lconst 0, 1) := by decide +kernel
theorem dX6_set_29 : decode cX6_set 29 = .ok (.iload_n 1, 1) := by decide +kernel
theorem dX6_set_30 : decode cX6_set 30 = .ok (.iconst 1, 1) := by decide +kernel
theorem dX6_set_31 : decode cX6_set 31 = .ok (.if_icmp .ne 9, 3) := by decide +kernel
theorem dX6_set_34 : decode cX6_set 34 = .ok (.ldc2_w 110, 3) := by decide +kernel
theorem dX6_set_37 : decode cX6_set 37 = .ok (.goto 6, 3) := by decide +kernel
theorem dX6_set_40 : decode cX6_set 40 = .ok (.ldc2_w 81, 3) := by decide +kernel
theorem dX6_set_43 : decode cX6_set 43 = .ok (.invokestatic 75, 3) := by decide +kernel
theorem dX6_set_46 : decode cX6_set 46 = .ok (.ifCond .ne 6, 3) := by decide +kernel
theorem dX6_set_49 : decode cX6_set 49 = .ok (.ldc 97, 2) := by decide +kernel
theorem dX6_set_51 : decode cX6_set 51 = .ok (.ireturn, 1) := by decide +kernel
theorem dX6_set_52 : decode cX6_set 52 = .ok (.iload_n 1, 1) := by decide +kernel
theorem dX6_set_53 : decode cX6_set 53 = .ok (.ifCond .ne 10, 3) := by decide +kernel
theorem dX6_set_56 : decode cX6_set 56 = .ok (.aload_n 0, 1) := by decide +kernel
theorem dX6_set_57 : decode cX6_set 57 = .ok (.getfield 112, 3) := by decide +kernel
theorem dX6_set_60 : decode cX6_set 60 = .ok (.goto 19, 3) := by decide +kernel
theorem dX6_set_63 : decode cX6_set 63 = .ok (.iload_n 1, 1) := by decide +kernel
theorem dX6_set_64 : decode cX6_set 64 = .ok (.iconst 1, 1) := by decide +kernel
theorem dX6_set_65 : decode cX6_set 65 = .ok (.if_icmp .ne 10, 3) := by decide +kernel
theorem dX6_set_68 : decode cX6_set 68 = .ok (.aload_n 0, 1) := by decide +kernel
theorem dX6_set_69 : decode cX6_set 69 = .ok (.getfield 25, 3) := by decide +kernel
theorem dX6_set_72 : decode cX6_set 72 = .ok (.goto 7, 3) := by decide +kernel
theorem dX6_set_75 : decode cX6_set 75 = .ok (.aload_n 0, 1) := by decide +kernel
theorem dX6_set_76 : decode cX6_set 76 = .ok (.getfield 29, 3) := by decide +kernel
theorem dX6_set_79 : decode cX6_set 79 = .ok (.istore_n 3, 1) := by decide +kernel
theorem dX6_set_80 : decode cX6_set 80 = .ok (.aload_n 0, 1) := by decide +kernel
theorem dX6_set_81 : decode cX6_set 81 = .ok (.iload_n 1, 1) := by decide +kernel
theorem dX6_set_82 : decode cX6_set 82 = .ok (.ifCond .ne 7, 3) := by decide +kernel
theorem dX6_set_85 : decode cX6_set 85 = .ok (.iload_n 2, 1) := by decide +kernel
theorem dX6_set_86 : decode cX6_set 86 = .ok (.goto 7, 3) := by decide +kernel
theorem dX6_set_89 : decode cX6_set 89 = .ok (.aload_n 0, 1) := by decide +kernel
theorem dX6_set_90 : decode cX6_set 90 = .ok (.getfield 112, 3) := by decide +kernel
theorem dX6_set_93 : decode cX6_set 93 = .ok (.putfield 112, 3) := by decide +kernel
theorem dX6_set_96 : decode cX6_set 96 = .ok (.aload_n 0, 1) := by decide +kernel
theorem dX6_set_97 : decode cX6_set 97 = .ok (.iload_n 1, 1) := by decide +kernel
theorem dX6_set_98 : decode cX6_set 98 = .ok (.iconst 1, 1) := by decide +kernel
theorem dX6_set_99 : decode cX6_set 99 = .ok (.if_icmp .ne 7, 3) := by decide +kernel
theorem dX6_set_102 : decode cX6_set 102 = .ok (.iload_n 2, 1) := by decide +kernel
theorem dX6_set_103 : decode cX6_set 103 = .ok (.goto 7, 3) := by decide +kernel
theorem dX6_set_106 : decode cX6_set 106 = .ok (.aload_n 0, 1) := by decide +kernel
theorem dX6_set_107 : decode cX6_set 107 = .ok (.getfield 25, 3) := by decide +kernel
theorem dX6_set_110 : decode cX6_set 110 = .ok (.putfield 25, 3) := by decide +kernel
theorem dX6_set_113 : decode cX6_set 113 = .ok (.aload_n 0, 1) := by decide +kernel
theorem dX6_set_114 : decode cX6_set 114 = .ok (.iload_n 1, 1) := by decide +kernel
theorem dX6_set_115 : decode cX6_set 115 = .ok (.iconst 2, 1) := by decide +kernel
theorem dX6_set_116 : decode cX6_set 116 = .ok (.if_icmp .ne 7, 3) := by decide +kernel
theorem dX6_set_119 : decode cX6_set 119 = .ok (.iload_n 2, 1) := by decide +kernel
theorem dX6_set_120 : decode cX6_set 120 = .ok (.goto 7, 3) := by decide +kernel
theorem dX6_set_123 : decode cX6_set 123 = .ok (.aload_n 0, 1) := by decide +kernel
theorem dX6_set_124 : decode cX6_set 124 = .ok (.getfield 29, 3) := by decide +kernel
theorem dX6_set_127 : decode cX6_set 127 = .ok (.putfield 29, 3) := by decide +kernel
theorem dX6_set_130 : decode cX6_set 130 = .ok (.iload_n 3, 1) := by decide +kernel
theorem dX6_set_131 : decode cX6_set 131 = .ok (.ireturn, 1) := by decide +kernel
theorem dX6_is_0 : decode cX6_is 0 = .ok (.iload_n 1, 1) := by decide +kernel
theorem dX6_is_1 : decode cX6_is 1 = .ok (.tableswitch 96 0 8 #[51, 56, 61, 66, 71, 76, 81, 86, 91], 51) := by decide +kernel
theorem dX6_is_52 : decode cX6_is 52 = .ok (.aload_n 0, 1) := by decide +kernel
theorem dX6_is_53 : decode cX6_is 53 = .ok (.getfield 112, 3) := by decide +kernel
theorem dX6_is_56 : decode cX6_is 56 = .ok (.ireturn, 1) := by decide +kernel
theorem dX6_is_57 : decode cX6_is 57 = .ok (.aload_n 0, 1) := by decide +kernel
theorem dX6_is_58 : decode cX6_is 58 = .ok (.getfield 25, 3) := by decide +kernel
theorem dX6_is_61 : decode cX6_is 61 = .ok (.ireturn, 1) := by decide +kernel
theorem dX6_is_62 : decode cX6_is 62 = .ok (.aload_n 0, 1) := by decide +kernel
theorem dX6_is_63 : decode cX6_is 63 = .ok (.getfield 29, 3) := by decide +kernel
theorem dX6_is_66 : decode cX6_is 66 = .ok (.ireturn, 1) := by decide +kernel
theorem dX6_is_67 : decode cX6_is 67 = .ok (.aload_n 0, 1) := by decide +kernel
theorem dX6_is_68 : decode cX6_is 68 = .ok (.getfield 115, 3) := by decide +kernel
theorem dX6_is_71 : decode cX6_is 71 = .ok (.ireturn, 1) := by decide +kernel
theorem dX6_is_72 : decode cX6_is 72 = .ok (.aload_n 0, 1) := by decide +kernel
theorem dX6_is_73 : decode cX6_is 73 = .ok (.getfield 118, 3) := by decide +kernel
theorem dX6_is_76 : decode cX6_is 76 = .ok (.ireturn, 1) := by decide +kernel
theorem dX6_is_77 : decode cX6_is 77 = .ok (.aload_n 0, 1) := by decide +kernel
theorem dX6_is_78 : decode cX6_is 78 = .ok (.getfield 98, 3) := by decide +kernel
theorem dX6_is_81 : decode cX6_is 81 = .ok (.ireturn, 1) := by decide +kernel
theorem dX6_is_82 : decode cX6_is 82 = .ok (.aload_n 0, 1) := by decide +kernel
theorem dX6_is_83 : decode cX6_is 83 = .ok (.getfield 72, 3) := by decide +kernel
theorem dX6_is_86 : decode cX6_is 86 = .ok (.ireturn, 1) := by decide +kernel
theorem dX6_is_87 : decode cX6_is 87 = .ok (.aload_n 0, 1) := by decide +kernel
theorem dX6_is_88 : decode cX6_is 88 = .ok (.getfield 121, 3) := by decide +kernel
theorem dX6_is_91 : decode cX6_is 91 = .ok (.ireturn, 1) := by decide +kernel
theorem dX6_is_92 : decode cX6_is 92 = .ok (.aload_n 0, 1) := by decide +kernel
theorem dX6_is_93 : decode cX6_is 93 = .ok (.getfield 32, 3) := by decide +kernel
theorem dX6_is_96 : decode cX6_is 96 = .ok (.ireturn, 1) := by decide +kernel
theorem dX6_is_97 : decode cX6_is 97 = .ok (.ldc 97, 2) := by decide +kernel
theorem dX6_is_99 : decode cX6_is 99 = .ok (.ireturn, 1) := by decide +kernel
theorem dX6_type_0 : decode cX6_type 0 = .ok (.iload_n 3, 1) := by decide +kernel
theorem dX6_type_1 : decode cX6_type 1 = .ok (.i2l, 1) := by decide +kernel
theorem dX6_type_2 : decode cX6_type 2 = .ok (.lconst 1, 1) := by decide +kernel
theorem dX6_type_3 : decode cX6_type 3 = .ok (.ldc2_w 124, 3) := by decide +kernel
theorem dX6_type_6 : decode cX6_type 6 = .ok (.invokestatic 75, 3) := by decide +kernel
theorem dX6_type_9 : decode cX6_type 9 = .ok (.ifCond .ne 5, 3) := by decide +kernel
theorem dX6_type_12 : decode cX6_type 12 = .ok (.iconst (-1), 1) := by decide +kernel
theorem dX6_type_13 : decode cX6_type 13 = .ok (.ireturn, 1) := by decide +kernel
theorem dX6_type_14 : decode cX6_type 14 = .ok (.iload_n 3, 1) := by decide +kernel
theorem dX6_type_15 : decode cX6_type 15 = .ok (.iconst 1, 1) := by decide +kernel
theorem dX6_type_16 : decode cX6_type 16 = .ok (.isub, 1) := by decide +kernel
theorem dX6_type_17 : decode cX6_type 17 = .ok (.istore 4, 2) := by decide +kernel
theorem dX6_type_19 : decode cX6_type 19 = .ok (.iload 4, 2) := by decide +kernel
theorem dX6_type_21 : decode cX6_type 21 = .ok (.ifCond .lt 34, 3) := by decide +kernel
theorem dX6_type_24 : decode cX6_type 24 = .ok (.lload_n 1, 1) := by decide +kernel
theorem dX6_type_25 : decode cX6_type 25 = .ok (.bipush 8, 2) := by decide +kernel
theorem dX6_type_27 : decode cX6_type 27 = .ok (.iload 4, 2) := by decide +kernel
theorem dX6_type_29 : decode cX6_type 29 = .ok (.imul, 1) := by decide +kernel
theorem dX6_type_30 : decode cX6_type 30 = .ok (.lshr, 1) := by decide +kernel
theorem dX6_type_31 : decode cX6_type 31 = .ok (.ldc2_w 126, 3) := by decide +kernel
theorem dX6_type_34 : decode cX6_type 34 = .ok (.land, 1) := by decide +kernel
theorem dX6_type_35 : decode cX6_type 35 = .ok (.ldc2_w 128, 3) := by decide +kernel
theorem dX6_type_38 : decode cX6_type 38 = .ok (.ldc2_w 130, 3) := by decide +kernel
theorem dX6_type_41 : decode cX6_type 41 = .ok (.invokestatic 75, 3) := by decide +kernel
theorem dX6_type_44 : decode cX6_type 44 = .ok (.ifCond .ne 5, 3) := by decide +kernel
theorem dX6_type_47 : decode cX6_type 47 = .ok (.iconst (-1), 1) := by decide +kernel
theorem dX6_type_48 : decode cX6_type 48 = .ok (.ireturn, 1) := by decide +kernel
theorem dX6_type_49 : decode cX6_type 49 = .ok (.iinc 4 (-1), 3) := by decide +kernel
theorem dX6_type_52 : decode cX6_type 52 = .ok (.goto (-33), 3) := by decide +kernel
theorem dX6_type_55 : decode cX6_type 55 = .ok (.aload_n 0, 1) := by decide +kernel
theorem dX6_type_56 : decode cX6_type 56 = .ok (.getfield 132, 3) := by decide +kernel
theorem dX6_type_59 : decode cX6_type 59 = .ok (.iload_n 3, 1) := by decide +kernel
theorem dX6_type_60 : decode cX6_type 60 = .ok (.iadd, 1) := by decide +kernel
theorem dX6_type_61 : decode cX6_type 61 = .ok (.bipush 60, 2) := by decide +kernel
theorem dX6_type_63 : decode cX6_type 63 = .ok (.if_icmp .le 6, 3) := by decide +kernel
theorem dX6_type_66 : decode cX6_type 66 = .ok (.bipush (-3), 2) := by decide +kernel
theorem dX6_type_68 : decode cX6_type 68 = .ok (.ireturn, 1) := by decide +kernel
theorem dX6_type_69 : decode cX6_type 69 = .ok (.iload_n 3, 1) := by decide +kernel
theorem dX6_type_70 : decode cX6_type 70 = .ok (.iconst 1, 1) := by decide +kernel
theorem dX6_type_71 : decode cX6_type 71 = .ok (.isub, 1) := by decide +kernel
theorem dX6_type_72 : decode cX6_type 72 = .ok (.istore 4, 2) := by decide +kernel
theorem dX6_type_74 : decode cX6_type 74 = .ok (.iload 4, 2) := by decide +kernel
theorem dX6_type_76 : decode cX6_type 76 = .ok (.ifCond .lt 40, 3) := by decide +kernel
theorem dX6_type_79 : decode cX6_type 79 = .ok (.aload_n 0, 1) := by decide +kernel
theorem dX6_type_80 : decode cX6_type 80 = .ok (.getfield 41, 3) := by decide +kernel
theorem dX6_type_83 : decode cX6_type 83 = .ok (.aload_n 0, 1) := by decide +kernel
theorem dX6_type_84 : decode cX6_type 84 = .ok (.getfield 132, 3) := by decide +kernel
theorem dX6_type_87 : decode cX6_type 87 = .ok (.lload_n 1, 1) := by decide +kernel
theorem dX6_type_88 : decode cX6_type 88 = .ok (.bipush 8, 2) := by decide +kernel
theorem dX6_type_90 : decode cX6_type 90 = .ok (.iload 4, 2) := by decide +kernel
theorem dX6_type_92 : decode cX6_type 92 = .ok (.imul, 1) := by decide +kernel
theorem dX6_type_93 : decode cX6_type 93 = .ok (.lshr, 1) := by decide +kernel
theorem dX6_type_94 : decode cX6_type 94 = .ok (.ldc2_w 126, 3) := by decide +kernel
theorem dX6_type_97 : decode cX6_type 97 = .ok (.land, 1) := by decide +kernel
theorem dX6_type_98 : decode cX6_type 98 = .ok (.l2i, 1) := by decide +kernel
theorem dX6_type_99 : decode cX6_type 99 = .ok (.iastore, 1) := by decide +kernel
theorem dX6_type_100 : decode cX6_type 100 = .ok (.aload_n 0, 1) := by decide +kernel
theorem dX6_type_101 : decode cX6_type 101 = .ok (.dup, 1) := by decide +kernel
theorem dX6_type_102 : decode cX6_type 102 = .ok (.getfield 132, 3) := by decide +kernel
theorem dX6_type_105 : decode cX6_type 105 = .ok (.iconst 1, 1) := by decide +kernel
theorem dX6_type_106 : decode cX6_type 106 = .ok (.iadd, 1) := by decide +kernel
theorem dX6_type_107 : decode cX6_type 107 = .ok (.putfield 132, 3) := by decide +kernel
theorem dX6_type_110 : decode cX6_type 110 = .ok (.iinc 4 (-1), 3) := by decide +kernel
theorem dX6_type_113 : decode cX6_type 113 = .ok (.goto (-39), 3) := by decide +kernel
theorem dX6_type_116 : decode cX6_type 116 = .ok (.aload_n 0, 1) := by decide +kernel
theorem dX6_type_117 : decode cX6_type 117 = .ok (.getfield 132, 3) := by decide +kernel
theorem dX6_type_120 : decode cX6_type 120 = .ok (.ireturn, 1) := by decide +kernel
theorem dX6_nextByte_0 : decode cX6_nextByte 0 = .ok (.aload_n 0, 1) := by decide +kernel
theorem dX6_nextByte_1 : decode cX6_nextByte 1 = .ok (.getfield 135, 3) := by decide +kernel
theorem dX6_nextByte_4 : decode cX6_nextByte 4 = .ok (.aload_n 0, 1) := by decide +kernel
theorem dX6_nextByte_5 : decode cX6_nextByte 5 = .ok (.getfield 132, 3) := by decide +kernel
theorem dX6_nextByte_8 : decode cX6_nextByte 8 = .ok (.if_icmp .ge 30, 3) := by decide +kernel
theorem dX6_nextByte_11 : decode cX6_nextByte 11 = .ok (.aload_n 0, 1) := by decide +kernel
theorem dX6_nextByte_12 : decode cX6_nextByte 12 = .ok (.getfield 41, 3) := by decide +kernel
theorem dX6_nextByte_15 : decode cX6_nextByte 15 = .ok (.aload_n 0, 1) := by decide +kernel
theorem dX6_nextByte_16 : decode cX6_nextByte 16 = .ok (.getfield 135, 3) := by decide +kernel
theorem dX6_nextByte_19 : decode cX6_nextByte 19 = .ok (.iaload, 1) := by decide +kernel
theorem dX6_nextByte_20 : decode cX6_nextByte 20 = .ok (.bipush 32, 2) := by decide +kernel
theorem dX6_nextByte_22 : decode cX6_nextByte 22 = .ok (.if_icmp .ne 16, 3) := by decide +kernel
theorem dX6_nextByte_25 : decode cX6_nextByte 25 = .ok (.aload_n 0, 1) := by decide +kernel
theorem dX6_nextByte_26 : decode cX6_nextByte 26 = .ok (.dup, 1) := by decide +kernel
theorem dX6_nextByte_27 : decode cX6_nextByte 27 = .ok (.getfield 135, 3) := by decide +kernel
theorem dX6_nextByte_30 : decode cX6_nextByte 30 = .ok (.iconst 1, 1) := by decide +kernel
theorem dX6_nextByte_31 : decode cX6_nextByte 31 = .ok (.iadd, 1) := by decide +kernel
theorem dX6_nextByte_32 : decode cX6_nextByte 32 = .ok (.putfield 135, 3) := by decide +kernel
theorem dX6_nextByte_35 : decode cX6_nextByte 35 = .ok (.goto (-35), 3) := by decide +kernel
theorem dX6_nextByte_38 : decode cX6_nextByte 38 = .ok (.aload_n 0, 1) := by decide +kernel
theorem dX6_nextByte_39 : decode cX6_nextByte 39 = .ok (.getfield 135, 3) := by decide +kernel
theorem dX6_nextByte_42 : decode cX6_nextByte 42 = .ok (.aload_n 0, 1) := by decide +kernel
theorem dX6_nextByte_43 : decode cX6_nextByte 43 = .ok (.getfield 132, 3) := by decide +kernel
theorem dX6_nextByte_46 : decode cX6_nextByte 46 = .ok (.if_icmp .ge 15, 3) := by decide +kernel
theorem dX6_nextByte_49 : decode cX6_nextByte 49 = .ok (.aload_n 0, 1) := by decide +kernel
theorem dX6_nextByte_50 : decode cX6_nextByte 50 = .ok (.getfield 41, 3) := by decide +kernel
theorem dX6_nextByte_53 : decode cX6_nextByte 53 = .ok (.aload_n 0, 1) := by decide +kernel
theorem dX6_nextByte_54 : decode cX6_nextByte 54 = .ok (.getfield 135, 3) := by decide +kernel
theorem dX6_nextByte_57 : decode cX6_nextByte 57 = .ok (.iaload, 1) := by decide +kernel
theorem dX6_nextByte_58 : decode cX6_nextByte 58 = .ok (.goto 4, 3) := by decide +kernel
theorem dX6_nextByte_61 : decode cX6_nextByte 61 = .ok (.iconst (-1), 1) := by decide +kernel
theorem dX6_nextByte_62 : decode cX6_nextByte 62 = .ok (.ireturn, 1) := by decide +kernel
theorem dX6_readDigit_0 : decode cX6_readDigit 0 = .ok (.aload_n 0, 1) := by decide +kernel
theorem dX6_readDigit_1 : decode cX6_readDigit 1 = .ok (.invokevirtual 138, 3) := by decide +kernel
theorem dX6_readDigit_4 : decode cX6_readDigit 4 = .ok (.bipush 48, 2) := by decide +kernel
theorem dX6_readDigit_6 : decode cX6_readDigit 6 = .ok (.isub, 1) := by decide +kernel
theorem dX6_readDigit_7 : decode cX6_readDigit 7 = .ok (.istore_n 3, 1) := by decide +kernel
theorem dX6_readDigit_8 : decode cX6_readDigit 8 = .ok (.iload_n 3, 1) := by decide +kernel
theorem dX6_readDigit_9 : decode cX6_readDigit 9 = .ok (.i2l, 1) := by decide +kernel
theorem dX6_readDigit_10 : decode cX6_readDigit 10 = .ok (.iload_n 1, 1) := by decide +kernel
theorem dX6_readDigit_11 : decode cX6_readDigit 11 = .ok (.i2l, 1) := by decide +kernel
theorem dX6_readDigit_12 : decode cX6_readDigit 12 = .ok (.iload_n 2, 1) := by decide +kernel
theorem dX6_readDigit_13 : decode cX6_readDigit 13 = .ok (.i2l, 1) := by decide +kernel
theorem dX6_readDigit_14 : decode cX6_readDigit 14 = .ok (.invokestatic 75, 3) := by decide +kernel
theorem dX6_readDigit_17 : decode cX6_readDigit 17 = .ok (.ifCond .ne 5, 3) := by decide +kernel
theorem dX6_readDigit_20 : decode cX6_readDigit 20 = .ok (.iconst (-1), 1) := by decide +kernel
theorem dX6_readDigit_21 : decode cX6_readDigit 21 = .ok (.ireturn, 1) := by decide +kernel
theorem dX6_readDigit_22 : decode cX6_readDigit 22 = .ok (.aload_n 0, 1) := by decide +kernel
theorem dX6_readDigit_23 : decode cX6_readDigit 23 = .ok (.dup, 1) := by decide +kernel
theorem dX6_readDigit_24 : decode cX6_readDigit 24 = .ok (.getfield 135, 3) := by decide +kernel
theorem dX6_readDigit_27 : decode cX6_readDigit 27 = .ok (.iconst 1, 1) := by decide +kernel
theorem dX6_readDigit_28 : decode cX6_readDigit 28 = .ok (.iadd, 1) := by decide +kernel
theorem dX6_readDigit_29 : decode cX6_readDigit 29 = .ok (.putfield 135, 3) := by decide +kernel
theorem dX6_readDigit_32 : decode cX6_readDigit 32 = .ok (.iload_n 3, 1) := by decide +kernel
theorem dX6_readDigit_33 : decode cX6_readDigit 33 = .ok (.ireturn, 1) := by decide +kernel
theorem dX6_readOne_0 : decode cX6_readOne 0 = .ok (.aload_n 0, 1) := by decide +kernel
theorem dX6_readOne_1 : decode cX6_readOne 1 = .ok (.invokevirtual 138, 3) := by decide +kernel
theorem dX6_readOne_4 : decode cX6_readOne 4 = .ok (.istore_n 2, 1) := by decide +kernel
theorem dX6_readOne_5 : decode cX6_readOne 5 = .ok (.aload_n 0, 1) := by decide +kernel
theorem dX6_readOne_6 : decode cX6_readOne 6 = .ok (.getfield 44, 3) := by decide +kernel
theorem dX6_readOne_9 : decode cX6_readOne 9 = .ok (.iload_n 1, 1) := by decide +kernel
theorem dX6_readOne_10 : decode cX6_readOne 10 = .ok (.iload_n 2, 1) := by decide +kernel
theorem dX6_readOne_11 : decode cX6_readOne 11 = .ok (.bipush 112, 2) := by decide +kernel
theorem dX6_readOne_13 : decode cX6_readOne 13 = .ok (.if_icmp .ne 7, 3) := by decide +kernel
theorem dX6_readOne_16 : decode cX6_readOne 16 = .ok (.iconst 0, 1) := by decide +kernel
theorem dX6_readOne_17 : decode cX6_readOne 17 = .ok (.goto 34, 3) := by decide +kernel
theorem dX6_readOne_20 : decode cX6_readOne 20 = .ok (.iload_n 2, 1) := by decide +kernel
theorem dX6_readOne_21 : decode cX6_readOne 21 = .ok (.bipush 115, 2) := by decide +kernel
theorem dX6_readOne_23 : decode cX6_readOne 23 = .ok (.if_icmp .ne 7, 3) := by decide +kernel
theorem dX6_readOne_26 : decode cX6_readOne 26 = .ok (.iconst 1, 1) := by decide +kernel
theorem dX6_readOne_27 : decode cX6_readOne 27 = .ok (.goto 24, 3) := by decide +kernel
theorem dX6_readOne_30 : decode cX6_readOne 30 = .ok (.iload_n 2, 1) := by decide +kernel
theorem dX6_readOne_31 : decode cX6_readOne 31 = .ok (.bipush 118, 2) := by decide +kernel
theorem dX6_readOne_33 : decode cX6_readOne 33 = .ok (.if_icmp .ne 7, 3) := by decide +kernel
theorem dX6_readOne_36 : decode cX6_readOne 36 = .ok (.iconst 2, 1) := by decide +kernel
theorem dX6_readOne_37 : decode cX6_readOne 37 = .ok (.goto 14, 3) := by decide +kernel
theorem dX6_readOne_40 : decode cX6_readOne 40 = .ok (.iload_n 2, 1) := by decide +kernel
theorem dX6_readOne_41 : decode cX6_readOne 41 = .ok (.bipush 109, 2) := by decide +kernel
theorem dX6_readOne_43 : decode cX6_readOne 43 = .ok (.if_icmp .ne 7, 3) := by decide +kernel
theorem dX6_readOne_46 : decode cX6_readOne 46 = .ok (.iconst 3, 1) := by decide +kernel
theorem dX6_readOne_47 : decode cX6_readOne 47 = .ok (.goto 4, 3) := by decide +kernel
theorem dX6_readOne_50 : decode cX6_readOne 50 = .ok (.iconst (-1), 1) := by decide +kernel
theorem dX6_readOne_51 : decode cX6_readOne 51 = .ok (.iastore, 1) := by decide +kernel
theorem dX6_readOne_52 : decode cX6_readOne 52 = .ok (.aload_n 0, 1) := by decide +kernel
theorem dX6_readOne_53 : decode cX6_readOne 53 = .ok (.getfield 44, 3) := by decide +kernel
theorem dX6_readOne_56 : decode cX6_readOne 56 = .ok (.iload_n 1, 1) := by decide +kernel
theorem dX6_readOne_57 : decode cX6_readOne 57 = .ok (.iaload, 1) := by decide +kernel
theorem dX6_readOne_58 : decode cX6_readOne 58 = .ok (.ifCond .ge 5, 3) := by decide +kernel
theorem dX6_readOne_61 : decode cX6_readOne 61 = .ok (.iconst 0, 1) := by decide +kernel
theorem dX6_readOne_62 : decode cX6_readOne 62 = .ok (.ireturn, 1) := by decide +kernel
theorem dX6_readOne_63 : decode cX6_readOne 63 = .ok (.aload_n 0, 1) := by decide +kernel
theorem dX6_readOne_64 : decode cX6_readOne 64 = .ok (.dup, 1) := by decide +kernel
theorem dX6_readOne_65 : decode cX6_readOne 65 = .ok (.getfield 135, 3) := by decide +kernel
theorem dX6_readOne_68 : decode cX6_readOne 68 = .ok (.iconst 1, 1) := by decide +kernel
theorem dX6_readOne_69 : decode cX6_readOne 69 = .ok (.iadd, 1) := by decide +kernel
theorem dX6_readOne_70 : decode cX6_readOne 70 = .ok (.putfield 135, 3) := by decide +kernel
theorem dX6_readOne_73 : decode cX6_readOne 73 = .ok (.aload_n 0, 1) := by decide +kernel
theorem dX6_readOne_74 : decode cX6_readOne 74 = .ok (.getfield 44, 3) := by decide +kernel
theorem dX6_readOne_77 : decode cX6_readOne 77 = .ok (.iload_n 1, 1) := by decide +kernel
theorem dX6_readOne_78 : decode cX6_readOne 78 = .ok (.iconst 1, 1) := by decide +kernel
theorem dX6_readOne_79 : decode cX6_readOne 79 = .ok (.iadd, 1) := by decide +kernel
theorem dX6_readOne_80 : decode cX6_readOne 80 = .ok (.iconst 0, 1) := by decide +kernel
theorem dX6_readOne_81 : decode cX6_readOne 81 = .ok (.iastore, 1) := by decide +kernel
theorem dX6_readOne_82 : decode cX6_readOne 82 = .ok (.aload_n 0, 1) := by decide +kernel
theorem dX6_readOne_83 : decode cX6_readOne 83 = .ok (.invokevirtual 138, 3) := by decide +kernel
theorem dX6_readOne_86 : decode cX6_readOne 86 = .ok (.istore_n 3, 1) := by decide +kernel
theorem dX6_readOne_87 : decode cX6_readOne 87 = .ok (.iload_n 3, 1) := by decide +kernel
theorem dX6_readOne_88 : decode cX6_readOne 88 = .ok (.bipush 43, 2) := by decide +kernel
theorem dX6_readOne_90 : decode cX6_readOne 90 = .ok (.if_icmp .eq 9, 3) := by decide +kernel
theorem dX6_readOne_93 : decode cX6_readOne 93 = .ok (.iload_n 3, 1) := by decide +kernel
theorem dX6_readOne_94 : decode cX6_readOne 94 = .ok (.bipush 45, 2) := by decide +kernel
theorem dX6_readOne_96 : decode cX6_readOne 96 = .ok (.if_icmp .ne 50, 3) := by decide +kernel
theorem dX6_readOne_99 : decode cX6_readOne 99 = .ok (.aload_n 0, 1) := by decide +kernel
theorem dX6_readOne_100 : decode cX6_readOne 100 = .ok (.dup, 1) := by decide +kernel
theorem dX6_readOne_101 : decode cX6_readOne 101 = .ok (.getfield 135, 3) := by decide +kernel
theorem dX6_readOne_104 : decode cX6_readOne 104 = .ok (.iconst 1, 1) := by decide +kernel
theorem dX6_readOne_105 : decode cX6_readOne 105 = .ok (.iadd, 1) := by decide +kernel
theorem dX6_readOne_106 : decode cX6_readOne 106 = .ok (.putfield 135, 3) := by decide +kernel
theorem dX6_readOne_109 : decode cX6_readOne 109 = .ok (.aload_n 0, 1) := by decide +kernel
theorem dX6_readOne_110 : decode cX6_readOne 110 = .ok (.iconst 0, 1) := by decide +kernel
theorem dX6_readOne_111 : decode cX6_readOne 111 = .ok (.iconst 3, 1) := by decide +kernel
theorem dX6_readOne_112 : decode cX6_readOne 112 = .ok (.invokevirtual 142, 3) := by decide +kernel
theorem dX6_readOne_115 : decode cX6_readOne 115 = .ok (.istore 4, 2) := by decide +kernel
theorem dX6_readOne_117 : decode cX6_readOne 117 = .ok (.iload 4, 2) := by decide +kernel
theorem dX6_readOne_119 : decode cX6_readOne 119 = .ok (.ifCond .ge 5, 3) := by decide +kernel
theorem dX6_readOne_122 : decode cX6_readOne 122 = .ok (.iconst 0, 1) := by decide +kernel
theorem dX6_readOne_123 : decode cX6_readOne 123 = .ok (.ireturn, 1) := by decide +kernel
theorem dX6_readOne_124 : decode cX6_readOne 124 = .ok (.aload_n 0, 1) := by decide +kernel
theorem dX6_readOne_125 : decode cX6_readOne 125 = .ok (.getfield 44, 3) := by decide +kernel
theorem dX6_readOne_128 : decode cX6_readOne 128 = .ok (.iload_n 1, 1) := by decide +kernel
theorem dX6_readOne_129 : decode cX6_readOne 129 = .ok (.iconst 1, 1) := by decide +kernel
theorem dX6_readOne_130 : decode cX6_readOne 130 = .ok (.iadd, 1) := by decide +kernel
theorem dX6_readOne_131 : decode cX6_readOne 131 = .ok (.iload_n 3, 1) := by decide +kernel
theorem dX6_readOne_132 : decode cX6_readOne 132 = .ok (.bipush 43, 2) := by decide +kernel
theorem dX6_readOne_134 : decode cX6_readOne 134 = .ok (.if_icmp .ne 8, 3) := by decide +kernel
theorem dX6_readOne_137 : decode cX6_readOne 137 = .ok (.iload 4, 2) := by decide +kernel
theorem dX6_readOne_139 : decode cX6_readOne 139 = .ok (.goto 6, 3) := by decide +kernel
theorem dX6_readOne_142 : decode cX6_readOne 142 = .ok (.iload 4, 2) := by decide +kernel
theorem dX6_readOne_144 : decode cX6_readOne 144 = .ok (.ineg, 1) := by decide +kernel
theorem dX6_readOne_145 : decode cX6_readOne 145 = .ok (.iastore, 1) := by decide +kernel
theorem dX6_readOne_146 : decode cX6_readOne 146 = .ok (.aload_n 0, 1) := by decide +kernel
theorem dX6_readOne_147 : decode cX6_readOne 147 = .ok (.getfield 44, 3) := by decide +kernel
theorem dX6_readOne_150 : decode cX6_readOne 150 = .ok (.iload_n 1, 1) := by decide +kernel
theorem dX6_readOne_151 : decode cX6_readOne 151 = .ok (.iconst 2, 1) := by decide +kernel
theorem dX6_readOne_152 : decode cX6_readOne 152 = .ok (.iadd, 1) := by decide +kernel
theorem dX6_readOne_153 : decode cX6_readOne 153 = .ok (.iconst 1, 1) := by decide +kernel
theorem dX6_readOne_154 : decode cX6_readOne 154 = .ok (.iastore, 1) := by decide +kernel
theorem dX6_readOne_155 : decode cX6_readOne 155 = .ok (.aload_n 0, 1) := by decide +kernel
theorem dX6_readOne_156 : decode cX6_readOne 156 = .ok (.invokevirtual 138, 3) := by decide +kernel
theorem dX6_readOne_159 : decode cX6_readOne 159 = .ok (.bipush 114, 2) := by decide +kernel
theorem dX6_readOne_161 : decode cX6_readOne 161 = .ok (.if_icmp .ne 28, 3) := by decide +kernel
theorem dX6_readOne_164 : decode cX6_readOne 164 = .ok (.aload_n 0, 1) := by decide +kernel
theorem dX6_readOne_165 : decode cX6_readOne 165 = .ok (.dup, 1) := by decide +kernel
theorem dX6_readOne_166 : decode cX6_readOne 166 = .ok (.getfield 135, 3) := by decide +kernel
theorem dX6_readOne_169 : decode cX6_readOne 169 = .ok (.iconst 1, 1) := by decide +kernel
theorem dX6_readOne_170 : decode cX6_readOne 170 = .ok (.iadd, 1) := by decide +kernel
theorem dX6_readOne_171 : decode cX6_readOne 171 = .ok (.putfield 135, 3) := by decide +kernel
theorem dX6_readOne_174 : decode cX6_readOne 174 = .ok (.aload_n 0, 1) := by decide +kernel
theorem dX6_readOne_175 : decode cX6_readOne 175 = .ok (.getfield 44, 3) := by decide +kernel
theorem dX6_readOne_178 : decode cX6_readOne 178 = .ok (.iload_n 1, 1) := by decide +kernel
theorem dX6_readOne_179 : decode cX6_readOne 179 = .ok (.iconst 2, 1) := by decide +kernel
theorem dX6_readOne_180 : decode cX6_readOne 180 = .ok (.iadd, 1) := by decide +kernel
theorem dX6_readOne_181 : decode cX6_readOne 181 = .ok (.aload_n 0, 1) := by decide +kernel
theorem dX6_readOne_182 : decode cX6_readOne 182 = .ok (.iconst 1, 1) := by decide +kernel
theorem dX6_readOne_183 : decode cX6_readOne 183 = .ok (.bipush 9, 2) := by decide +kernel
theorem dX6_readOne_185 : decode cX6_readOne 185 = .ok (.invokevirtual 142, 3) := by decide +kernel
theorem dX6_readOne_188 : decode cX6_readOne 188 = .ok (.iastore, 1) := by decide +kernel
theorem dX6_readOne_189 : decode cX6_readOne 189 = .ok (.aload_n 0, 1) := by decide +kernel
theorem dX6_readOne_190 : decode cX6_readOne 190 = .ok (.getfield 44, 3) := by decide +kernel
theorem dX6_readOne_193 : decode cX6_readOne 193 = .ok (.iload_n 1, 1) := by decide +kernel
theorem dX6_readOne_194 : decode cX6_readOne 194 = .ok (.iconst 2, 1) := by decide +kernel
theorem dX6_readOne_195 : decode cX6_readOne 195 = .ok (.iadd, 1) := by decide +kernel
theorem dX6_readOne_196 : decode cX6_readOne 196 = .ok (.iaload, 1) := by decide +kernel
theorem dX6_readOne_197 : decode cX6_readOne 197 = .ok (.ifCond .le 7, 3) := by decide +kernel
theorem dX6_readOne_200 : decode cX6_readOne 200 = .ok (.iconst 1, 1) := by decide +kernel
theorem dX6_readOne_201 : decode cX6_readOne 201 = .ok (.goto 4, 3) := by decide +kernel
theorem dX6_readOne_204 : decode cX6_readOne 204 = .ok (.iconst 0, 1) := by decide +kernel
theorem dX6_readOne_205 : decode cX6_readOne 205 = .ok (.ireturn, 1) := by decide +kernel
theorem dX6_readVillage_0 : decode cX6_readVillage 0 = .ok (.aload_n 0, 1) := by decide +kernel
theorem dX6_readVillage_1 : decode cX6_readVillage 1 = .ok (.iconst 0, 1) := by decide +kernel
theorem dX6_readVillage_2 : decode cX6_readVillage 2 = .ok (.putfield 135, 3) := by decide +kernel
theorem dX6_readVillage_5 : decode cX6_readVillage 5 = .ok (.iconst 0, 1) := by decide +kernel
theorem dX6_readVillage_6 : decode cX6_readVillage 6 = .ok (.istore_n 1, 1) := by decide +kernel
theorem dX6_readVillage_7 : decode cX6_readVillage 7 = .ok (.iload_n 1, 1) := by decide +kernel
theorem dX6_readVillage_8 : decode cX6_readVillage 8 = .ok (.bipush 6, 2) := by decide +kernel
theorem dX6_readVillage_10 : decode cX6_readVillage 10 = .ok (.if_icmp .ge 62, 3) := by decide +kernel
theorem dX6_readVillage_13 : decode cX6_readVillage 13 = .ok (.aload_n 0, 1) := by decide +kernel
theorem dX6_readVillage_14 : decode cX6_readVillage 14 = .ok (.iconst 3, 1) := by decide +kernel
theorem dX6_readVillage_15 : decode cX6_readVillage 15 = .ok (.iload_n 1, 1) := by decide +kernel
theorem dX6_readVillage_16 : decode cX6_readVillage 16 = .ok (.imul, 1) := by decide +kernel
theorem dX6_readVillage_17 : decode cX6_readVillage 17 = .ok (.invokevirtual 146, 3) := by decide +kernel
theorem dX6_readVillage_20 : decode cX6_readVillage 20 = .ok (.ifCond .ne 5, 3) := by decide +kernel
theorem dX6_readVillage_23 : decode cX6_readVillage 23 = .ok (.iconst 0, 1) := by decide +kernel
theorem dX6_readVillage_24 : decode cX6_readVillage 24 = .ok (.ireturn, 1) := by decide +kernel
theorem dX6_readVillage_25 : decode cX6_readVillage 25 = .ok (.aload_n 0, 1) := by decide +kernel
theorem dX6_readVillage_26 : decode cX6_readVillage 26 = .ok (.iload_n 1, 1) := by decide +kernel
theorem dX6_readVillage_27 : decode cX6_readVillage 27 = .ok (.iconst 1, 1) := by decide +kernel
theorem dX6_readVillage_28 : decode cX6_readVillage 28 = .ok (.iadd, 1) := by decide +kernel
theorem dX6_readVillage_29 : decode cX6_readVillage 29 = .ok (.putfield 149, 3) := by decide +kernel
theorem dX6_readVillage_32 : decode cX6_readVillage 32 = .ok (.aload_n 0, 1) := by decide +kernel
theorem dX6_readVillage_33 : decode cX6_readVillage 33 = .ok (.invokevirtual 138, 3) := by decide +kernel
theorem dX6_readVillage_36 : decode cX6_readVillage 36 = .ok (.istore_n 2, 1) := by decide +kernel
theorem dX6_readVillage_37 : decode cX6_readVillage 37 = .ok (.iload_n 2, 1) := by decide +kernel
theorem dX6_readVillage_38 : decode cX6_readVillage 38 = .ok (.ifCond .ge 5, 3) := by decide +kernel
theorem dX6_readVillage_41 : decode cX6_readVillage 41 = .ok (.iconst 1, 1) := by decide +kernel
theorem dX6_readVillage_42 : decode cX6_readVillage 42 = .ok (.ireturn, 1) := by decide +kernel
theorem dX6_readVillage_43 : decode cX6_readVillage 43 = .ok (.iload_n 2, 1) := by decide +kernel
theorem dX6_readVillage_44 : decode cX6_readVillage 44 = .ok (.bipush 44, 2) := by decide +kernel
theorem dX6_readVillage_46 : decode cX6_readVillage 46 = .ok (.if_icmp .ne 8, 3) := by decide +kernel
theorem dX6_readVillage_49 : decode cX6_readVillage 49 = .ok (.iload_n 1, 1) := by decide +kernel
theorem dX6_readVillage_50 : decode cX6_readVillage 50 = .ok (.iconst 5, 1) := by decide +kernel
theorem dX6_readVillage_51 : decode cX6_readVillage 51 = .ok (.if_icmp .ne 5, 3) := by decide +kernel
theorem dX6_readVillage_54 : decode cX6_readVillage 54 = .ok (.iconst 0, 1) := by decide +kernel
theorem dX6_readVillage_55 : decode cX6_readVillage 55 = .ok (.ireturn, 1) := by decide +kernel
theorem dX6_readVillage_56 : decode cX6_readVillage 56 = .ok (.aload_n 0, 1) := by decide +kernel
theorem dX6_readVillage_57 : decode cX6_readVillage 57 = .ok (.dup, 1) := by decide +kernel
theorem dX6_readVillage_58 : decode cX6_readVillage 58 = .ok (.getfield 135, 3) := by decide +kernel
theorem dX6_readVillage_61 : decode cX6_readVillage 61 = .ok (.iconst 1, 1) := by decide +kernel
theorem dX6_readVillage_62 : decode cX6_readVillage 62 = .ok (.iadd, 1) := by decide +kernel
theorem dX6_readVillage_63 : decode cX6_readVillage 63 = .ok (.putfield 135, 3) := by decide +kernel
theorem dX6_readVillage_66 : decode cX6_readVillage 66 = .ok (.iinc 1 1, 3) := by decide +kernel
theorem dX6_readVillage_69 : decode cX6_readVillage 69 = .ok (.goto (-62), 3) := by decide +kernel
theorem dX6_readVillage_72 : decode cX6_readVillage 72 = .ok (.iconst 0, 1) := by decide +kernel
theorem dX6_readVillage_73 : decode cX6_readVillage 73 = .ok (.ireturn, 1) := by decide +kernel
theorem dX6_village_0 : decode cX6_village 0 = .ok (.aload_n 0, 1) := by decide +kernel
theorem dX6_village_1 : decode cX6_village 1 = .ok (.invokevirtual 152, 3) := by decide +kernel
theorem dX6_village_4 : decode cX6_village 4 = .ok (.istore_n 1, 1) := by decide +kernel
theorem dX6_village_5 : decode cX6_village 5 = .ok (.iload_n 1, 1) := by decide +kernel
theorem dX6_village_6 : decode cX6_village 6 = .ok (.ifCond .ne 8, 3) := by decide +kernel
theorem dX6_village_9 : decode cX6_village 9 = .ok (.aload_n 0, 1) := by decide +kernel
theorem dX6_village_10 : decode cX6_village 10 = .ok (.invokevirtual 138, 3) := by decide +kernel
theorem dX6_village_13 : decode cX6_village 13 = .ok (.pop, 1) := by decide +kernel
theorem dX6_village_14 : decode cX6_village 14 = .ok (.aload_n 0, 1) := by decide +kernel
theorem dX6_village_15 : decode cX6_village 15 = .ok (.iconst 0, 1) := by decide +kernel
theorem dX6_village_16 : decode cX6_village 16 = .ok (.putfield 132, 3) := by decide +kernel
theorem dX6_village_19 : decode cX6_village 19 = .ok (.iload_n 1, 1) := by decide +kernel
theorem dX6_village_20 : decode cX6_village 20 = .ok (.ifCond .ne 11, 3) := by decide +kernel
theorem dX6_village_23 : decode cX6_village 23 = .ok (.bipush (-20), 2) := by decide +kernel
theorem dX6_village_25 : decode cX6_village 25 = .ok (.aload_n 0, 1) := by decide +kernel
theorem dX6_village_26 : decode cX6_village 26 = .ok (.getfield 135, 3) := by decide +kernel
theorem dX6_village_29 : decode cX6_village 29 = .ok (.isub, 1) := by decide +kernel
theorem dX6_village_30 : decode cX6_village 30 = .ok (.ireturn, 1) := by decide +kernel
theorem dX6_village_31 : decode cX6_village 31 = .ok (.aload_n 0, 1) := by decide +kernel
theorem dX6_village_32 : decode cX6_village 32 = .ok (.iconst 0, 1) := by decide +kernel
theorem dX6_village_33 : decode cX6_village 33 = .ok (.putfield 72, 3) := by decide +kernel
theorem dX6_village_36 : decode cX6_village 36 = .ok (.aload_n 0, 1) := by decide +kernel
theorem dX6_village_37 : decode cX6_village 37 = .ok (.iconst 0, 1) := by decide +kernel
theorem dX6_village_38 : decode cX6_village 38 = .ok (.putfield 121, 3) := by decide +kernel
theorem dX6_village_41 : decode cX6_village 41 = .ok (.aload_n 0, 1) := by decide +kernel
theorem dX6_village_42 : decode cX6_village 42 = .ok (.bipush 9, 2) := by decide +kernel
theorem dX6_village_44 : decode cX6_village 44 = .ok (.putfield 32, 3) := by decide +kernel
theorem dX6_village_47 : decode cX6_village 47 = .ok (.iconst 0, 1) := by decide +kernel
theorem dX6_village_48 : decode cX6_village 48 = .ok (.istore_n 2, 1) := by decide +kernel
theorem dX6_village_49 : decode cX6_village 49 = .ok (.iload_n 2, 1) := by decide +kernel
theorem dX6_village_50 : decode cX6_village 50 = .ok (.aload_n 0, 1) := by decide +kernel
theorem dX6_village_51 : decode cX6_village 51 = .ok (.getfield 149, 3) := by decide +kernel
theorem dX6_village_54 : decode cX6_village 54 = .ok (.if_icmp .ge 41, 3) := by decide +kernel
theorem dX6_village_57 : decode cX6_village 57 = .ok (.aload_n 0, 1) := by decide +kernel
theorem dX6_village_58 : decode cX6_village 58 = .ok (.aload_n 0, 1) := by decide +kernel
theorem dX6_village_59 : decode cX6_village 59 = .ok (.getfield 44, 3) := by decide +kernel
theorem dX6_village_62 : decode cX6_village 62 = .ok (.iconst 3, 1) := by decide +kernel
theorem dX6_village_63 : decode cX6_village 63 = .ok (.iload_n 2, 1) := by decide +kernel
theorem dX6_village_64 : decode cX6_village 64 = .ok (.imul, 1) := by decide +kernel
theorem dX6_village_65 : decode cX6_village 65 = .ok (.iaload, 1) := by decide +kernel
theorem dX6_village_66 : decode cX6_village 66 = .ok (.aload_n 0, 1) := by decide +kernel
theorem dX6_village_67 : decode cX6_village 67 = .ok (.getfield 44, 3) := by decide +kernel
theorem dX6_village_70 : decode cX6_village 70 = .ok (.iconst 3, 1) := by decide +kernel
theorem dX6_village_71 : decode cX6_village 71 = .ok (.iload_n 2, 1) := by decide +kernel
theorem dX6_village_72 : decode cX6_village 72 = .ok (.imul, 1) := by decide +kernel
theorem dX6_village_73 : decode cX6_village 73 = .ok (.iconst 1, 1) := by decide +kernel
theorem dX6_village_74 : decode cX6_village 74 = .ok (.iadd, 1) := by decide +kernel
theorem dX6_village_75 : decode cX6_village 75 = .ok (.iaload, 1) := by decide +kernel
theorem dX6_village_76 : decode cX6_village 76 = .ok (.aload_n 0, 1) := by decide +kernel
theorem dX6_village_77 : decode cX6_village 77 = .ok (.getfield 44, 3) := by decide +kernel
theorem dX6_village_80 : decode cX6_village 80 = .ok (.iconst 3, 1) := by decide +kernel
theorem dX6_village_81 : decode cX6_village 81 = .ok (.iload_n 2, 1) := by decide +kernel
theorem dX6_village_82 : decode cX6_village 82 = .ok (.imul, 1) := by decide +kernel
theorem dX6_village_83 : decode cX6_village 83 = .ok (.iconst 2, 1) := by decide +kernel
theorem dX6_village_84 : decode cX6_village 84 = .ok (.iadd, 1) := by decide +kernel
theorem dX6_village_85 : decode cX6_village 85 = .ok (.iaload, 1) := by decide +kernel
theorem dX6_village_86 : decode cX6_village 86 = .ok (.invokevirtual 87, 3) := by decide +kernel
theorem dX6_village_89 : decode cX6_village 89 = .ok (.iinc 2 1, 3) := by decide +kernel
theorem dX6_village_92 : decode cX6_village 92 = .ok (.goto (-43), 3) := by decide +kernel
theorem dX6_village_95 : decode cX6_village 95 = .ok (.aload_n 0, 1) := by decide +kernel
theorem dX6_village_96 : decode cX6_village 96 = .ok (.getfield 72, 3) := by decide +kernel
theorem dX6_village_99 : decode cX6_village 99 = .ok (.ireturn, 1) := by decide +kernel
theorem dX6_readPlan_0 : decode cX6_readPlan 0 = .ok (.aload_n 0, 1) := by decide +kernel
theorem dX6_readPlan_1 : decode cX6_readPlan 1 = .ok (.iconst 0, 1) := by decide +kernel
theorem dX6_readPlan_2 : decode cX6_readPlan 2 = .ok (.putfield 135, 3) := by decide +kernel
theorem dX6_readPlan_5 : decode cX6_readPlan 5 = .ok (.aload_n 0, 1) := by decide +kernel
theorem dX6_readPlan_6 : decode cX6_readPlan 6 = .ok (.iconst 0, 1) := by decide +kernel
theorem dX6_readPlan_7 : decode cX6_readPlan 7 = .ok (.putfield 149, 3) := by decide +kernel
theorem dX6_readPlan_10 : decode cX6_readPlan 10 = .ok (.aload_n 0, 1) := by decide +kernel
theorem dX6_readPlan_11 : decode cX6_readPlan 11 = .ok (.getfield 149, 3) := by decide +kernel
theorem dX6_readPlan_14 : decode cX6_readPlan 14 = .ok (.ifCond .eq 10, 3) := by decide +kernel
theorem dX6_readPlan_17 : decode cX6_readPlan 17 = .ok (.aload_n 0, 1) := by decide +kernel
theorem dX6_readPlan_18 : decode cX6_readPlan 18 = .ok (.invokevirtual 138, 3) := by decide +kernel
theorem dX6_readPlan_21 : decode cX6_readPlan 21 = .ok (.ifCond .lt 83, 3) := by decide +kernel
theorem dX6_readPlan_24 : decode cX6_readPlan 24 = .ok (.aload_n 0, 1) := by decide +kernel
theorem dX6_readPlan_25 : decode cX6_readPlan 25 = .ok (.invokevirtual 138, 3) := by decide +kernel
theorem dX6_readPlan_28 : decode cX6_readPlan 28 = .ok (.istore_n 1, 1) := by decide +kernel
theorem dX6_readPlan_29 : decode cX6_readPlan 29 = .ok (.iload_n 1, 1) := by decide +kernel
theorem dX6_readPlan_30 : decode cX6_readPlan 30 = .ok (.bipush 46, 2) := by decide +kernel
theorem dX6_readPlan_32 : decode cX6_readPlan 32 = .ok (.if_icmp .eq 14, 3) := by decide +kernel
theorem dX6_readPlan_35 : decode cX6_readPlan 35 = .ok (.aload_n 0, 1) := by decide +kernel
theorem dX6_readPlan_36 : decode cX6_readPlan 36 = .ok (.iload_n 1, 1) := by decide +kernel
theorem dX6_readPlan_37 : decode cX6_readPlan 37 = .ok (.bipush 48, 2) := by decide +kernel
theorem dX6_readPlan_39 : decode cX6_readPlan 39 = .ok (.isub, 1) := by decide +kernel
theorem dX6_readPlan_40 : decode cX6_readPlan 40 = .ok (.invokevirtual 91, 3) := by decide +kernel
theorem dX6_readPlan_43 : decode cX6_readPlan 43 = .ok (.ifCond .eq 12, 3) := by decide +kernel
theorem dX6_readPlan_46 : decode cX6_readPlan 46 = .ok (.aload_n 0, 1) := by decide +kernel
theorem dX6_readPlan_47 : decode cX6_readPlan 47 = .ok (.getfield 149, 3) := by decide +kernel
theorem dX6_readPlan_50 : decode cX6_readPlan 50 = .ok (.bipush 24, 2) := by decide +kernel
theorem dX6_readPlan_52 : decode cX6_readPlan 52 = .ok (.if_icmp .ne 5, 3) := by decide +kernel
theorem dX6_readPlan_55 : decode cX6_readPlan 55 = .ok (.iconst 0, 1) := by decide +kernel
theorem dX6_readPlan_56 : decode cX6_readPlan 56 = .ok (.ireturn, 1) := by decide +kernel
theorem dX6_readPlan_57 : decode cX6_readPlan 57 = .ok (.aload_n 0, 1) := by decide +kernel
theorem dX6_readPlan_58 : decode cX6_readPlan 58 = .ok (.getfield 44, 3) := by decide +kernel
theorem dX6_readPlan_61 : decode cX6_readPlan 61 = .ok (.aload_n 0, 1) := by decide +kernel
theorem dX6_readPlan_62 : decode cX6_readPlan 62 = .ok (.getfield 149, 3) := by decide +kernel
theorem dX6_readPlan_65 : decode cX6_readPlan 65 = .ok (.iload_n 1, 1) := by decide +kernel
theorem dX6_readPlan_66 : decode cX6_readPlan 66 = .ok (.bipush 46, 2) := by decide +kernel
theorem dX6_readPlan_68 : decode cX6_readPlan 68 = .ok (.if_icmp .ne 8, 3) := by decide +kernel
theorem dX6_readPlan_71 : decode cX6_readPlan 71 = .ok (.bipush 9, 2) := by decide +kernel
theorem dX6_readPlan_73 : decode cX6_readPlan 73 = .ok (.goto 7, 3) := by decide +kernel
theorem dX6_readPlan_76 : decode cX6_readPlan 76 = .ok (.iload_n 1, 1) := by decide +kernel
theorem dX6_readPlan_77 : decode cX6_readPlan 77 = .ok (.bipush 48, 2) := by decide +kernel
theorem dX6_readPlan_79 : decode cX6_readPlan 79 = .ok (.isub, 1) := by decide +kernel
theorem dX6_readPlan_80 : decode cX6_readPlan 80 = .ok (.iastore, 1) := by decide +kernel
theorem dX6_readPlan_81 : decode cX6_readPlan 81 = .ok (.aload_n 0, 1) := by decide +kernel
theorem dX6_readPlan_82 : decode cX6_readPlan 82 = .ok (.dup, 1) := by decide +kernel
theorem dX6_readPlan_83 : decode cX6_readPlan 83 = .ok (.getfield 149, 3) := by decide +kernel
theorem dX6_readPlan_86 : decode cX6_readPlan 86 = .ok (.iconst 1, 1) := by decide +kernel
theorem dX6_readPlan_87 : decode cX6_readPlan 87 = .ok (.iadd, 1) := by decide +kernel
theorem dX6_readPlan_88 : decode cX6_readPlan 88 = .ok (.putfield 149, 3) := by decide +kernel
theorem dX6_readPlan_91 : decode cX6_readPlan 91 = .ok (.aload_n 0, 1) := by decide +kernel
theorem dX6_readPlan_92 : decode cX6_readPlan 92 = .ok (.dup, 1) := by decide +kernel
theorem dX6_readPlan_93 : decode cX6_readPlan 93 = .ok (.getfield 135, 3) := by decide +kernel
theorem dX6_readPlan_96 : decode cX6_readPlan 96 = .ok (.iconst 1, 1) := by decide +kernel
theorem dX6_readPlan_97 : decode cX6_readPlan 97 = .ok (.iadd, 1) := by decide +kernel
theorem dX6_readPlan_98 : decode cX6_readPlan 98 = .ok (.putfield 135, 3) := by decide +kernel
theorem dX6_readPlan_101 : decode cX6_readPlan 101 = .ok (.goto (-91), 3) := by decide +kernel
theorem dX6_readPlan_104 : decode cX6_readPlan 104 = .ok (.iconst 1, 1) := by decide +kernel
theorem dX6_readPlan_105 : decode cX6_readPlan 105 = .ok (.ireturn, 1) := by decide +kernel
theorem dX6_plan_0 : decode cX6_plan 0 = .ok (.aload_n 0, 1) := by decide +kernel
theorem dX6_plan_1 : decode cX6_plan 1 = .ok (.invokevirtual 156, 3) := by decide +kernel
theorem dX6_plan_4 : decode cX6_plan 4 = .ok (.istore_n 1, 1) := by decide +kernel
theorem dX6_plan_5 : decode cX6_plan 5 = .ok (.iload_n 1, 1) := by decide +kernel
theorem dX6_plan_6 : decode cX6_plan 6 = .ok (.ifCond .ne 8, 3) := by decide +kernel
theorem dX6_plan_9 : decode cX6_plan 9 = .ok (.aload_n 0, 1) := by decide +kernel
theorem dX6_plan_10 : decode cX6_plan 10 = .ok (.invokevirtual 138, 3) := by decide +kernel
theorem dX6_plan_13 : decode cX6_plan 13 = .ok (.pop, 1) := by decide +kernel
theorem dX6_plan_14 : decode cX6_plan 14 = .ok (.aload_n 0, 1) := by decide +kernel
theorem dX6_plan_15 : decode cX6_plan 15 = .ok (.iconst 0, 1) := by decide +kernel
theorem dX6_plan_16 : decode cX6_plan 16 = .ok (.putfield 132, 3) := by decide +kernel
theorem dX6_plan_19 : decode cX6_plan 19 = .ok (.iload_n 1, 1) := by decide +kernel
theorem dX6_plan_20 : decode cX6_plan 20 = .ok (.ifCond .ne 11, 3) := by decide +kernel
theorem dX6_plan_23 : decode cX6_plan 23 = .ok (.bipush (-20), 2) := by decide +kernel
theorem dX6_plan_25 : decode cX6_plan 25 = .ok (.aload_n 0, 1) := by decide +kernel
theorem dX6_plan_26 : decode cX6_plan 26 = .ok (.getfield 135, 3) := by decide +kernel
theorem dX6_plan_29 : decode cX6_plan 29 = .ok (.isub, 1) := by decide +kernel
theorem dX6_plan_30 : decode cX6_plan 30 = .ok (.ireturn, 1) := by decide +kernel
theorem dX6_plan_31 : decode cX6_plan 31 = .ok (.aload_n 0, 1) := by decide +kernel
theorem dX6_plan_32 : decode cX6_plan 32 = .ok (.aload_n 0, 1) := by decide +kernel
theorem dX6_plan_33 : decode cX6_plan 33 = .ok (.getfield 149, 3) := by decide +kernel
theorem dX6_plan_36 : decode cX6_plan 36 = .ok (.putfield 121, 3) := by decide +kernel
theorem dX6_plan_39 : decode cX6_plan 39 = .ok (.iconst 0, 1) := by decide +kernel
theorem dX6_plan_40 : decode cX6_plan 40 = .ok (.istore_n 2, 1) := by decide +kernel
theorem dX6_plan_41 : decode cX6_plan 41 = .ok (.iload_n 2, 1) := by decide +kernel
theorem dX6_plan_42 : decode cX6_plan 42 = .ok (.aload_n 0, 1) := by decide +kernel
theorem dX6_plan_43 : decode cX6_plan 43 = .ok (.getfield 149, 3) := by decide +kernel
theorem dX6_plan_46 : decode cX6_plan 46 = .ok (.if_icmp .ge 21, 3) := by decide +kernel
theorem dX6_plan_49 : decode cX6_plan 49 = .ok (.aload_n 0, 1) := by decide +kernel
theorem dX6_plan_50 : decode cX6_plan 50 = .ok (.getfield 35, 3) := by decide +kernel
theorem dX6_plan_53 : decode cX6_plan 53 = .ok (.iload_n 2, 1) := by decide +kernel
theorem dX6_plan_54 : decode cX6_plan 54 = .ok (.aload_n 0, 1) := by decide +kernel
theorem dX6_plan_55 : decode cX6_plan 55 = .ok (.getfield 44, 3) := by decide +kernel
theorem dX6_plan_58 : decode cX6_plan 58 = .ok (.iload_n 2, 1) := by decide +kernel
theorem dX6_plan_59 : decode cX6_plan 59 = .ok (.iaload, 1) := by decide +kernel
theorem dX6_plan_60 : decode cX6_plan 60 = .ok (.iastore, 1) := by decide +kernel
theorem dX6_plan_61 : decode cX6_plan 61 = .ok (.iinc 2 1, 3) := by decide +kernel
theorem dX6_plan_64 : decode cX6_plan 64 = .ok (.goto (-23), 3) := by decide +kernel
theorem dX6_plan_67 : decode cX6_plan 67 = .ok (.aload_n 0, 1) := by decide +kernel
theorem dX6_plan_68 : decode cX6_plan 68 = .ok (.getfield 121, 3) := by decide +kernel
theorem dX6_plan_71 : decode cX6_plan 71 = .ok (.ireturn, 1) := by decide +kernel
theorem dX6_pailsOf_0 : decode cX6_pailsOf 0 = .ok (.iload_n 0, 1) := by decide +kernel
theorem dX6_pailsOf_1 : decode cX6_pailsOf 1 = .ok (.iconst 1, 1) := by decide +kernel
theorem dX6_pailsOf_2 : decode cX6_pailsOf 2 = .ok (.if_icmp .ne 9, 3) := by decide +kernel
theorem dX6_pailsOf_5 : decode cX6_pailsOf 5 = .ok (.iconst 5, 1) := by decide +kernel
theorem dX6_pailsOf_6 : decode cX6_pailsOf 6 = .ok (.iload_n 1, 1) := by decide +kernel
theorem dX6_pailsOf_7 : decode cX6_pailsOf 7 = .ok (.iadd, 1) := by decide +kernel
theorem dX6_pailsOf_8 : decode cX6_pailsOf 8 = .ok (.goto 17, 3) := by decide +kernel
theorem dX6_pailsOf_11 : decode cX6_pailsOf 11 = .ok (.iload_n 0, 1) := by decide +kernel
theorem dX6_pailsOf_12 : decode cX6_pailsOf 12 = .ok (.iconst 3, 1) := by decide +kernel
theorem dX6_pailsOf_13 : decode cX6_pailsOf 13 = .ok (.if_icmp .ne 9, 3) := by decide +kernel
theorem dX6_pailsOf_16 : decode cX6_pailsOf 16 = .ok (.iconst 2, 1) := by decide +kernel
theorem dX6_pailsOf_17 : decode cX6_pailsOf 17 = .ok (.iload_n 1, 1) := by decide +kernel
theorem dX6_pailsOf_18 : decode cX6_pailsOf 18 = .ok (.iadd, 1) := by decide +kernel
theorem dX6_pailsOf_19 : decode cX6_pailsOf 19 = .ok (.goto 6, 3) := by decide +kernel
theorem dX6_pailsOf_22 : decode cX6_pailsOf 22 = .ok (.iconst 4, 1) := by decide +kernel
theorem dX6_pailsOf_23 : decode cX6_pailsOf 23 = .ok (.iload_n 1, 1) := by decide +kernel
theorem dX6_pailsOf_24 : decode cX6_pailsOf 24 = .ok (.iadd, 1) := by decide +kernel
theorem dX6_pailsOf_25 : decode cX6_pailsOf 25 = .ok (.istore_n 2, 1) := by decide +kernel
theorem dX6_pailsOf_26 : decode cX6_pailsOf 26 = .ok (.iload_n 2, 1) := by decide +kernel
theorem dX6_pailsOf_27 : decode cX6_pailsOf 27 = .ok (.ifCond .ge 7, 3) := by decide +kernel
theorem dX6_pailsOf_30 : decode cX6_pailsOf 30 = .ok (.iconst 0, 1) := by decide +kernel
theorem dX6_pailsOf_31 : decode cX6_pailsOf 31 = .ok (.goto 15, 3) := by decide +kernel
theorem dX6_pailsOf_34 : decode cX6_pailsOf 34 = .ok (.iload_n 2, 1) := by decide +kernel
theorem dX6_pailsOf_35 : decode cX6_pailsOf 35 = .ok (.bipush 9, 2) := by decide +kernel
theorem dX6_pailsOf_37 : decode cX6_pailsOf 37 = .ok (.if_icmp .le 8, 3) := by decide +kernel
theorem dX6_pailsOf_40 : decode cX6_pailsOf 40 = .ok (.bipush 9, 2) := by decide +kernel
theorem dX6_pailsOf_42 : decode cX6_pailsOf 42 = .ok (.goto 4, 3) := by decide +kernel
theorem dX6_pailsOf_45 : decode cX6_pailsOf 45 = .ok (.iload_n 2, 1) := by decide +kernel
theorem dX6_pailsOf_46 : decode cX6_pailsOf 46 = .ok (.ireturn, 1) := by decide +kernel
theorem dX6_isSweet_0 : decode cX6_isSweet 0 = .ok (.iload_n 0, 1) := by decide +kernel
theorem dX6_isSweet_1 : decode cX6_isSweet 1 = .ok (.iconst 1, 1) := by decide +kernel
theorem dX6_isSweet_2 : decode cX6_isSweet 2 = .ok (.if_icmp .eq 11, 3) := by decide +kernel
theorem dX6_isSweet_5 : decode cX6_isSweet 5 = .ok (.iload_n 0, 1) := by decide +kernel
theorem dX6_isSweet_6 : decode cX6_isSweet 6 = .ok (.ifCond .ne 11, 3) := by decide +kernel
theorem dX6_isSweet_9 : decode cX6_isSweet 9 = .ok (.iload_n 1, 1) := by decide +kernel
theorem dX6_isSweet_10 : decode cX6_isSweet 10 = .ok (.ifCond .lt 7, 3) := by decide +kernel
theorem dX6_isSweet_13 : decode cX6_isSweet 13 = .ok (.iconst 1, 1) := by decide +kernel
theorem dX6_isSweet_14 : decode cX6_isSweet 14 = .ok (.goto 4, 3) := by decide +kernel
theorem dX6_isSweet_17 : decode cX6_isSweet 17 = .ok (.iconst 0, 1) := by decide +kernel
theorem dX6_isSweet_18 : decode cX6_isSweet 18 = .ok (.ireturn, 1) := by decide +kernel
theorem dX6_most9_0 : decode cX6_most9 0 = .ok (.iload_n 0, 1) := by decide +kernel
theorem dX6_most9_1 : decode cX6_most9 1 = .ok (.bipush 9, 2) := by decide +kernel
theorem dX6_most9_3 : decode cX6_most9 3 = .ok (.if_icmp .le 8, 3) := by decide +kernel
theorem dX6_most9_6 : decode cX6_most9 6 = .ok (.bipush 9, 2) := by decide +kernel
theorem dX6_most9_8 : decode cX6_most9 8 = .ok (.goto 15, 3) := by decide +kernel
theorem dX6_most9_11 : decode cX6_most9 11 = .ok (.iload_n 0, 1) := by decide +kernel
theorem dX6_most9_12 : decode cX6_most9 12 = .ok (.bipush (-9), 2) := by decide +kernel
theorem dX6_most9_14 : decode cX6_most9 14 = .ok (.if_icmp .ge 8, 3) := by decide +kernel
theorem dX6_most9_17 : decode cX6_most9 17 = .ok (.bipush (-9), 2) := by decide +kernel
theorem dX6_most9_19 : decode cX6_most9 19 = .ok (.goto 4, 3) := by decide +kernel
theorem dX6_most9_22 : decode cX6_most9 22 = .ok (.iload_n 0, 1) := by decide +kernel
theorem dX6_most9_23 : decode cX6_most9 23 = .ok (.ireturn, 1) := by decide +kernel
theorem dX6_wane_0 : decode cX6_wane 0 = .ok (.iload_n 0, 1) := by decide +kernel
theorem dX6_wane_1 : decode cX6_wane 1 = .ok (.ifCond .le 9, 3) := by decide +kernel
theorem dX6_wane_4 : decode cX6_wane 4 = .ok (.iload_n 0, 1) := by decide +kernel
theorem dX6_wane_5 : decode cX6_wane 5 = .ok (.iconst 1, 1) := by decide +kernel
theorem dX6_wane_6 : decode cX6_wane 6 = .ok (.isub, 1) := by decide +kernel
theorem dX6_wane_7 : decode cX6_wane 7 = .ok (.goto 14, 3) := by decide +kernel
theorem dX6_wane_10 : decode cX6_wane 10 = .ok (.iload_n 0, 1) := by decide +kernel
theorem dX6_wane_11 : decode cX6_wane 11 = .ok (.ifCond .ge 9, 3) := by decide +kernel
theorem dX6_wane_14 : decode cX6_wane 14 = .ok (.iload_n 0, 1) := by decide +kernel
theorem dX6_wane_15 : decode cX6_wane 15 = .ok (.iconst 1, 1) := by decide +kernel
theorem dX6_wane_16 : decode cX6_wane 16 = .ok (.iadd, 1) := by decide +kernel
theorem dX6_wane_17 : decode cX6_wane 17 = .ok (.goto 4, 3) := by decide +kernel
theorem dX6_wane_20 : decode cX6_wane 20 = .ok (.iconst 0, 1) := by decide +kernel
theorem dX6_wane_21 : decode cX6_wane 21 = .ok (.ireturn, 1) := by decide +kernel
theorem dX6_feltBy_0 : decode cX6_feltBy 0 = .ok (.aload_n 0, 1) := by decide +kernel
theorem dX6_feltBy_1 : decode cX6_feltBy 1 = .ok (.getfield 7, 3) := by decide +kernel
theorem dX6_feltBy_4 : decode cX6_feltBy 4 = .ok (.iload_n 1, 1) := by decide +kernel
theorem dX6_feltBy_5 : decode cX6_feltBy 5 = .ok (.iaload, 1) := by decide +kernel
theorem dX6_feltBy_6 : decode cX6_feltBy 6 = .ok (.iconst 3, 1) := by decide +kernel
theorem dX6_feltBy_7 : decode cX6_feltBy 7 = .ok (.if_icmp .ne 13, 3) := by decide +kernel
theorem dX6_feltBy_10 : decode cX6_feltBy 10 = .ok (.aload_n 0, 1) := by decide +kernel
theorem dX6_feltBy_11 : decode cX6_feltBy 11 = .ok (.getfield 13, 3) := by decide +kernel
theorem dX6_feltBy_14 : decode cX6_feltBy 14 = .ok (.iload_n 1, 1) := by decide +kernel
theorem dX6_feltBy_15 : decode cX6_feltBy 15 = .ok (.iaload, 1) := by decide +kernel
theorem dX6_feltBy_16 : decode cX6_feltBy 16 = .ok (.ineg, 1) := by decide +kernel
theorem dX6_feltBy_17 : decode cX6_feltBy 17 = .ok (.goto 9, 3) := by decide +kernel
theorem dX6_feltBy_20 : decode cX6_feltBy 20 = .ok (.aload_n 0, 1) := by decide +kernel
theorem dX6_feltBy_21 : decode cX6_feltBy 21 = .ok (.getfield 13, 3) := by decide +kernel
theorem dX6_feltBy_24 : decode cX6_feltBy 24 = .ok (.iload_n 1, 1) := by decide +kernel
theorem dX6_feltBy_25 : decode cX6_feltBy 25 = .ok (.iaload, 1) := by decide +kernel
theorem dX6_feltBy_26 : decode cX6_feltBy 26 = .ok (.ireturn, 1) := by decide +kernel
theorem dX6_begin_0 : decode cX6_begin 0 = .ok (.aload_n 0, 1) := by decide +kernel
theorem dX6_begin_1 : decode cX6_begin 1 = .ok (.aload_n 0, 1) := by decide +kernel
theorem dX6_begin_2 : decode cX6_begin 2 = .ok (.getfield 112, 3) := by decide +kernel
theorem dX6_begin_5 : decode cX6_begin 5 = .ok (.putfield 159, 3) := by decide +kernel
theorem dX6_begin_8 : decode cX6_begin 8 = .ok (.aload_n 0, 1) := by decide +kernel
theorem dX6_begin_9 : decode cX6_begin 9 = .ok (.aload_n 0, 1) := by decide +kernel
theorem dX6_begin_10 : decode cX6_begin 10 = .ok (.getfield 25, 3) := by decide +kernel
theorem dX6_begin_13 : decode cX6_begin 13 = .ok (.putfield 162, 3) := by decide +kernel
theorem dX6_begin_16 : decode cX6_begin 16 = .ok (.aload_n 0, 1) := by decide +kernel
theorem dX6_begin_17 : decode cX6_begin 17 = .ok (.aload_n 0, 1) := by decide +kernel
theorem dX6_begin_18 : decode cX6_begin 18 = .ok (.getfield 98, 3) := by decide +kernel
theorem dX6_begin_21 : decode cX6_begin 21 = .ok (.putfield 165, 3) := by decide +kernel
theorem dX6_begin_24 : decode cX6_begin 24 = .ok (.aload_n 0, 1) := by decide +kernel
theorem dX6_begin_25 : decode cX6_begin 25 = .ok (.aload_n 0, 1) := by decide +kernel
theorem dX6_begin_26 : decode cX6_begin 26 = .ok (.getfield 32, 3) := by decide +kernel
theorem dX6_begin_29 : decode cX6_begin 29 = .ok (.putfield 168, 3) := by decide +kernel
theorem dX6_begin_32 : decode cX6_begin 32 = .ok (.iconst 0, 1) := by decide +kernel
theorem dX6_begin_33 : decode cX6_begin 33 = .ok (.istore_n 1, 1) := by decide +kernel
theorem dX6_begin_34 : decode cX6_begin 34 = .ok (.iload_n 1, 1) := by decide +kernel
theorem dX6_begin_35 : decode cX6_begin 35 = .ok (.bipush 6, 2) := by decide +kernel
theorem dX6_begin_37 : decode cX6_begin 37 = .ok (.if_icmp .ge 21, 3) := by decide +kernel
theorem dX6_begin_40 : decode cX6_begin 40 = .ok (.aload_n 0, 1) := by decide +kernel
theorem dX6_begin_41 : decode cX6_begin 41 = .ok (.getfield 47, 3) := by decide +kernel
theorem dX6_begin_44 : decode cX6_begin 44 = .ok (.iload_n 1, 1) := by decide +kernel
theorem dX6_begin_45 : decode cX6_begin 45 = .ok (.aload_n 0, 1) := by decide +kernel
theorem dX6_begin_46 : decode cX6_begin 46 = .ok (.getfield 22, 3) := by decide +kernel
theorem dX6_begin_49 : decode cX6_begin 49 = .ok (.iload_n 1, 1) := by decide +kernel
theorem dX6_begin_50 : decode cX6_begin 50 = .ok (.iaload, 1) := by decide +kernel
theorem dX6_begin_51 : decode cX6_begin 51 = .ok (.iastore, 1) := by decide +kernel
theorem dX6_begin_52 : decode cX6_begin 52 = .ok (.iinc 1 1, 3) := by decide +kernel
theorem dX6_begin_55 : decode cX6_begin 55 = .ok (.goto (-21), 3) := by decide +kernel
theorem dX6_begin_58 : decode cX6_begin 58 = .ok (.return_, 1) := by decide +kernel
theorem dX6_tryOne_0 : decode cX6_tryOne 0 = .ok (.aload_n 0, 1) := by decide +kernel
theorem dX6_tryOne_1 : decode cX6_tryOne 1 = .ok (.iconst 0, 1) := by decide +kernel
theorem dX6_tryOne_2 : decode cX6_tryOne 2 = .ok (.putfield 171, 3) := by decide +kernel
theorem dX6_tryOne_5 : decode cX6_tryOne 5 = .ok (.aload_n 0, 1) := by decide +kernel
theorem dX6_tryOne_6 : decode cX6_tryOne 6 = .ok (.iconst 0, 1) := by decide +kernel
theorem dX6_tryOne_7 : decode cX6_tryOne 7 = .ok (.putfield 174, 3) := by decide +kernel
theorem dX6_tryOne_10 : decode cX6_tryOne 10 = .ok (.iload_n 1, 1) := by decide +kernel
theorem dX6_tryOne_11 : decode cX6_tryOne 11 = .ok (.bipush 9, 2) := by decide +kernel
theorem dX6_tryOne_13 : decode cX6_tryOne 13 = .ok (.if_icmp .eq 155, 3) := by decide +kernel
theorem dX6_tryOne_16 : decode cX6_tryOne 16 = .ok (.aload_n 0, 1) := by decide +kernel
theorem dX6_tryOne_17 : decode cX6_tryOne 17 = .ok (.getfield 47, 3) := by decide +kernel
theorem dX6_tryOne_20 : decode cX6_tryOne 20 = .ok (.iload_n 1, 1) := by decide +kernel
theorem dX6_tryOne_21 : decode cX6_tryOne 21 = .ok (.iaload, 1) := by decide +kernel
theorem dX6_tryOne_22 : decode cX6_tryOne 22 = .ok (.aload_n 0, 1) := by decide +kernel
theorem dX6_tryOne_23 : decode cX6_tryOne 23 = .ok (.getfield 165, 3) := by decide +kernel
theorem dX6_tryOne_26 : decode cX6_tryOne 26 = .ok (.if_icmp .le 5, 3) := by decide +kernel
theorem dX6_tryOne_29 : decode cX6_tryOne 29 = .ok (.iconst 0, 1) := by decide +kernel
theorem dX6_tryOne_30 : decode cX6_tryOne 30 = .ok (.ireturn, 1) := by decide +kernel
theorem dX6_tryOne_31 : decode cX6_tryOne 31 = .ok (.aload_n 0, 1) := by decide +kernel
theorem dX6_tryOne_32 : decode cX6_tryOne 32 = .ok (.getfield 168, 3) := by decide +kernel
theorem dX6_tryOne_35 : decode cX6_tryOne 35 = .ok (.bipush 9, 2) := by decide +kernel
theorem dX6_tryOne_37 : decode cX6_tryOne 37 = .ok (.if_icmp .eq 23, 3) := by decide +kernel
theorem dX6_tryOne_40 : decode cX6_tryOne 40 = .ok (.aload_n 0, 1) := by decide +kernel
theorem dX6_tryOne_41 : decode cX6_tryOne 41 = .ok (.getfield 19, 3) := by decide +kernel
theorem dX6_tryOne_44 : decode cX6_tryOne 44 = .ok (.iload_n 1, 1) := by decide +kernel
theorem dX6_tryOne_45 : decode cX6_tryOne 45 = .ok (.iaload, 1) := by decide +kernel
theorem dX6_tryOne_46 : decode cX6_tryOne 46 = .ok (.aload_n 0, 1) := by decide +kernel
theorem dX6_tryOne_47 : decode cX6_tryOne 47 = .ok (.getfield 168, 3) := by decide +kernel
theorem dX6_tryOne_50 : decode cX6_tryOne 50 = .ok (.invokestatic 178, 3) := by decide +kernel
theorem dX6_tryOne_53 : decode cX6_tryOne 53 = .ok (.ifCond .eq 7, 3) := by decide +kernel
theorem dX6_tryOne_56 : decode cX6_tryOne 56 = .ok (.iconst 1, 1) := by decide +kernel
theorem dX6_tryOne_57 : decode cX6_tryOne 57 = .ok (.goto 4, 3) := by decide +kernel
theorem dX6_tryOne_60 : decode cX6_tryOne 60 = .ok (.iconst 0, 1) := by decide +kernel
theorem dX6_tryOne_61 : decode cX6_tryOne 61 = .ok (.istore_n 2, 1) := by decide +kernel
theorem dX6_tryOne_62 : decode cX6_tryOne 62 = .ok (.aload_n 0, 1) := by decide +kernel
theorem dX6_tryOne_63 : decode cX6_tryOne 63 = .ok (.getfield 7, 3) := by decide +kernel
theorem dX6_tryOne_66 : decode cX6_tryOne 66 = .ok (.iload_n 1, 1) := by decide +kernel
theorem dX6_tryOne_67 : decode cX6_tryOne 67 = .ok (.iaload, 1) := by decide +kernel
theorem dX6_tryOne_68 : decode cX6_tryOne 68 = .ok (.aload_n 0, 1) := by decide +kernel
theorem dX6_tryOne_69 : decode cX6_tryOne 69 = .ok (.getfield 159, 3) := by decide +kernel
theorem dX6_tryOne_72 : decode cX6_tryOne 72 = .ok (.invokestatic 182, 3) := by decide +kernel
theorem dX6_tryOne_75 : decode cX6_tryOne 75 = .ok (.istore_n 3, 1) := by decide +kernel
theorem dX6_tryOne_76 : decode cX6_tryOne 76 = .ok (.aload_n 0, 1) := by decide +kernel
theorem dX6_tryOne_77 : decode cX6_tryOne 77 = .ok (.iload_n 2, 1) := by decide +kernel
theorem dX6_tryOne_78 : decode cX6_tryOne 78 = .ok (.ifCond .eq 7, 3) := by decide +kernel
theorem dX6_tryOne_81 : decode cX6_tryOne 81 = .ok (.iconst 0, 1) := by decide +kernel
theorem dX6_tryOne_82 : decode cX6_tryOne 82 = .ok (.goto 19, 3) := by decide +kernel
theorem dX6_tryOne_85 : decode cX6_tryOne 85 = .ok (.iload_n 3, 1) := by decide +kernel
theorem dX6_tryOne_86 : decode cX6_tryOne 86 = .ok (.aload_n 0, 1) := by decide +kernel
theorem dX6_tryOne_87 : decode cX6_tryOne 87 = .ok (.getfield 162, 3) := by decide +kernel
theorem dX6_tryOne_90 : decode cX6_tryOne 90 = .ok (.if_icmp .ge 7, 3) := by decide +kernel
theorem dX6_tryOne_93 : decode cX6_tryOne 93 = .ok (.iload_n 3, 1) := by decide +kernel
theorem dX6_tryOne_94 : decode cX6_tryOne 94 = .ok (.goto 7, 3) := by decide +kernel
theorem dX6_tryOne_97 : decode cX6_tryOne 97 = .ok (.aload_n 0, 1) := by decide +kernel
theorem dX6_tryOne_98 : decode cX6_tryOne 98 = .ok (.getfield 162, 3) := by decide +kernel
theorem dX6_tryOne_101 : decode cX6_tryOne 101 = .ok (.putfield 171, 3) := by decide +kernel
theorem dX6_tryOne_104 : decode cX6_tryOne 104 = .ok (.aload_n 0, 1) := by decide +kernel
theorem dX6_tryOne_105 : decode cX6_tryOne 105 = .ok (.aload_n 0, 1) := by decide +kernel
theorem dX6_tryOne_106 : decode cX6_tryOne 106 = .ok (.getfield 7, 3) := by decide +kernel
theorem dX6_tryOne_109 : decode cX6_tryOne 109 = .ok (.iload_n 1, 1) := by decide +kernel
theorem dX6_tryOne_110 : decode cX6_tryOne 110 = .ok (.iaload, 1) := by decide +kernel
theorem dX6_tryOne_111 : decode cX6_tryOne 111 = .ok (.aload_n 0, 1) := by decide +kernel
theorem dX6_tryOne_112 : decode cX6_tryOne 112 = .ok (.getfield 159, 3) := by decide +kernel
theorem dX6_tryOne_115 : decode cX6_tryOne 115 = .ok (.invokestatic 185, 3) := by decide +kernel
theorem dX6_tryOne_118 : decode cX6_tryOne 118 = .ok (.putfield 174, 3) := by decide +kernel
theorem dX6_tryOne_121 : decode cX6_tryOne 121 = .ok (.aload_n 0, 1) := by decide +kernel
theorem dX6_tryOne_122 : decode cX6_tryOne 122 = .ok (.dup, 1) := by decide +kernel
theorem dX6_tryOne_123 : decode cX6_tryOne 123 = .ok (.getfield 162, 3) := by decide +kernel
theorem dX6_tryOne_126 : decode cX6_tryOne 126 = .ok (.aload_n 0, 1) := by decide +kernel
theorem dX6_tryOne_127 : decode cX6_tryOne 127 = .ok (.getfield 171, 3) := by decide +kernel
theorem dX6_tryOne_130 : decode cX6_tryOne 130 = .ok (.isub, 1) := by decide +kernel
theorem dX6_tryOne_131 : decode cX6_tryOne 131 = .ok (.putfield 162, 3) := by decide +kernel
theorem dX6_tryOne_134 : decode cX6_tryOne 134 = .ok (.aload_n 0, 1) := by decide +kernel
theorem dX6_tryOne_135 : decode cX6_tryOne 135 = .ok (.aload_n 0, 1) := by decide +kernel
theorem dX6_tryOne_136 : decode cX6_tryOne 136 = .ok (.getfield 159, 3) := by decide +kernel
theorem dX6_tryOne_139 : decode cX6_tryOne 139 = .ok (.aload_n 0, 1) := by decide +kernel
theorem dX6_tryOne_140 : decode cX6_tryOne 140 = .ok (.iload_n 1, 1) := by decide +kernel
theorem dX6_tryOne_141 : decode cX6_tryOne 141 = .ok (.invokevirtual 188, 3) := by decide +kernel
theorem dX6_tryOne_144 : decode cX6_tryOne 144 = .ok (.iadd, 1) := by decide +kernel
theorem dX6_tryOne_145 : decode cX6_tryOne 145 = .ok (.invokestatic 192, 3) := by decide +kernel
theorem dX6_tryOne_148 : decode cX6_tryOne 148 = .ok (.putfield 159, 3) := by decide +kernel
theorem dX6_tryOne_151 : decode cX6_tryOne 151 = .ok (.aload_n 0, 1) := by decide +kernel
theorem dX6_tryOne_152 : decode cX6_tryOne 152 = .ok (.getfield 47, 3) := by decide +kernel
theorem dX6_tryOne_155 : decode cX6_tryOne 155 = .ok (.iload_n 1, 1) := by decide +kernel
theorem dX6_tryOne_156 : decode cX6_tryOne 156 = .ok (.aload_n 0, 1) := by decide +kernel
theorem dX6_tryOne_157 : decode cX6_tryOne 157 = .ok (.getfield 165, 3) := by decide +kernel
theorem dX6_tryOne_160 : decode cX6_tryOne 160 = .ok (.aload_n 0, 1) := by decide +kernel
theorem dX6_tryOne_161 : decode cX6_tryOne 161 = .ok (.getfield 16, 3) := by decide +kernel
theorem dX6_tryOne_164 : decode cX6_tryOne 164 = .ok (.iload_n 1, 1) := by decide +kernel
theorem dX6_tryOne_165 : decode cX6_tryOne 165 = .ok (.iaload, 1) := by decide +kernel
theorem dX6_tryOne_166 : decode cX6_tryOne 166 = .ok (.iadd, 1) := by decide +kernel
theorem dX6_tryOne_167 : decode cX6_tryOne 167 = .ok (.iastore, 1) := by decide +kernel
theorem dX6_tryOne_168 : decode cX6_tryOne 168 = .ok (.aload_n 0, 1) := by decide +kernel
theorem dX6_tryOne_169 : decode cX6_tryOne 169 = .ok (.iload_n 1, 1) := by decide +kernel
theorem dX6_tryOne_170 : decode cX6_tryOne 170 = .ok (.putfield 168, 3) := by decide +kernel
theorem dX6_tryOne_173 : decode cX6_tryOne 173 = .ok (.aload_n 0, 1) := by decide +kernel
theorem dX6_tryOne_174 : decode cX6_tryOne 174 = .ok (.aload_n 0, 1) := by decide +kernel
theorem dX6_tryOne_175 : decode cX6_tryOne 175 = .ok (.getfield 159, 3) := by decide +kernel
theorem dX6_tryOne_178 : decode cX6_tryOne 178 = .ok (.invokestatic 195, 3) := by decide +kernel
theorem dX6_tryOne_181 : decode cX6_tryOne 181 = .ok (.putfield 159, 3) := by decide +kernel
theorem dX6_tryOne_184 : decode cX6_tryOne 184 = .ok (.aload_n 0, 1) := by decide +kernel
theorem dX6_tryOne_185 : decode cX6_tryOne 185 = .ok (.aload_n 0, 1) := by decide +kernel
theorem dX6_tryOne_186 : decode cX6_tryOne 186 = .ok (.getfield 162, 3) := by decide +kernel
theorem dX6_tryOne_189 : decode cX6_tryOne 189 = .ok (.aload_n 0, 1) := by decide +kernel
theorem dX6_tryOne_190 : decode cX6_tryOne 190 = .ok (.getfield 29, 3) := by decide +kernel
theorem dX6_tryOne_193 : decode cX6_tryOne 193 = .ok (.iadd, 1) := by decide +kernel
theorem dX6_tryOne_194 : decode cX6_tryOne 194 = .ok (.sipush 999, 3) := by decide +kernel
theorem dX6_tryOne_197 : decode cX6_tryOne 197 = .ok (.if_icmp .le 9, 3) := by decide +kernel
theorem dX6_tryOne_200 : decode cX6_tryOne 200 = .ok (.sipush 999, 3) := by decide +kernel
theorem dX6_tryOne_203 : decode cX6_tryOne 203 = .ok (.goto 12, 3) := by decide +kernel
theorem dX6_tryOne_206 : decode cX6_tryOne 206 = .ok (.aload_n 0, 1) := by decide +kernel
theorem dX6_tryOne_207 : decode cX6_tryOne 207 = .ok (.getfield 162, 3) := by decide +kernel
theorem dX6_tryOne_210 : decode cX6_tryOne 210 = .ok (.aload_n 0, 1) := by decide +kernel
theorem dX6_tryOne_211 : decode cX6_tryOne 211 = .ok (.getfield 29, 3) := by decide +kernel
theorem dX6_tryOne_214 : decode cX6_tryOne 214 = .ok (.iadd, 1) := by decide +kernel
theorem dX6_tryOne_215 : decode cX6_tryOne 215 = .ok (.putfield 162, 3) := by decide +kernel
theorem dX6_tryOne_218 : decode cX6_tryOne 218 = .ok (.aload_n 0, 1) := by decide +kernel
theorem dX6_tryOne_219 : decode cX6_tryOne 219 = .ok (.dup, 1) := by decide +kernel
theorem dX6_tryOne_220 : decode cX6_tryOne 220 = .ok (.getfield 165, 3) := by decide +kernel
theorem dX6_tryOne_223 : decode cX6_tryOne 223 = .ok (.iconst 1, 1) := by decide +kernel
theorem dX6_tryOne_224 : decode cX6_tryOne 224 = .ok (.iadd, 1) := by decide +kernel
theorem dX6_tryOne_225 : decode cX6_tryOne 225 = .ok (.putfield 165, 3) := by decide +kernel
theorem dX6_tryOne_228 : decode cX6_tryOne 228 = .ok (.iconst 1, 1) := by decide +kernel
theorem dX6_tryOne_229 : decode cX6_tryOne 229 = .ok (.ireturn, 1) := by decide +kernel
theorem dX6_keep_0 : decode cX6_keep 0 = .ok (.aload_n 0, 1) := by decide +kernel
theorem dX6_keep_1 : decode cX6_keep 1 = .ok (.aload_n 0, 1) := by decide +kernel
theorem dX6_keep_2 : decode cX6_keep 2 = .ok (.getfield 159, 3) := by decide +kernel
theorem dX6_keep_5 : decode cX6_keep 5 = .ok (.putfield 112, 3) := by decide +kernel
theorem dX6_keep_8 : decode cX6_keep 8 = .ok (.aload_n 0, 1) := by decide +kernel
theorem dX6_keep_9 : decode cX6_keep 9 = .ok (.aload_n 0, 1) := by decide +kernel
theorem dX6_keep_10 : decode cX6_keep 10 = .ok (.getfield 162, 3) := by decide +kernel
theorem dX6_keep_13 : decode cX6_keep 13 = .ok (.putfield 25, 3) := by decide +kernel
theorem dX6_keep_16 : decode cX6_keep 16 = .ok (.aload_n 0, 1) := by decide +kernel
theorem dX6_keep_17 : decode cX6_keep 17 = .ok (.aload_n 0, 1) := by decide +kernel
theorem dX6_keep_18 : decode cX6_keep 18 = .ok (.getfield 165, 3) := by decide +kernel
theorem dX6_keep_21 : decode cX6_keep 21 = .ok (.putfield 98, 3) := by decide +kernel
theorem dX6_keep_24 : decode cX6_keep 24 = .ok (.aload_n 0, 1) := by decide +kernel
theorem dX6_keep_25 : decode cX6_keep 25 = .ok (.aload_n 0, 1) := by decide +kernel
theorem dX6_keep_26 : decode cX6_keep 26 = .ok (.getfield 168, 3) := by decide +kernel
theorem dX6_keep_29 : decode cX6_keep 29 = .ok (.putfield 32, 3) := by decide +kernel
theorem dX6_keep_32 : decode cX6_keep 32 = .ok (.aload_n 0, 1) := by decide +kernel
theorem dX6_keep_33 : decode cX6_keep 33 = .ok (.dup, 1) := by decide +kernel
theorem dX6_keep_34 : decode cX6_keep 34 = .ok (.getfield 115, 3) := by decide +kernel
theorem dX6_keep_37 : decode cX6_keep 37 = .ok (.aload_n 0, 1) := by decide +kernel
theorem dX6_keep_38 : decode cX6_keep 38 = .ok (.getfield 174, 3) := by decide +kernel
theorem dX6_keep_41 : decode cX6_keep 41 = .ok (.ifCond .eq 10, 3) := by decide +kernel
theorem dX6_keep_44 : decode cX6_keep 44 = .ok (.aload_n 0, 1) := by decide +kernel
theorem dX6_keep_45 : decode cX6_keep 45 = .ok (.getfield 171, 3) := by decide +kernel
theorem dX6_keep_48 : decode cX6_keep 48 = .ok (.goto 4, 3) := by decide +kernel
theorem dX6_keep_51 : decode cX6_keep 51 = .ok (.iconst 0, 1) := by decide +kernel
theorem dX6_keep_52 : decode cX6_keep 52 = .ok (.iadd, 1) := by decide +kernel
theorem dX6_keep_53 : decode cX6_keep 53 = .ok (.putfield 115, 3) := by decide +kernel
theorem dX6_keep_56 : decode cX6_keep 56 = .ok (.aload_n 0, 1) := by decide +kernel
theorem dX6_keep_57 : decode cX6_keep 57 = .ok (.dup, 1) := by decide +kernel
theorem dX6_keep_58 : decode cX6_keep 58 = .ok (.getfield 118, 3) := by decide +kernel
theorem dX6_keep_61 : decode cX6_keep 61 = .ok (.aload_n 0, 1) := by decide +kernel
theorem dX6_keep_62 : decode cX6_keep 62 = .ok (.getfield 174, 3) := by decide +kernel
theorem dX6_keep_65 : decode cX6_keep 65 = .ok (.ifCond .eq 7, 3) := by decide +kernel
theorem dX6_keep_68 : decode cX6_keep 68 = .ok (.iconst 0, 1) := by decide +kernel
theorem dX6_keep_69 : decode cX6_keep 69 = .ok (.goto 7, 3) := by decide +kernel
theorem dX6_keep_72 : decode cX6_keep 72 = .ok (.aload_n 0, 1) := by decide +kernel
theorem dX6_keep_73 : decode cX6_keep 73 = .ok (.getfield 171, 3) := by decide +kernel
theorem dX6_keep_76 : decode cX6_keep 76 = .ok (.iadd, 1) := by decide +kernel
theorem dX6_keep_77 : decode cX6_keep 77 = .ok (.putfield 118, 3) := by decide +kernel
theorem dX6_keep_80 : decode cX6_keep 80 = .ok (.iconst 0, 1) := by decide +kernel
theorem dX6_keep_81 : decode cX6_keep 81 = .ok (.istore_n 1, 1) := by decide +kernel
theorem dX6_keep_82 : decode cX6_keep 82 = .ok (.iload_n 1, 1) := by decide +kernel
theorem dX6_keep_83 : decode cX6_keep 83 = .ok (.bipush 6, 2) := by decide +kernel
theorem dX6_keep_85 : decode cX6_keep 85 = .ok (.if_icmp .ge 21, 3) := by decide +kernel
theorem dX6_keep_88 : decode cX6_keep 88 = .ok (.aload_n 0, 1) := by decide +kernel
theorem dX6_keep_89 : decode cX6_keep 89 = .ok (.getfield 22, 3) := by decide +kernel
theorem dX6_keep_92 : decode cX6_keep 92 = .ok (.iload_n 1, 1) := by decide +kernel
theorem dX6_keep_93 : decode cX6_keep 93 = .ok (.aload_n 0, 1) := by decide +kernel
theorem dX6_keep_94 : decode cX6_keep 94 = .ok (.getfield 47, 3) := by decide +kernel
theorem dX6_keep_97 : decode cX6_keep 97 = .ok (.iload_n 1, 1) := by decide +kernel
theorem dX6_keep_98 : decode cX6_keep 98 = .ok (.iaload, 1) := by decide +kernel
theorem dX6_keep_99 : decode cX6_keep 99 = .ok (.iastore, 1) := by decide +kernel
theorem dX6_keep_100 : decode cX6_keep 100 = .ok (.iinc 1 1, 3) := by decide +kernel
theorem dX6_keep_103 : decode cX6_keep 103 = .ok (.goto (-21), 3) := by decide +kernel
theorem dX6_keep_106 : decode cX6_keep 106 = .ok (.return_, 1) := by decide +kernel
theorem dX6_goOn_0 : decode cX6_goOn 0 = .ok (.aload_n 0, 1) := by decide +kernel
theorem dX6_goOn_1 : decode cX6_goOn 1 = .ok (.invokevirtual 198, 3) := by decide +kernel
theorem dX6_goOn_4 : decode cX6_goOn 4 = .ok (.aload_n 0, 1) := by decide +kernel
theorem dX6_goOn_5 : decode cX6_goOn 5 = .ok (.iload_n 1, 1) := by decide +kernel
theorem dX6_goOn_6 : decode cX6_goOn 6 = .ok (.invokevirtual 201, 3) := by decide +kernel
theorem dX6_goOn_9 : decode cX6_goOn 9 = .ok (.ifCond .ne 6, 3) := by decide +kernel
theorem dX6_goOn_12 : decode cX6_goOn 12 = .ok (.bipush (-2), 2) := by decide +kernel
theorem dX6_goOn_14 : decode cX6_goOn 14 = .ok (.ireturn, 1) := by decide +kernel
theorem dX6_goOn_15 : decode cX6_goOn 15 = .ok (.aload_n 0, 1) := by decide +kernel
theorem dX6_goOn_16 : decode cX6_goOn 16 = .ok (.invokevirtual 204, 3) := by decide +kernel
theorem dX6_goOn_19 : decode cX6_goOn 19 = .ok (.aload_n 0, 1) := by decide +kernel
theorem dX6_goOn_20 : decode cX6_goOn 20 = .ok (.getfield 171, 3) := by decide +kernel
theorem dX6_goOn_23 : decode cX6_goOn 23 = .ok (.ireturn, 1) := by decide +kernel
theorem dX6_may_0 : decode cX6_may 0 = .ok (.iconst 0, 1) := by decide +kernel
theorem dX6_may_1 : decode cX6_may 1 = .ok (.istore_n 1, 1) := by decide +kernel
theorem dX6_may_2 : decode cX6_may 2 = .ok (.iconst 0, 1) := by decide +kernel
theorem dX6_may_3 : decode cX6_may 3 = .ok (.istore_n 2, 1) := by decide +kernel
theorem dX6_may_4 : decode cX6_may 4 = .ok (.iload_n 2, 1) := by decide +kernel
theorem dX6_may_5 : decode cX6_may 5 = .ok (.aload_n 0, 1) := by decide +kernel
theorem dX6_may_6 : decode cX6_may 6 = .ok (.getfield 72, 3) := by decide +kernel
theorem dX6_may_9 : decode cX6_may 9 = .ok (.if_icmp .ge 32, 3) := by decide +kernel
theorem dX6_may_12 : decode cX6_may 12 = .ok (.iload_n 1, 1) := by decide +kernel
theorem dX6_may_13 : decode cX6_may 13 = .ok (.aload_n 0, 1) := by decide +kernel
theorem dX6_may_14 : decode cX6_may 14 = .ok (.getfield 22, 3) := by decide +kernel
theorem dX6_may_17 : decode cX6_may 17 = .ok (.iload_n 2, 1) := by decide +kernel
theorem dX6_may_18 : decode cX6_may 18 = .ok (.iaload, 1) := by decide +kernel
theorem dX6_may_19 : decode cX6_may 19 = .ok (.aload_n 0, 1) := by decide +kernel
theorem dX6_may_20 : decode cX6_may 20 = .ok (.getfield 98, 3) := by decide +kernel
theorem dX6_may_23 : decode cX6_may 23 = .ok (.if_icmp .gt 9, 3) := by decide +kernel
theorem dX6_may_26 : decode cX6_may 26 = .ok (.iconst 1, 1) := by decide +kernel
theorem dX6_may_27 : decode cX6_may 27 = .ok (.iload_n 2, 1) := by decide +kernel
theorem dX6_may_28 : decode cX6_may 28 = .ok (.ishl, 1) := by decide +kernel
theorem dX6_may_29 : decode cX6_may 29 = .ok (.goto 4, 3) := by decide +kernel
theorem dX6_may_32 : decode cX6_may 32 = .ok (.iconst 0, 1) := by decide +kernel
theorem dX6_may_33 : decode cX6_may 33 = .ok (.ior, 1) := by decide +kernel
theorem dX6_may_34 : decode cX6_may 34 = .ok (.istore_n 1, 1) := by decide +kernel
theorem dX6_may_35 : decode cX6_may 35 = .ok (.iinc 2 1, 3) := by decide +kernel
theorem dX6_may_38 : decode cX6_may 38 = .ok (.goto (-34), 3) := by decide +kernel
theorem dX6_may_41 : decode cX6_may 41 = .ok (.iload_n 1, 1) := by decide +kernel
theorem dX6_may_42 : decode cX6_may 42 = .ok (.ireturn, 1) := by decide +kernel
theorem dX6_draw_0 : decode cX6_draw 0 = .ok (.iload_n 1, 1) := by decide +kernel
theorem dX6_draw_1 : decode cX6_draw 1 = .ok (.bipush 9, 2) := by decide +kernel
theorem dX6_draw_3 : decode cX6_draw 3 = .ok (.if_icmp .eq 13, 3) := by decide +kernel
theorem dX6_draw_6 : decode cX6_draw 6 = .ok (.aload_n 0, 1) := by decide +kernel
theorem dX6_draw_7 : decode cX6_draw 7 = .ok (.iload_n 1, 1) := by decide +kernel
theorem dX6_draw_8 : decode cX6_draw 8 = .ok (.invokevirtual 91, 3) := by decide +kernel
theorem dX6_draw_11 : decode cX6_draw 11 = .ok (.ifCond .ne 5, 3) := by decide +kernel
theorem dX6_draw_14 : decode cX6_draw 14 = .ok (.iconst (-1), 1) := by decide +kernel
theorem dX6_draw_15 : decode cX6_draw 15 = .ok (.ireturn, 1) := by decide +kernel
theorem dX6_draw_16 : decode cX6_draw 16 = .ok (.iload_n 1, 1) := by decide +kernel
theorem dX6_draw_17 : decode cX6_draw 17 = .ok (.bipush 9, 2) := by decide +kernel
theorem dX6_draw_19 : decode cX6_draw 19 = .ok (.if_icmp .eq 19, 3) := by decide +kernel
theorem dX6_draw_22 : decode cX6_draw 22 = .ok (.aload_n 0, 1) := by decide +kernel
theorem dX6_draw_23 : decode cX6_draw 23 = .ok (.getfield 22, 3) := by decide +kernel
theorem dX6_draw_26 : decode cX6_draw 26 = .ok (.iload_n 1, 1) := by decide +kernel
theorem dX6_draw_27 : decode cX6_draw 27 = .ok (.iaload, 1) := by decide +kernel
theorem dX6_draw_28 : decode cX6_draw 28 = .ok (.aload_n 0, 1) := by decide +kernel
theorem dX6_draw_29 : decode cX6_draw 29 = .ok (.getfield 98, 3) := by decide +kernel
theorem dX6_draw_32 : decode cX6_draw 32 = .ok (.if_icmp .le 6, 3) := by decide +kernel
theorem dX6_draw_35 : decode cX6_draw 35 = .ok (.bipush (-2), 2) := by decide +kernel
theorem dX6_draw_37 : decode cX6_draw 37 = .ok (.ireturn, 1) := by decide +kernel
theorem dX6_draw_38 : decode cX6_draw 38 = .ok (.aload_n 0, 1) := by decide +kernel
theorem dX6_draw_39 : decode cX6_draw 39 = .ok (.getfield 98, 3) := by decide +kernel
theorem dX6_draw_42 : decode cX6_draw 42 = .ok (.sipush 9999, 3) := by decide +kernel
theorem dX6_draw_45 : decode cX6_draw 45 = .ok (.if_icmp .ne 8, 3) := by decide +kernel
theorem dX6_draw_48 : decode cX6_draw 48 = .ok (.bipush (-3), 2) := by decide +kernel
theorem dX6_draw_50 : decode cX6_draw 50 = .ok (.goto 8, 3) := by decide +kernel
theorem dX6_draw_53 : decode cX6_draw 53 = .ok (.aload_n 0, 1) := by decide +kernel
theorem dX6_draw_54 : decode cX6_draw 54 = .ok (.iload_n 1, 1) := by decide +kernel
theorem dX6_draw_55 : decode cX6_draw 55 = .ok (.invokevirtual 207, 3) := by decide +kernel
theorem dX6_draw_58 : decode cX6_draw 58 = .ok (.ireturn, 1) := by decide +kernel
theorem dX6_pass_0 : decode cX6_pass 0 = .ok (.iload_n 1, 1) := by decide +kernel
theorem dX6_pass_1 : decode cX6_pass 1 = .ok (.i2l, 1) := by decide +kernel
theorem dX6_pass_2 : decode cX6_pass 2 = .ok (.lconst 1, 1) := by decide +kernel
theorem dX6_pass_3 : decode cX6_pass 3 = .ok (.ldc2_w 210, 3) := by decide +kernel
theorem dX6_pass_6 : decode cX6_pass 6 = .ok (.invokestatic 75, 3) := by decide +kernel
theorem dX6_pass_9 : decode cX6_pass 9 = .ok (.ifCond .ne 5, 3) := by decide +kernel
theorem dX6_pass_12 : decode cX6_pass 12 = .ok (.iconst (-1), 1) := by decide +kernel
theorem dX6_pass_13 : decode cX6_pass 13 = .ok (.ireturn, 1) := by decide +kernel
theorem dX6_pass_14 : decode cX6_pass 14 = .ok (.aload_n 0, 1) := by decide +kernel
theorem dX6_pass_15 : decode cX6_pass 15 = .ok (.getfield 98, 3) := by decide +kernel
theorem dX6_pass_18 : decode cX6_pass 18 = .ok (.iload_n 1, 1) := by decide +kernel
theorem dX6_pass_19 : decode cX6_pass 19 = .ok (.iadd, 1) := by decide +kernel
theorem dX6_pass_20 : decode cX6_pass 20 = .ok (.sipush 9999, 3) := by decide +kernel
theorem dX6_pass_23 : decode cX6_pass 23 = .ok (.if_icmp .le 6, 3) := by decide +kernel
theorem dX6_pass_26 : decode cX6_pass 26 = .ok (.bipush (-3), 2) := by decide +kernel
theorem dX6_pass_28 : decode cX6_pass 28 = .ok (.ireturn, 1) := by decide +kernel
theorem dX6_pass_29 : decode cX6_pass 29 = .ok (.iconst 0, 1) := by decide +kernel
theorem dX6_pass_30 : decode cX6_pass 30 = .ok (.istore_n 2, 1) := by decide +kernel
theorem dX6_pass_31 : decode cX6_pass 31 = .ok (.iload_n 2, 1) := by decide +kernel
theorem dX6_pass_32 : decode cX6_pass 32 = .ok (.iload_n 1, 1) := by decide +kernel
theorem dX6_pass_33 : decode cX6_pass 33 = .ok (.if_icmp .ge 16, 3) := by decide +kernel
theorem dX6_pass_36 : decode cX6_pass 36 = .ok (.aload_n 0, 1) := by decide +kernel
theorem dX6_pass_37 : decode cX6_pass 37 = .ok (.bipush 9, 2) := by decide +kernel
theorem dX6_pass_39 : decode cX6_pass 39 = .ok (.invokevirtual 207, 3) := by decide +kernel
theorem dX6_pass_42 : decode cX6_pass 42 = .ok (.pop, 1) := by decide +kernel
theorem dX6_pass_43 : decode cX6_pass 43 = .ok (.iinc 2 1, 3) := by decide +kernel
theorem dX6_pass_46 : decode cX6_pass 46 = .ok (.goto (-15), 3) := by decide +kernel
theorem dX6_pass_49 : decode cX6_pass 49 = .ok (.aload_n 0, 1) := by decide +kernel
theorem dX6_pass_50 : decode cX6_pass 50 = .ok (.getfield 98, 3) := by decide +kernel
theorem dX6_pass_53 : decode cX6_pass 53 = .ok (.ireturn, 1) := by decide +kernel
theorem dX6_run_0 : decode cX6_run 0 = .ok (.aload_n 0, 1) := by decide +kernel
theorem dX6_run_1 : decode cX6_run 1 = .ok (.getfield 98, 3) := by decide +kernel
theorem dX6_run_4 : decode cX6_run 4 = .ok (.aload_n 0, 1) := by decide +kernel
theorem dX6_run_5 : decode cX6_run 5 = .ok (.getfield 121, 3) := by decide +kernel
theorem dX6_run_8 : decode cX6_run 8 = .ok (.iadd, 1) := by decide +kernel
theorem dX6_run_9 : decode cX6_run 9 = .ok (.sipush 9999, 3) := by decide +kernel
theorem dX6_run_12 : decode cX6_run 12 = .ok (.if_icmp .le 6, 3) := by decide +kernel
theorem dX6_run_15 : decode cX6_run 15 = .ok (.bipush (-3), 2) := by decide +kernel
theorem dX6_run_17 : decode cX6_run 17 = .ok (.ireturn, 1) := by decide +kernel
theorem dX6_run_18 : decode cX6_run 18 = .ok (.iconst 0, 1) := by decide +kernel
theorem dX6_run_19 : decode cX6_run 19 = .ok (.istore_n 1, 1) := by decide +kernel
theorem dX6_run_20 : decode cX6_run 20 = .ok (.iload_n 1, 1) := by decide +kernel
theorem dX6_run_21 : decode cX6_run 21 = .ok (.aload_n 0, 1) := by decide +kernel
theorem dX6_run_22 : decode cX6_run 22 = .ok (.getfield 121, 3) := by decide +kernel
theorem dX6_run_25 : decode cX6_run 25 = .ok (.if_icmp .ge 22, 3) := by decide +kernel
theorem dX6_run_28 : decode cX6_run 28 = .ok (.aload_n 0, 1) := by decide +kernel
theorem dX6_run_29 : decode cX6_run 29 = .ok (.aload_n 0, 1) := by decide +kernel
theorem dX6_run_30 : decode cX6_run 30 = .ok (.getfield 35, 3) := by decide +kernel
theorem dX6_run_33 : decode cX6_run 33 = .ok (.iload_n 1, 1) := by decide +kernel
theorem dX6_run_34 : decode cX6_run 34 = .ok (.iaload, 1) := by decide +kernel
theorem dX6_run_35 : decode cX6_run 35 = .ok (.invokevirtual 207, 3) := by decide +kernel
theorem dX6_run_38 : decode cX6_run 38 = .ok (.ifCond .lt 9, 3) := by decide +kernel
theorem dX6_run_41 : decode cX6_run 41 = .ok (.iinc 1 1, 3) := by decide +kernel
theorem dX6_run_44 : decode cX6_run 44 = .ok (.goto (-24), 3) := by decide +kernel
theorem dX6_run_47 : decode cX6_run 47 = .ok (.iload_n 1, 1) := by decide +kernel
theorem dX6_run_48 : decode cX6_run 48 = .ok (.ireturn, 1) := by decide +kernel
theorem dX6_nextRow_0 : decode cX6_nextRow 0 = .ok (.iload_n 1, 1) := by decide +kernel
theorem dX6_nextRow_1 : decode cX6_nextRow 1 = .ok (.iconst 1, 1) := by decide +kernel
theorem dX6_nextRow_2 : decode cX6_nextRow 2 = .ok (.isub, 1) := by decide +kernel
theorem dX6_nextRow_3 : decode cX6_nextRow 3 = .ok (.istore_n 2, 1) := by decide +kernel
theorem dX6_nextRow_4 : decode cX6_nextRow 4 = .ok (.iload_n 2, 1) := by decide +kernel
theorem dX6_nextRow_5 : decode cX6_nextRow 5 = .ok (.ifCond .lt 41, 3) := by decide +kernel
theorem dX6_nextRow_8 : decode cX6_nextRow 8 = .ok (.aload_n 0, 1) := by decide +kernel
theorem dX6_nextRow_9 : decode cX6_nextRow 9 = .ok (.getfield 50, 3) := by decide +kernel
theorem dX6_nextRow_12 : decode cX6_nextRow 12 = .ok (.iload_n 2, 1) := by decide +kernel
theorem dX6_nextRow_13 : decode cX6_nextRow 13 = .ok (.dup2, 1) := by decide +kernel
theorem dX6_nextRow_14 : decode cX6_nextRow 14 = .ok (.iaload, 1) := by decide +kernel
theorem dX6_nextRow_15 : decode cX6_nextRow 15 = .ok (.iconst 1, 1) := by decide +kernel
theorem dX6_nextRow_16 : decode cX6_nextRow 16 = .ok (.iadd, 1) := by decide +kernel
theorem dX6_nextRow_17 : decode cX6_nextRow 17 = .ok (.iastore, 1) := by decide +kernel
theorem dX6_nextRow_18 : decode cX6_nextRow 18 = .ok (.aload_n 0, 1) := by decide +kernel
theorem dX6_nextRow_19 : decode cX6_nextRow 19 = .ok (.getfield 50, 3) := by decide +kernel
theorem dX6_nextRow_22 : decode cX6_nextRow 22 = .ok (.iload_n 2, 1) := by decide +kernel
theorem dX6_nextRow_23 : decode cX6_nextRow 23 = .ok (.iaload, 1) := by decide +kernel
theorem dX6_nextRow_24 : decode cX6_nextRow 24 = .ok (.aload_n 0, 1) := by decide +kernel
theorem dX6_nextRow_25 : decode cX6_nextRow 25 = .ok (.getfield 72, 3) := by decide +kernel
theorem dX6_nextRow_28 : decode cX6_nextRow 28 = .ok (.if_icmp .gt 5, 3) := by decide +kernel
theorem dX6_nextRow_31 : decode cX6_nextRow 31 = .ok (.iconst 1, 1) := by decide +kernel
theorem dX6_nextRow_32 : decode cX6_nextRow 32 = .ok (.ireturn, 1) := by decide +kernel
theorem dX6_nextRow_33 : decode cX6_nextRow 33 = .ok (.aload_n 0, 1) := by decide +kernel
theorem dX6_nextRow_34 : decode cX6_nextRow 34 = .ok (.getfield 50, 3) := by decide +kernel
theorem dX6_nextRow_37 : decode cX6_nextRow 37 = .ok (.iload_n 2, 1) := by decide +kernel
theorem dX6_nextRow_38 : decode cX6_nextRow 38 = .ok (.iconst 0, 1) := by decide +kernel
theorem dX6_nextRow_39 : decode cX6_nextRow 39 = .ok (.iastore, 1) := by decide +kernel
theorem dX6_nextRow_40 : decode cX6_nextRow 40 = .ok (.iinc 2 (-1), 3) := by decide +kernel
theorem dX6_nextRow_43 : decode cX6_nextRow 43 = .ok (.goto (-39), 3) := by decide +kernel
theorem dX6_nextRow_46 : decode cX6_nextRow 46 = .ok (.iconst 0, 1) := by decide +kernel
theorem dX6_nextRow_47 : decode cX6_nextRow 47 = .ok (.ireturn, 1) := by decide +kernel
theorem dX6_findMost_0 : decode cX6_findMost 0 = .ok (.iconst 0, 1) := by decide +kernel
theorem dX6_findMost_1 : decode cX6_findMost 1 = .ok (.istore_n 3, 1) := by decide +kernel
theorem dX6_findMost_2 : decode cX6_findMost 2 = .ok (.iload_n 3, 1) := by decide +kernel
theorem dX6_findMost_3 : decode cX6_findMost 3 = .ok (.iload_n 1, 1) := by decide +kernel
theorem dX6_findMost_4 : decode cX6_findMost 4 = .ok (.if_icmp .ge 16, 3) := by decide +kernel
theorem dX6_findMost_7 : decode cX6_findMost 7 = .ok (.aload_n 0, 1) := by decide +kernel
theorem dX6_findMost_8 : decode cX6_findMost 8 = .ok (.getfield 50, 3) := by decide +kernel
theorem dX6_findMost_11 : decode cX6_findMost 11 = .ok (.iload_n 3, 1) := by decide +kernel
theorem dX6_findMost_12 : decode cX6_findMost 12 = .ok (.iconst 0, 1) := by decide +kernel
theorem dX6_findMost_13 : decode cX6_findMost 13 = .ok (.iastore, 1) := by decide +kernel
theorem dX6_findMost_14 : decode cX6_findMost 14 = .ok (.iinc 3 1, 3) := by decide +kernel
theorem dX6_findMost_17 : decode cX6_findMost 17 = .ok (.goto (-15), 3) := by decide +kernel
theorem dX6_findMost_20 : decode cX6_findMost 20 = .ok (.iconst (-1), 1) := by decide +kernel
theorem dX6_findMost_21 : decode cX6_findMost 21 = .ok (.istore_n 3, 1) := by decide +kernel
theorem dX6_findMost_22 : decode cX6_findMost 22 = .ok (.iconst 1, 1) := by decide +kernel
theorem dX6_findMost_23 : decode cX6_findMost 23 = .ok (.istore 4, 2) := by decide +kernel
theorem dX6_findMost_25 : decode cX6_findMost 25 = .ok (.iload 4, 2) := by decide +kernel
theorem dX6_findMost_27 : decode cX6_findMost 27 = .ok (.ifCond .eq 167, 3) := by decide +kernel
theorem dX6_findMost_30 : decode cX6_findMost 30 = .ok (.aload_n 0, 1) := by decide +kernel
theorem dX6_findMost_31 : decode cX6_findMost 31 = .ok (.invokevirtual 198, 3) := by decide +kernel
theorem dX6_findMost_34 : decode cX6_findMost 34 = .ok (.aload_n 0, 1) := by decide +kernel
theorem dX6_findMost_35 : decode cX6_findMost 35 = .ok (.iload_n 2, 1) := by decide +kernel
theorem dX6_findMost_36 : decode cX6_findMost 36 = .ok (.putfield 159, 3) := by decide +kernel
theorem dX6_findMost_39 : decode cX6_findMost 39 = .ok (.iconst 0, 1) := by decide +kernel
theorem dX6_findMost_40 : decode cX6_findMost 40 = .ok (.istore 5, 2) := by decide +kernel
theorem dX6_findMost_42 : decode cX6_findMost 42 = .ok (.iconst 1, 1) := by decide +kernel
theorem dX6_findMost_43 : decode cX6_findMost 43 = .ok (.istore 6, 2) := by decide +kernel
theorem dX6_findMost_45 : decode cX6_findMost 45 = .ok (.iconst 0, 1) := by decide +kernel
theorem dX6_findMost_46 : decode cX6_findMost 46 = .ok (.istore 7, 2) := by decide +kernel
theorem dX6_findMost_48 : decode cX6_findMost 48 = .ok (.iload 7, 2) := by decide +kernel
theorem dX6_findMost_50 : decode cX6_findMost 50 = .ok (.iload_n 1, 1) := by decide +kernel
theorem dX6_findMost_51 : decode cX6_findMost 51 = .ok (.if_icmp .ge 71, 3) := by decide +kernel
theorem dX6_findMost_54 : decode cX6_findMost 54 = .ok (.iload 6, 2) := by decide +kernel
theorem dX6_findMost_56 : decode cX6_findMost 56 = .ok (.ifCond .eq 66, 3) := by decide +kernel
theorem dX6_findMost_59 : decode cX6_findMost 59 = .ok (.aload_n 0, 1) := by decide +kernel
theorem dX6_findMost_60 : decode cX6_findMost 60 = .ok (.aload_n 0, 1) := by decide +kernel
theorem dX6_findMost_61 : decode cX6_findMost 61 = .ok (.getfield 50, 3) := by decide +kernel
theorem dX6_findMost_64 : decode cX6_findMost 64 = .ok (.iload 7, 2) := by decide +kernel
theorem dX6_findMost_66 : decode cX6_findMost 66 = .ok (.iaload, 1) := by decide +kernel
theorem dX6_findMost_67 : decode cX6_findMost 67 = .ok (.aload_n 0, 1) := by decide +kernel
theorem dX6_findMost_68 : decode cX6_findMost 68 = .ok (.getfield 72, 3) := by decide +kernel
theorem dX6_findMost_71 : decode cX6_findMost 71 = .ok (.if_icmp .ne 8, 3) := by decide +kernel
theorem dX6_findMost_74 : decode cX6_findMost 74 = .ok (.bipush 9, 2) := by decide +kernel
theorem dX6_findMost_76 : decode cX6_findMost 76 = .ok (.goto 10, 3) := by decide +kernel
theorem dX6_findMost_79 : decode cX6_findMost 79 = .ok (.aload_n 0, 1) := by decide +kernel
theorem dX6_findMost_80 : decode cX6_findMost 80 = .ok (.getfield 50, 3) := by decide +kernel
theorem dX6_findMost_83 : decode cX6_findMost 83 = .ok (.iload 7, 2) := by decide +kernel
theorem dX6_findMost_85 : decode cX6_findMost 85 = .ok (.iaload, 1) := by decide +kernel
theorem dX6_findMost_86 : decode cX6_findMost 86 = .ok (.invokevirtual 201, 3) := by decide +kernel
theorem dX6_findMost_89 : decode cX6_findMost 89 = .ok (.istore 6, 2) := by decide +kernel
theorem dX6_findMost_91 : decode cX6_findMost 91 = .ok (.iload 5, 2) := by decide +kernel
theorem dX6_findMost_93 : decode cX6_findMost 93 = .ok (.iload 6, 2) := by decide +kernel
theorem dX6_findMost_95 : decode cX6_findMost 95 = .ok (.ifCond .eq 17, 3) := by decide +kernel
theorem dX6_findMost_98 : decode cX6_findMost 98 = .ok (.aload_n 0, 1) := by decide +kernel
theorem dX6_findMost_99 : decode cX6_findMost 99 = .ok (.getfield 174, 3) := by decide +kernel
theorem dX6_findMost_102 : decode cX6_findMost 102 = .ok (.ifCond .eq 10, 3) := by decide +kernel
theorem dX6_findMost_105 : decode cX6_findMost 105 = .ok (.aload_n 0, 1) := by decide +kernel
theorem dX6_findMost_106 : decode cX6_findMost 106 = .ok (.getfield 171, 3) := by decide +kernel
theorem dX6_findMost_109 : decode cX6_findMost 109 = .ok (.goto 4, 3) := by decide +kernel
theorem dX6_findMost_112 : decode cX6_findMost 112 = .ok (.iconst 0, 1) := by decide +kernel
theorem dX6_findMost_113 : decode cX6_findMost 113 = .ok (.iadd, 1) := by decide +kernel
theorem dX6_findMost_114 : decode cX6_findMost 114 = .ok (.istore 5, 2) := by decide +kernel
theorem dX6_findMost_116 : decode cX6_findMost 116 = .ok (.iinc 7 1, 3) := by decide +kernel
theorem dX6_findMost_119 : decode cX6_findMost 119 = .ok (.goto (-71), 3) := by decide +kernel
theorem dX6_findMost_122 : decode cX6_findMost 122 = .ok (.iload 6, 2) := by decide +kernel
theorem dX6_findMost_124 : decode cX6_findMost 124 = .ok (.ifCond .eq 60, 3) := by decide +kernel
theorem dX6_findMost_127 : decode cX6_findMost 127 = .ok (.iload 5, 2) := by decide +kernel
theorem dX6_findMost_129 : decode cX6_findMost 129 = .ok (.iload_n 3, 1) := by decide +kernel
theorem dX6_findMost_130 : decode cX6_findMost 130 = .ok (.if_icmp .le 54, 3) := by decide +kernel
theorem dX6_findMost_133 : decode cX6_findMost 133 = .ok (.iload 5, 2) := by decide +kernel
theorem dX6_findMost_135 : decode cX6_findMost 135 = .ok (.istore_n 3, 1) := by decide +kernel
theorem dX6_findMost_136 : decode cX6_findMost 136 = .ok (.iconst 0, 1) := by decide +kernel
theorem dX6_findMost_137 : decode cX6_findMost 137 = .ok (.istore 7, 2) := by decide +kernel
theorem dX6_findMost_139 : decode cX6_findMost 139 = .ok (.iload 7, 2) := by decide +kernel
theorem dX6_findMost_141 : decode cX6_findMost 141 = .ok (.iload_n 1, 1) := by decide +kernel
theorem dX6_findMost_142 : decode cX6_findMost 142 = .ok (.if_icmp .ge 42, 3) := by decide +kernel
theorem dX6_findMost_145 : decode cX6_findMost 145 = .ok (.aload_n 0, 1) := by decide +kernel
theorem dX6_findMost_146 : decode cX6_findMost 146 = .ok (.getfield 53, 3) := by decide +kernel
theorem dX6_findMost_149 : decode cX6_findMost 149 = .ok (.iload 7, 2) := by decide +kernel
theorem dX6_findMost_151 : decode cX6_findMost 151 = .ok (.aload_n 0, 1) := by decide +kernel
theorem dX6_findMost_152 : decode cX6_findMost 152 = .ok (.getfield 50, 3) := by decide +kernel
theorem dX6_findMost_155 : decode cX6_findMost 155 = .ok (.iload 7, 2) := by decide +kernel
theorem dX6_findMost_157 : decode cX6_findMost 157 = .ok (.iaload, 1) := by decide +kernel
theorem dX6_findMost_158 : decode cX6_findMost 158 = .ok (.aload_n 0, 1) := by decide +kernel
theorem dX6_findMost_159 : decode cX6_findMost 159 = .ok (.getfield 72, 3) := by decide +kernel
theorem dX6_findMost_162 : decode cX6_findMost 162 = .ok (.if_icmp .ne 8, 3) := by decide +kernel
theorem dX6_findMost_165 : decode cX6_findMost 165 = .ok (.bipush 9, 2) := by decide +kernel
theorem dX6_findMost_167 : decode cX6_findMost 167 = .ok (.goto 10, 3) := by decide +kernel
theorem dX6_findMost_170 : decode cX6_findMost 170 = .ok (.aload_n 0, 1) := by decide +kernel
theorem dX6_findMost_171 : decode cX6_findMost 171 = .ok (.getfield 50, 3) := by decide +kernel
theorem dX6_findMost_174 : decode cX6_findMost 174 = .ok (.iload 7, 2) := by decide +kernel
theorem dX6_findMost_176 : decode cX6_findMost 176 = .ok (.iaload, 1) := by decide +kernel
theorem dX6_findMost_177 : decode cX6_findMost 177 = .ok (.iastore, 1) := by decide +kernel
theorem dX6_findMost_178 : decode cX6_findMost 178 = .ok (.iinc 7 1, 3) := by decide +kernel
theorem dX6_findMost_181 : decode cX6_findMost 181 = .ok (.goto (-42), 3) := by decide +kernel
theorem dX6_findMost_184 : decode cX6_findMost 184 = .ok (.aload_n 0, 1) := by decide +kernel
theorem dX6_findMost_185 : decode cX6_findMost 185 = .ok (.iload_n 1, 1) := by decide +kernel
theorem dX6_findMost_186 : decode cX6_findMost 186 = .ok (.invokevirtual 212, 3) := by decide +kernel
theorem dX6_findMost_189 : decode cX6_findMost 189 = .ok (.istore 4, 2) := by decide +kernel
theorem dX6_findMost_191 : decode cX6_findMost 191 = .ok (.goto (-166), 3) := by decide +kernel
theorem dX6_findMost_194 : decode cX6_findMost 194 = .ok (.iload_n 3, 1) := by decide +kernel
theorem dX6_findMost_195 : decode cX6_findMost 195 = .ok (.ireturn, 1) := by decide +kernel
theorem dX6_most_0 : decode cX6_most 0 = .ok (.iload_n 1, 1) := by decide +kernel
theorem dX6_most_1 : decode cX6_most 1 = .ok (.i2l, 1) := by decide +kernel
theorem dX6_most_2 : decode cX6_most 2 = .ok (.lconst 1, 1) := by decide +kernel
theorem dX6_most_3 : decode cX6_most 3 = .ok (.ldc2_w 215, 3) := by decide +kernel
theorem dX6_most_6 : decode cX6_most 6 = .ok (.invokestatic 75, 3) := by decide +kernel
theorem dX6_most_9 : decode cX6_most 9 = .ok (.ifCond .eq 15, 3) := by decide +kernel
theorem dX6_most_12 : decode cX6_most 12 = .ok (.aload_n 0, 1) := by decide +kernel
theorem dX6_most_13 : decode cX6_most 13 = .ok (.iload_n 1, 1) := by decide +kernel
theorem dX6_most_14 : decode cX6_most 14 = .ok (.aload_n 0, 1) := by decide +kernel
theorem dX6_most_15 : decode cX6_most 15 = .ok (.getfield 112, 3) := by decide +kernel
theorem dX6_most_18 : decode cX6_most 18 = .ok (.invokevirtual 217, 3) := by decide +kernel
theorem dX6_most_21 : decode cX6_most 21 = .ok (.goto 4, 3) := by decide +kernel
theorem dX6_most_24 : decode cX6_most 24 = .ok (.iconst (-1), 1) := by decide +kernel
theorem dX6_most_25 : decode cX6_most 25 = .ok (.ireturn, 1) := by decide +kernel
theorem dX6_row_0 : decode cX6_row 0 = .ok (.iload_n 1, 1) := by decide +kernel
theorem dX6_row_1 : decode cX6_row 1 = .ok (.i2l, 1) := by decide +kernel
theorem dX6_row_2 : decode cX6_row 2 = .ok (.lconst 1, 1) := by decide +kernel
theorem dX6_row_3 : decode cX6_row 3 = .ok (.ldc2_w 215, 3) := by decide +kernel
theorem dX6_row_6 : decode cX6_row 6 = .ok (.invokestatic 75, 3) := by decide +kernel
theorem dX6_row_9 : decode cX6_row 9 = .ok (.ifCond .eq 16, 3) := by decide +kernel
theorem dX6_row_12 : decode cX6_row 12 = .ok (.iload_n 2, 1) := by decide +kernel
theorem dX6_row_13 : decode cX6_row 13 = .ok (.i2l, 1) := by decide +kernel
theorem dX6_row_14 : decode cX6_row 14 = .ok (.lconst 0, 1) := by decide +kernel
theorem dX6_row_15 : decode cX6_row 15 = .ok (.iload_n 1, 1) := by decide +kernel
theorem dX6_row_16 : decode cX6_row 16 = .ok (.iconst 1, 1) := by decide +kernel
theorem dX6_row_17 : decode cX6_row 17 = .ok (.isub, 1) := by decide +kernel
theorem dX6_row_18 : decode cX6_row 18 = .ok (.i2l, 1) := by decide +kernel
theorem dX6_row_19 : decode cX6_row 19 = .ok (.invokestatic 75, 3) := by decide +kernel
theorem dX6_row_22 : decode cX6_row 22 = .ok (.ifCond .ne 5, 3) := by decide +kernel
theorem dX6_row_25 : decode cX6_row 25 = .ok (.iconst (-1), 1) := by decide +kernel
theorem dX6_row_26 : decode cX6_row 26 = .ok (.ireturn, 1) := by decide +kernel
theorem dX6_row_27 : decode cX6_row 27 = .ok (.aload_n 0, 1) := by decide +kernel
theorem dX6_row_28 : decode cX6_row 28 = .ok (.iload_n 1, 1) := by decide +kernel
theorem dX6_row_29 : decode cX6_row 29 = .ok (.aload_n 0, 1) := by decide +kernel
theorem dX6_row_30 : decode cX6_row 30 = .ok (.getfield 112, 3) := by decide +kernel
theorem dX6_row_33 : decode cX6_row 33 = .ok (.invokevirtual 217, 3) := by decide +kernel
theorem dX6_row_36 : decode cX6_row 36 = .ok (.pop, 1) := by decide +kernel
theorem dX6_row_37 : decode cX6_row 37 = .ok (.aload_n 0, 1) := by decide +kernel
theorem dX6_row_38 : decode cX6_row 38 = .ok (.getfield 53, 3) := by decide +kernel
theorem dX6_row_41 : decode cX6_row 41 = .ok (.iload_n 2, 1) := by decide +kernel
theorem dX6_row_42 : decode cX6_row 42 = .ok (.iaload, 1) := by decide +kernel
theorem dX6_row_43 : decode cX6_row 43 = .ok (.ireturn, 1) := by decide +kernel
theorem dX6_fewest_0 : decode cX6_fewest 0 = .ok (.iload_n 1, 1) := by decide +kernel
theorem dX6_fewest_1 : decode cX6_fewest 1 = .ok (.i2l, 1) := by decide +kernel
theorem dX6_fewest_2 : decode cX6_fewest 2 = .ok (.lconst 0, 1) := by decide +kernel
theorem dX6_fewest_3 : decode cX6_fewest 3 = .ok (.ldc2_w 220, 3) := by decide +kernel
theorem dX6_fewest_6 : decode cX6_fewest 6 = .ok (.invokestatic 75, 3) := by decide +kernel
theorem dX6_fewest_9 : decode cX6_fewest 9 = .ok (.ifCond .ne 5, 3) := by decide +kernel
theorem dX6_fewest_12 : decode cX6_fewest 12 = .ok (.iconst (-1), 1) := by decide +kernel
theorem dX6_fewest_13 : decode cX6_fewest 13 = .ok (.ireturn, 1) := by decide +kernel
theorem dX6_fewest_14 : decode cX6_fewest 14 = .ok (.iload_n 1, 1) := by decide +kernel
theorem dX6_fewest_15 : decode cX6_fewest 15 = .ok (.ifCond .ne 5, 3) := by decide +kernel
theorem dX6_fewest_18 : decode cX6_fewest 18 = .ok (.iconst 0, 1) := by decide +kernel
theorem dX6_fewest_19 : decode cX6_fewest 19 = .ok (.ireturn, 1) := by decide +kernel
theorem dX6_fewest_20 : decode cX6_fewest 20 = .ok (.iconst 1, 1) := by decide +kernel
theorem dX6_fewest_21 : decode cX6_fewest 21 = .ok (.istore_n 2, 1) := by decide +kernel
theorem dX6_fewest_22 : decode cX6_fewest 22 = .ok (.iload_n 2, 1) := by decide +kernel
theorem dX6_fewest_23 : decode cX6_fewest 23 = .ok (.iconst 5, 1) := by decide +kernel
theorem dX6_fewest_24 : decode cX6_fewest 24 = .ok (.if_icmp .gt 24, 3) := by decide +kernel
theorem dX6_fewest_27 : decode cX6_fewest 27 = .ok (.aload_n 0, 1) := by decide +kernel
theorem dX6_fewest_28 : decode cX6_fewest 28 = .ok (.iload_n 2, 1) := by decide +kernel
theorem dX6_fewest_29 : decode cX6_fewest 29 = .ok (.aload_n 0, 1) := by decide +kernel
theorem dX6_fewest_30 : decode cX6_fewest 30 = .ok (.getfield 112, 3) := by decide +kernel
theorem dX6_fewest_33 : decode cX6_fewest 33 = .ok (.invokevirtual 217, 3) := by decide +kernel
theorem dX6_fewest_36 : decode cX6_fewest 36 = .ok (.iload_n 1, 1) := by decide +kernel
theorem dX6_fewest_37 : decode cX6_fewest 37 = .ok (.if_icmp .lt 5, 3) := by decide +kernel
theorem dX6_fewest_40 : decode cX6_fewest 40 = .ok (.iload_n 2, 1) := by decide +kernel
theorem dX6_fewest_41 : decode cX6_fewest 41 = .ok (.ireturn, 1) := by decide +kernel
theorem dX6_fewest_42 : decode cX6_fewest 42 = .ok (.iinc 2 1, 3) := by decide +kernel
theorem dX6_fewest_45 : decode cX6_fewest 45 = .ok (.goto (-23), 3) := by decide +kernel
theorem dX6_fewest_48 : decode cX6_fewest 48 = .ok (.bipush (-4), 2) := by decide +kernel
theorem dX6_fewest_50 : decode cX6_fewest 50 = .ok (.ireturn, 1) := by decide +kernel
theorem dX6_peace_0 : decode cX6_peace 0 = .ok (.aload_n 0, 1) := by decide +kernel
theorem dX6_peace_1 : decode cX6_peace 1 = .ok (.iconst 4, 1) := by decide +kernel
theorem dX6_peace_2 : decode cX6_peace 2 = .ok (.aload_n 0, 1) := by decide +kernel
theorem dX6_peace_3 : decode cX6_peace 3 = .ok (.getfield 112, 3) := by decide +kernel
theorem dX6_peace_6 : decode cX6_peace 6 = .ok (.invokevirtual 217, 3) := by decide +kernel
theorem dX6_peace_9 : decode cX6_peace 9 = .ok (.istore_n 1, 1) := by decide +kernel
theorem dX6_peace_10 : decode cX6_peace 10 = .ok (.bipush (-4), 2) := by decide +kernel
theorem dX6_peace_12 : decode cX6_peace 12 = .ok (.istore_n 2, 1) := by decide +kernel
theorem dX6_peace_13 : decode cX6_peace 13 = .ok (.iconst 0, 1) := by decide +kernel
theorem dX6_peace_14 : decode cX6_peace 14 = .ok (.istore_n 3, 1) := by decide +kernel
theorem dX6_peace_15 : decode cX6_peace 15 = .ok (.iload_n 3, 1) := by decide +kernel
theorem dX6_peace_16 : decode cX6_peace 16 = .ok (.aload_n 0, 1) := by decide +kernel
theorem dX6_peace_17 : decode cX6_peace 17 = .ok (.getfield 72, 3) := by decide +kernel
theorem dX6_peace_20 : decode cX6_peace 20 = .ok (.aload_n 0, 1) := by decide +kernel
theorem dX6_peace_21 : decode cX6_peace 21 = .ok (.getfield 72, 3) := by decide +kernel
theorem dX6_peace_24 : decode cX6_peace 24 = .ok (.imul, 1) := by decide +kernel
theorem dX6_peace_25 : decode cX6_peace 25 = .ok (.if_icmp .ge 108, 3) := by decide +kernel
theorem dX6_peace_28 : decode cX6_peace 28 = .ok (.iload_n 3, 1) := by decide +kernel
theorem dX6_peace_29 : decode cX6_peace 29 = .ok (.aload_n 0, 1) := by decide +kernel
theorem dX6_peace_30 : decode cX6_peace 30 = .ok (.getfield 72, 3) := by decide +kernel
theorem dX6_peace_33 : decode cX6_peace 33 = .ok (.idiv, 1) := by decide +kernel
theorem dX6_peace_34 : decode cX6_peace 34 = .ok (.istore 4, 2) := by decide +kernel
theorem dX6_peace_36 : decode cX6_peace 36 = .ok (.iload_n 3, 1) := by decide +kernel
theorem dX6_peace_37 : decode cX6_peace 37 = .ok (.aload_n 0, 1) := by decide +kernel
theorem dX6_peace_38 : decode cX6_peace 38 = .ok (.getfield 72, 3) := by decide +kernel
theorem dX6_peace_41 : decode cX6_peace 41 = .ok (.irem, 1) := by decide +kernel
theorem dX6_peace_42 : decode cX6_peace 42 = .ok (.istore 5, 2) := by decide +kernel
theorem dX6_peace_44 : decode cX6_peace 44 = .ok (.iload 4, 2) := by decide +kernel
theorem dX6_peace_46 : decode cX6_peace 46 = .ok (.iload 5, 2) := by decide +kernel
theorem dX6_peace_48 : decode cX6_peace 48 = .ok (.if_icmp .ge 79, 3) := by decide +kernel
theorem dX6_peace_51 : decode cX6_peace 51 = .ok (.aload_n 0, 1) := by decide +kernel
theorem dX6_peace_52 : decode cX6_peace 52 = .ok (.getfield 19, 3) := by decide +kernel
theorem dX6_peace_55 : decode cX6_peace 55 = .ok (.iload 4, 2) := by decide +kernel
theorem dX6_peace_57 : decode cX6_peace 57 = .ok (.iaload, 1) := by decide +kernel
theorem dX6_peace_58 : decode cX6_peace 58 = .ok (.iload 5, 2) := by decide +kernel
theorem dX6_peace_60 : decode cX6_peace 60 = .ok (.invokestatic 178, 3) := by decide +kernel
theorem dX6_peace_63 : decode cX6_peace 63 = .ok (.ifCond .eq 64, 3) := by decide +kernel
theorem dX6_peace_66 : decode cX6_peace 66 = .ok (.aload_n 0, 1) := by decide +kernel
theorem dX6_peace_67 : decode cX6_peace 67 = .ok (.iload 4, 2) := by decide +kernel
theorem dX6_peace_69 : decode cX6_peace 69 = .ok (.iload 5, 2) := by decide +kernel
theorem dX6_peace_71 : decode cX6_peace 71 = .ok (.iconst 0, 1) := by decide +kernel
theorem dX6_peace_72 : decode cX6_peace 72 = .ok (.invokevirtual 101, 3) := by decide +kernel
theorem dX6_peace_75 : decode cX6_peace 75 = .ok (.aload_n 0, 1) := by decide +kernel
theorem dX6_peace_76 : decode cX6_peace 76 = .ok (.iconst 4, 1) := by decide +kernel
theorem dX6_peace_77 : decode cX6_peace 77 = .ok (.aload_n 0, 1) := by decide +kernel
theorem dX6_peace_78 : decode cX6_peace 78 = .ok (.getfield 112, 3) := by decide +kernel
theorem dX6_peace_81 : decode cX6_peace 81 = .ok (.invokevirtual 217, 3) := by decide +kernel
theorem dX6_peace_84 : decode cX6_peace 84 = .ok (.istore 6, 2) := by decide +kernel
theorem dX6_peace_86 : decode cX6_peace 86 = .ok (.aload_n 0, 1) := by decide +kernel
theorem dX6_peace_87 : decode cX6_peace 87 = .ok (.iload 4, 2) := by decide +kernel
theorem dX6_peace_89 : decode cX6_peace 89 = .ok (.iload 5, 2) := by decide +kernel
theorem dX6_peace_91 : decode cX6_peace 91 = .ok (.iconst 1, 1) := by decide +kernel
theorem dX6_peace_92 : decode cX6_peace 92 = .ok (.invokevirtual 101, 3) := by decide +kernel
theorem dX6_peace_95 : decode cX6_peace 95 = .ok (.iload 6, 2) := by decide +kernel
theorem dX6_peace_97 : decode cX6_peace 97 = .ok (.iload_n 1, 1) := by decide +kernel
theorem dX6_peace_98 : decode cX6_peace 98 = .ok (.if_icmp .le 14, 3) := by decide +kernel
theorem dX6_peace_101 : decode cX6_peace 101 = .ok (.bipush 10, 2) := by decide +kernel
theorem dX6_peace_103 : decode cX6_peace 103 = .ok (.iload 4, 2) := by decide +kernel
theorem dX6_peace_105 : decode cX6_peace 105 = .ok (.imul, 1) := by decide +kernel
theorem dX6_peace_106 : decode cX6_peace 106 = .ok (.iload 5, 2) := by decide +kernel
theorem dX6_peace_108 : decode cX6_peace 108 = .ok (.iadd, 1) := by decide +kernel
theorem dX6_peace_109 : decode cX6_peace 109 = .ok (.goto 4, 3) := by decide +kernel
theorem dX6_peace_112 : decode cX6_peace 112 = .ok (.iload_n 2, 1) := by decide +kernel
theorem dX6_peace_113 : decode cX6_peace 113 = .ok (.istore_n 2, 1) := by decide +kernel
theorem dX6_peace_114 : decode cX6_peace 114 = .ok (.iload 6, 2) := by decide +kernel
theorem dX6_peace_116 : decode cX6_peace 116 = .ok (.iload_n 1, 1) := by decide +kernel
theorem dX6_peace_117 : decode cX6_peace 117 = .ok (.if_icmp .le 8, 3) := by decide +kernel
theorem dX6_peace_120 : decode cX6_peace 120 = .ok (.iload 6, 2) := by decide +kernel
theorem dX6_peace_122 : decode cX6_peace 122 = .ok (.goto 4, 3) := by decide +kernel
theorem dX6_peace_125 : decode cX6_peace 125 = .ok (.iload_n 1, 1) := by decide +kernel
theorem dX6_peace_126 : decode cX6_peace 126 = .ok (.istore_n 1, 1) := by decide +kernel
theorem dX6_peace_127 : decode cX6_peace 127 = .ok (.iinc 3 1, 3) := by decide +kernel
theorem dX6_peace_130 : decode cX6_peace 130 = .ok (.goto (-115), 3) := by decide +kernel
theorem dX6_peace_133 : decode cX6_peace 133 = .ok (.iload_n 2, 1) := by decide +kernel
theorem dX6_peace_134 : decode cX6_peace 134 = .ok (.ireturn, 1) := by decide +kernel
theorem dX6_other_0 : decode cX6_other 0 = .ok (.iload_n 1, 1) := by decide +kernel
theorem dX6_other_1 : decode cX6_other 1 = .ok (.i2l, 1) := by decide +kernel
theorem dX6_other_2 : decode cX6_other 2 = .ok (.lconst 1, 1) := by decide +kernel
theorem dX6_other_3 : decode cX6_other 3 = .ok (.ldc2_w 215, 3) := by decide +kernel
theorem dX6_other_6 : decode cX6_other 6 = .ok (.invokestatic 75, 3) := by decide +kernel
theorem dX6_other_9 : decode cX6_other 9 = .ok (.ifCond .eq 16, 3) := by decide +kernel
theorem dX6_other_12 : decode cX6_other 12 = .ok (.aload_n 0, 1) := by decide +kernel
theorem dX6_other_13 : decode cX6_other 13 = .ok (.iload_n 1, 1) := by decide +kernel
theorem dX6_other_14 : decode cX6_other 14 = .ok (.aload_n 0, 1) := by decide +kernel
theorem dX6_other_15 : decode cX6_other 15 = .ok (.getfield 112, 3) := by decide +kernel
theorem dX6_other_18 : decode cX6_other 18 = .ok (.ineg, 1) := by decide +kernel
theorem dX6_other_19 : decode cX6_other 19 = .ok (.invokevirtual 217, 3) := by decide +kernel
theorem dX6_other_22 : decode cX6_other 22 = .ok (.goto 4, 3) := by decide +kernel
theorem dX6_other_25 : decode cX6_other 25 = .ok (.iconst (-1), 1) := by decide +kernel
theorem dX6_other_26 : decode cX6_other 26 = .ok (.ireturn, 1) := by decide +kernel
theorem dX6_givesOf_0 : decode cX6_givesOf 0 = .ok (.aload_n 0, 1) := by decide +kernel
theorem dX6_givesOf_1 : decode cX6_givesOf 1 = .ok (.getfield 7, 3) := by decide +kernel
theorem dX6_givesOf_4 : decode cX6_givesOf 4 = .ok (.iload_n 1, 1) := by decide +kernel
theorem dX6_givesOf_5 : decode cX6_givesOf 5 = .ok (.iaload, 1) := by decide +kernel
theorem dX6_givesOf_6 : decode cX6_givesOf 6 = .ok (.iload_n 2, 1) := by decide +kernel
theorem dX6_givesOf_7 : decode cX6_givesOf 7 = .ok (.invokestatic 182, 3) := by decide +kernel
theorem dX6_givesOf_10 : decode cX6_givesOf 10 = .ok (.istore_n 3, 1) := by decide +kernel
theorem dX6_givesOf_11 : decode cX6_givesOf 11 = .ok (.iload_n 3, 1) := by decide +kernel
theorem dX6_givesOf_12 : decode cX6_givesOf 12 = .ok (.aload_n 0, 1) := by decide +kernel
theorem dX6_givesOf_13 : decode cX6_givesOf 13 = .ok (.getfield 25, 3) := by decide +kernel
theorem dX6_givesOf_16 : decode cX6_givesOf 16 = .ok (.if_icmp .ge 7, 3) := by decide +kernel
theorem dX6_givesOf_19 : decode cX6_givesOf 19 = .ok (.iload_n 3, 1) := by decide +kernel
theorem dX6_givesOf_20 : decode cX6_givesOf 20 = .ok (.goto 7, 3) := by decide +kernel
theorem dX6_givesOf_23 : decode cX6_givesOf 23 = .ok (.aload_n 0, 1) := by decide +kernel
theorem dX6_givesOf_24 : decode cX6_givesOf 24 = .ok (.getfield 25, 3) := by decide +kernel
theorem dX6_givesOf_27 : decode cX6_givesOf 27 = .ok (.aload_n 0, 1) := by decide +kernel
theorem dX6_givesOf_28 : decode cX6_givesOf 28 = .ok (.getfield 7, 3) := by decide +kernel
theorem dX6_givesOf_31 : decode cX6_givesOf 31 = .ok (.iload_n 1, 1) := by decide +kernel
theorem dX6_givesOf_32 : decode cX6_givesOf 32 = .ok (.iaload, 1) := by decide +kernel
theorem dX6_givesOf_33 : decode cX6_givesOf 33 = .ok (.iload_n 2, 1) := by decide +kernel
theorem dX6_givesOf_34 : decode cX6_givesOf 34 = .ok (.invokestatic 185, 3) := by decide +kernel
theorem dX6_givesOf_37 : decode cX6_givesOf 37 = .ok (.ifCond .eq 7, 3) := by decide +kernel
theorem dX6_givesOf_40 : decode cX6_givesOf 40 = .ok (.iconst 0, 1) := by decide +kernel
theorem dX6_givesOf_41 : decode cX6_givesOf 41 = .ok (.goto 5, 3) := by decide +kernel
theorem dX6_givesOf_44 : decode cX6_givesOf 44 = .ok (.bipush 10, 2) := by decide +kernel
theorem dX6_givesOf_46 : decode cX6_givesOf 46 = .ok (.iadd, 1) := by decide +kernel
theorem dX6_givesOf_47 : decode cX6_givesOf 47 = .ok (.ireturn, 1) := by decide +kernel
theorem dX6_gives_0 : decode cX6_gives 0 = .ok (.aload_n 0, 1) := by decide +kernel
theorem dX6_gives_1 : decode cX6_gives 1 = .ok (.iload_n 1, 1) := by decide +kernel
theorem dX6_gives_2 : decode cX6_gives 2 = .ok (.invokevirtual 91, 3) := by decide +kernel
theorem dX6_gives_5 : decode cX6_gives 5 = .ok (.ifCond .eq 19, 3) := by decide +kernel
theorem dX6_gives_8 : decode cX6_gives 8 = .ok (.iload_n 2, 1) := by decide +kernel
theorem dX6_gives_9 : decode cX6_gives 9 = .ok (.invokestatic 107, 3) := by decide +kernel
theorem dX6_gives_12 : decode cX6_gives 12 = .ok (.ifCond .eq 12, 3) := by decide +kernel
theorem dX6_gives_15 : decode cX6_gives 15 = .ok (.aload_n 0, 1) := by decide +kernel
theorem dX6_gives_16 : decode cX6_gives 16 = .ok (.iload_n 1, 1) := by decide +kernel
theorem dX6_gives_17 : decode cX6_gives 17 = .ok (.iload_n 2, 1) := by decide +kernel
theorem dX6_gives_18 : decode cX6_gives 18 = .ok (.invokevirtual 222, 3) := by decide +kernel
theorem dX6_gives_21 : decode cX6_gives 21 = .ok (.goto 4, 3) := by decide +kernel
theorem dX6_gives_24 : decode cX6_gives 24 = .ok (.iconst (-1), 1) := by decide +kernel
theorem dX6_gives_25 : decode cX6_gives 25 = .ok (.ireturn, 1) := by decide +kernel
theorem dX6_stranger_0 : decode cX6_stranger 0 = .ok (.iload_n 1, 1) := by decide +kernel
theorem dX6_stranger_1 : decode cX6_stranger 1 = .ok (.invokestatic 107, 3) := by decide +kernel
theorem dX6_stranger_4 : decode cX6_stranger 4 = .ok (.ifCond .eq 23, 3) := by decide +kernel
theorem dX6_stranger_7 : decode cX6_stranger 7 = .ok (.aload_n 0, 1) := by decide +kernel
theorem dX6_stranger_8 : decode cX6_stranger 8 = .ok (.iload_n 2, 1) := by decide +kernel
theorem dX6_stranger_9 : decode cX6_stranger 9 = .ok (.invokevirtual 91, 3) := by decide +kernel
theorem dX6_stranger_12 : decode cX6_stranger 12 = .ok (.ifCond .eq 15, 3) := by decide +kernel
theorem dX6_stranger_15 : decode cX6_stranger 15 = .ok (.iload_n 3, 1) := by decide +kernel
theorem dX6_stranger_16 : decode cX6_stranger 16 = .ok (.i2l, 1) := by decide +kernel
theorem dX6_stranger_17 : decode cX6_stranger 17 = .ok (.lconst 0, 1) := by decide +kernel
theorem dX6_stranger_18 : decode cX6_stranger 18 = .ok (.ldc2_w 81, 3) := by decide +kernel
theorem dX6_stranger_21 : decode cX6_stranger 21 = .ok (.invokestatic 75, 3) := by decide +kernel
theorem dX6_stranger_24 : decode cX6_stranger 24 = .ok (.ifCond .ne 5, 3) := by decide +kernel
theorem dX6_stranger_27 : decode cX6_stranger 27 = .ok (.iconst (-1), 1) := by decide +kernel
theorem dX6_stranger_28 : decode cX6_stranger 28 = .ok (.ireturn, 1) := by decide +kernel
theorem dX6_stranger_29 : decode cX6_stranger 29 = .ok (.iconst 0, 1) := by decide +kernel
theorem dX6_stranger_30 : decode cX6_stranger 30 = .ok (.istore 4, 2) := by decide +kernel
theorem dX6_stranger_32 : decode cX6_stranger 32 = .ok (.bipush (-3), 2) := by decide +kernel
theorem dX6_stranger_34 : decode cX6_stranger 34 = .ok (.istore 5, 2) := by decide +kernel
theorem dX6_stranger_36 : decode cX6_stranger 36 = .ok (.iload 5, 2) := by decide +kernel
theorem dX6_stranger_38 : decode cX6_stranger 38 = .ok (.iconst 4, 1) := by decide +kernel
theorem dX6_stranger_39 : decode cX6_stranger 39 = .ok (.if_icmp .ge 47, 3) := by decide +kernel
theorem dX6_stranger_42 : decode cX6_stranger 42 = .ok (.iload 4, 2) := by decide +kernel
theorem dX6_stranger_44 : decode cX6_stranger 44 = .ok (.aload_n 0, 1) := by decide +kernel
theorem dX6_stranger_45 : decode cX6_stranger 45 = .ok (.getfield 7, 3) := by decide +kernel
theorem dX6_stranger_48 : decode cX6_stranger 48 = .ok (.iload_n 2, 1) := by decide +kernel
theorem dX6_stranger_49 : decode cX6_stranger 49 = .ok (.iaload, 1) := by decide +kernel
theorem dX6_stranger_50 : decode cX6_stranger 50 = .ok (.iload_n 1, 1) := by decide +kernel
theorem dX6_stranger_51 : decode cX6_stranger 51 = .ok (.iload 5, 2) := by decide +kernel
theorem dX6_stranger_53 : decode cX6_stranger 53 = .ok (.iadd, 1) := by decide +kernel
theorem dX6_stranger_54 : decode cX6_stranger 54 = .ok (.invokestatic 192, 3) := by decide +kernel
theorem dX6_stranger_57 : decode cX6_stranger 57 = .ok (.invokestatic 195, 3) := by decide +kernel
theorem dX6_stranger_60 : decode cX6_stranger 60 = .ok (.invokestatic 182, 3) := by decide +kernel
theorem dX6_stranger_63 : decode cX6_stranger 63 = .ok (.iload_n 3, 1) := by decide +kernel
theorem dX6_stranger_64 : decode cX6_stranger 64 = .ok (.if_icmp .ne 12, 3) := by decide +kernel
theorem dX6_stranger_67 : decode cX6_stranger 67 = .ok (.iconst 1, 1) := by decide +kernel
theorem dX6_stranger_68 : decode cX6_stranger 68 = .ok (.iload 5, 2) := by decide +kernel
theorem dX6_stranger_70 : decode cX6_stranger 70 = .ok (.iconst 3, 1) := by decide +kernel
theorem dX6_stranger_71 : decode cX6_stranger 71 = .ok (.iadd, 1) := by decide +kernel
theorem dX6_stranger_72 : decode cX6_stranger 72 = .ok (.ishl, 1) := by decide +kernel
theorem dX6_stranger_73 : decode cX6_stranger 73 = .ok (.goto 4, 3) := by decide +kernel
theorem dX6_stranger_76 : decode cX6_stranger 76 = .ok (.iconst 0, 1) := by decide +kernel
theorem dX6_stranger_77 : decode cX6_stranger 77 = .ok (.ior, 1) := by decide +kernel
theorem dX6_stranger_78 : decode cX6_stranger 78 = .ok (.istore 4, 2) := by decide +kernel
theorem dX6_stranger_80 : decode cX6_stranger 80 = .ok (.iinc 5 1, 3) := by decide +kernel
theorem dX6_stranger_83 : decode cX6_stranger 83 = .ok (.goto (-47), 3) := by decide +kernel
theorem dX6_stranger_86 : decode cX6_stranger 86 = .ok (.iload 4, 2) := by decide +kernel
theorem dX6_stranger_88 : decode cX6_stranger 88 = .ok (.ireturn, 1) := by decide +kernel
theorem dX6_liar_0 : decode cX6_liar 0 = .ok (.aload_n 0, 1) := by decide +kernel
theorem dX6_liar_1 : decode cX6_liar 1 = .ok (.iload_n 1, 1) := by decide +kernel
theorem dX6_liar_2 : decode cX6_liar 2 = .ok (.invokevirtual 91, 3) := by decide +kernel
theorem dX6_liar_5 : decode cX6_liar 5 = .ok (.ifCond .eq 58, 3) := by decide +kernel
theorem dX6_liar_8 : decode cX6_liar 8 = .ok (.iload_n 2, 1) := by decide +kernel
theorem dX6_liar_9 : decode cX6_liar 9 = .ok (.invokestatic 107, 3) := by decide +kernel
theorem dX6_liar_12 : decode cX6_liar 12 = .ok (.ifCond .eq 51, 3) := by decide +kernel
theorem dX6_liar_15 : decode cX6_liar 15 = .ok (.iload_n 3, 1) := by decide +kernel
theorem dX6_liar_16 : decode cX6_liar 16 = .ok (.i2l, 1) := by decide +kernel
theorem dX6_liar_17 : decode cX6_liar 17 = .ok (.lconst 0, 1) := by decide +kernel
theorem dX6_liar_18 : decode cX6_liar 18 = .ok (.ldc2_w 81, 3) := by decide +kernel
theorem dX6_liar_21 : decode cX6_liar 21 = .ok (.invokestatic 75, 3) := by decide +kernel
theorem dX6_liar_24 : decode cX6_liar 24 = .ok (.ifCond .eq 39, 3) := by decide +kernel
theorem dX6_liar_27 : decode cX6_liar 27 = .ok (.aload_n 0, 1) := by decide +kernel
theorem dX6_liar_28 : decode cX6_liar 28 = .ok (.iload 4, 2) := by decide +kernel
theorem dX6_liar_30 : decode cX6_liar 30 = .ok (.invokevirtual 91, 3) := by decide +kernel
theorem dX6_liar_33 : decode cX6_liar 33 = .ok (.ifCond .eq 30, 3) := by decide +kernel
theorem dX6_liar_36 : decode cX6_liar 36 = .ok (.iload 5, 2) := by decide +kernel
theorem dX6_liar_38 : decode cX6_liar 38 = .ok (.invokestatic 107, 3) := by decide +kernel
theorem dX6_liar_41 : decode cX6_liar 41 = .ok (.ifCond .eq 22, 3) := by decide +kernel
theorem dX6_liar_44 : decode cX6_liar 44 = .ok (.iload 6, 2) := by decide +kernel
theorem dX6_liar_46 : decode cX6_liar 46 = .ok (.i2l, 1) := by decide +kernel
theorem dX6_liar_47 : decode cX6_liar 47 = .ok (.lconst 0, 1) := by decide +kernel
theorem dX6_liar_48 : decode cX6_liar 48 = .ok (.ldc2_w 81, 3) := by decide +kernel
theorem dX6_liar_51 : decode cX6_liar 51 = .ok (.invokestatic 75, 3) := by decide +kernel
theorem dX6_liar_54 : decode cX6_liar 54 = .ok (.ifCond .eq 9, 3) := by decide +kernel
theorem dX6_liar_57 : decode cX6_liar 57 = .ok (.iload_n 1, 1) := by decide +kernel
theorem dX6_liar_58 : decode cX6_liar 58 = .ok (.iload 4, 2) := by decide +kernel
theorem dX6_liar_60 : decode cX6_liar 60 = .ok (.if_icmp .ne 5, 3) := by decide +kernel
theorem dX6_liar_63 : decode cX6_liar 63 = .ok (.iconst (-1), 1) := by decide +kernel
theorem dX6_liar_64 : decode cX6_liar 64 = .ok (.ireturn, 1) := by decide +kernel
theorem dX6_liar_65 : decode cX6_liar 65 = .ok (.aload_n 0, 1) := by decide +kernel
theorem dX6_liar_66 : decode cX6_liar 66 = .ok (.getfield 7, 3) := by decide +kernel
theorem dX6_liar_69 : decode cX6_liar 69 = .ok (.iload_n 1, 1) := by decide +kernel
theorem dX6_liar_70 : decode cX6_liar 70 = .ok (.iaload, 1) := by decide +kernel
theorem dX6_liar_71 : decode cX6_liar 71 = .ok (.iload_n 2, 1) := by decide +kernel
theorem dX6_liar_72 : decode cX6_liar 72 = .ok (.invokestatic 182, 3) := by decide +kernel
theorem dX6_liar_75 : decode cX6_liar 75 = .ok (.iload_n 3, 1) := by decide +kernel
theorem dX6_liar_76 : decode cX6_liar 76 = .ok (.if_icmp .ne 7, 3) := by decide +kernel
theorem dX6_liar_79 : decode cX6_liar 79 = .ok (.iconst 0, 1) := by decide +kernel
theorem dX6_liar_80 : decode cX6_liar 80 = .ok (.goto 4, 3) := by decide +kernel
theorem dX6_liar_83 : decode cX6_liar 83 = .ok (.iconst 1, 1) := by decide +kernel
theorem dX6_liar_84 : decode cX6_liar 84 = .ok (.aload_n 0, 1) := by decide +kernel
theorem dX6_liar_85 : decode cX6_liar 85 = .ok (.getfield 7, 3) := by decide +kernel
theorem dX6_liar_88 : decode cX6_liar 88 = .ok (.iload 4, 2) := by decide +kernel
theorem dX6_liar_90 : decode cX6_liar 90 = .ok (.iaload, 1) := by decide +kernel
theorem dX6_liar_91 : decode cX6_liar 91 = .ok (.iload 5, 2) := by decide +kernel
theorem dX6_liar_93 : decode cX6_liar 93 = .ok (.invokestatic 182, 3) := by decide +kernel
theorem dX6_liar_96 : decode cX6_liar 96 = .ok (.iload 6, 2) := by decide +kernel
theorem dX6_liar_98 : decode cX6_liar 98 = .ok (.if_icmp .ne 7, 3) := by decide +kernel
theorem dX6_liar_101 : decode cX6_liar 101 = .ok (.iconst 0, 1) := by decide +kernel
theorem dX6_liar_102 : decode cX6_liar 102 = .ok (.goto 4, 3) := by decide +kernel
theorem dX6_liar_105 : decode cX6_liar 105 = .ok (.iconst 2, 1) := by decide +kernel
theorem dX6_liar_106 : decode cX6_liar 106 = .ok (.iadd, 1) := by decide +kernel
theorem dX6_liar_107 : decode cX6_liar 107 = .ok (.ireturn, 1) := by decide +kernel
theorem dX6_drawn_0 : decode cX6_drawn 0 = .ok (.iload_n 1, 1) := by decide +kernel
theorem dX6_drawn_1 : decode cX6_drawn 1 = .ok (.i2l, 1) := by decide +kernel
theorem dX6_drawn_2 : decode cX6_drawn 2 = .ok (.lconst 1, 1) := by decide +kernel
theorem dX6_drawn_3 : decode cX6_drawn 3 = .ok (.ldc2_w 210, 3) := by decide +kernel
theorem dX6_drawn_6 : decode cX6_drawn 6 = .ok (.invokestatic 75, 3) := by decide +kernel
theorem dX6_drawn_9 : decode cX6_drawn 9 = .ok (.ifCond .ne 5, 3) := by decide +kernel
theorem dX6_drawn_12 : decode cX6_drawn 12 = .ok (.iconst (-1), 1) := by decide +kernel
theorem dX6_drawn_13 : decode cX6_drawn 13 = .ok (.ireturn, 1) := by decide +kernel
theorem dX6_drawn_14 : decode cX6_drawn 14 = .ok (.aload_n 0, 1) := by decide +kernel
theorem dX6_drawn_15 : decode cX6_drawn 15 = .ok (.getfield 98, 3) := by decide +kernel
theorem dX6_drawn_18 : decode cX6_drawn 18 = .ok (.iload_n 1, 1) := by decide +kernel
theorem dX6_drawn_19 : decode cX6_drawn 19 = .ok (.iadd, 1) := by decide +kernel
theorem dX6_drawn_20 : decode cX6_drawn 20 = .ok (.sipush 9999, 3) := by decide +kernel
theorem dX6_drawn_23 : decode cX6_drawn 23 = .ok (.if_icmp .le 6, 3) := by decide +kernel
theorem dX6_drawn_26 : decode cX6_drawn 26 = .ok (.bipush (-3), 2) := by decide +kernel
theorem dX6_drawn_28 : decode cX6_drawn 28 = .ok (.ireturn, 1) := by decide +kernel
theorem dX6_drawn_29 : decode cX6_drawn 29 = .ok (.iconst 0, 1) := by decide +kernel
theorem dX6_drawn_30 : decode cX6_drawn 30 = .ok (.istore_n 2, 1) := by decide +kernel
theorem dX6_drawn_31 : decode cX6_drawn 31 = .ok (.iconst 0, 1) := by decide +kernel
theorem dX6_drawn_32 : decode cX6_drawn 32 = .ok (.istore_n 3, 1) := by decide +kernel
theorem dX6_drawn_33 : decode cX6_drawn 33 = .ok (.iload_n 3, 1) := by decide +kernel
theorem dX6_drawn_34 : decode cX6_drawn 34 = .ok (.iload_n 1, 1) := by decide +kernel
theorem dX6_drawn_35 : decode cX6_drawn 35 = .ok (.if_icmp .ge 84, 3) := by decide +kernel
theorem dX6_drawn_38 : decode cX6_drawn 38 = .ok (.aload_n 0, 1) := by decide +kernel
theorem dX6_drawn_39 : decode cX6_drawn 39 = .ok (.aload_n 0, 1) := by decide +kernel
theorem dX6_drawn_40 : decode cX6_drawn 40 = .ok (.getfield 38, 3) := by decide +kernel
theorem dX6_drawn_43 : decode cX6_drawn 43 = .ok (.i2l, 1) := by decide +kernel
theorem dX6_drawn_44 : decode cX6_drawn 44 = .ok (.ldc2_w 225, 3) := by decide +kernel
theorem dX6_drawn_47 : decode cX6_drawn 47 = .ok (.lmul, 1) := by decide +kernel
theorem dX6_drawn_48 : decode cX6_drawn 48 = .ok (.ldc2_w 227, 3) := by decide +kernel
theorem dX6_drawn_51 : decode cX6_drawn 51 = .ok (.ladd, 1) := by decide +kernel
theorem dX6_drawn_52 : decode cX6_drawn 52 = .ok (.ldc2_w 229, 3) := by decide +kernel
theorem dX6_drawn_55 : decode cX6_drawn 55 = .ok (.land, 1) := by decide +kernel
theorem dX6_drawn_56 : decode cX6_drawn 56 = .ok (.l2i, 1) := by decide +kernel
theorem dX6_drawn_57 : decode cX6_drawn 57 = .ok (.putfield 38, 3) := by decide +kernel
theorem dX6_drawn_60 : decode cX6_drawn 60 = .ok (.aload_n 0, 1) := by decide +kernel
theorem dX6_drawn_61 : decode cX6_drawn 61 = .ok (.getfield 38, 3) := by decide +kernel
theorem dX6_drawn_64 : decode cX6_drawn 64 = .ok (.ldc 231, 2) := by decide +kernel
theorem dX6_drawn_66 : decode cX6_drawn 66 = .ok (.idiv, 1) := by decide +kernel
theorem dX6_drawn_67 : decode cX6_drawn 67 = .ok (.aload_n 0, 1) := by decide +kernel
theorem dX6_drawn_68 : decode cX6_drawn 68 = .ok (.getfield 72, 3) := by decide +kernel
theorem dX6_drawn_71 : decode cX6_drawn 71 = .ok (.iconst 1, 1) := by decide +kernel
theorem dX6_drawn_72 : decode cX6_drawn 72 = .ok (.iadd, 1) := by decide +kernel
theorem dX6_drawn_73 : decode cX6_drawn 73 = .ok (.irem, 1) := by decide +kernel
theorem dX6_drawn_74 : decode cX6_drawn 74 = .ok (.istore 4, 2) := by decide +kernel
theorem dX6_drawn_76 : decode cX6_drawn 76 = .ok (.iload_n 2, 1) := by decide +kernel
theorem dX6_drawn_77 : decode cX6_drawn 77 = .ok (.aload_n 0, 1) := by decide +kernel
theorem dX6_drawn_78 : decode cX6_drawn 78 = .ok (.iload 4, 2) := by decide +kernel
theorem dX6_drawn_80 : decode cX6_drawn 80 = .ok (.aload_n 0, 1) := by decide +kernel
theorem dX6_drawn_81 : decode cX6_drawn 81 = .ok (.getfield 72, 3) := by decide +kernel
theorem dX6_drawn_84 : decode cX6_drawn 84 = .ok (.if_icmp .ge 22, 3) := by decide +kernel
theorem dX6_drawn_87 : decode cX6_drawn 87 = .ok (.aload_n 0, 1) := by decide +kernel
theorem dX6_drawn_88 : decode cX6_drawn 88 = .ok (.getfield 22, 3) := by decide +kernel
theorem dX6_drawn_91 : decode cX6_drawn 91 = .ok (.iload 4, 2) := by decide +kernel
theorem dX6_drawn_93 : decode cX6_drawn 93 = .ok (.iaload, 1) := by decide +kernel
theorem dX6_drawn_94 : decode cX6_drawn 94 = .ok (.aload_n 0, 1) := by decide +kernel
theorem dX6_drawn_95 : decode cX6_drawn 95 = .ok (.getfield 98, 3) := by decide +kernel
theorem dX6_drawn_98 : decode cX6_drawn 98 = .ok (.if_icmp .gt 8, 3) := by decide +kernel
theorem dX6_drawn_101 : decode cX6_drawn 101 = .ok (.iload 4, 2) := by decide +kernel
theorem dX6_drawn_103 : decode cX6_drawn 103 = .ok (.goto 5, 3) := by decide +kernel
theorem dX6_drawn_106 : decode cX6_drawn 106 = .ok (.bipush 9, 2) := by decide +kernel
theorem dX6_drawn_108 : decode cX6_drawn 108 = .ok (.invokevirtual 207, 3) := by decide +kernel
theorem dX6_drawn_111 : decode cX6_drawn 111 = .ok (.iadd, 1) := by decide +kernel
theorem dX6_drawn_112 : decode cX6_drawn 112 = .ok (.istore_n 2, 1) := by decide +kernel
theorem dX6_drawn_113 : decode cX6_drawn 113 = .ok (.iinc 3 1, 3) := by decide +kernel
theorem dX6_drawn_116 : decode cX6_drawn 116 = .ok (.goto (-83), 3) := by decide +kernel
theorem dX6_drawn_119 : decode cX6_drawn 119 = .ok (.iload_n 2, 1) := by decide +kernel
theorem dX6_drawn_120 : decode cX6_drawn 120 = .ok (.ireturn, 1) := by decide +kernel
theorem dX6_seed_0 : decode cX6_seed 0 = .ok (.iload_n 1, 1) := by decide +kernel
theorem dX6_seed_1 : decode cX6_seed 1 = .ok (.ifCond .ge 5, 3) := by decide +kernel
theorem dX6_seed_4 : decode cX6_seed 4 = .ok (.iconst (-1), 1) := by decide +kernel
theorem dX6_seed_5 : decode cX6_seed 5 = .ok (.ireturn, 1) := by decide +kernel
theorem dX6_seed_6 : decode cX6_seed 6 = .ok (.aload_n 0, 1) := by decide +kernel
theorem dX6_seed_7 : decode cX6_seed 7 = .ok (.getfield 38, 3) := by decide +kernel
theorem dX6_seed_10 : decode cX6_seed 10 = .ok (.istore_n 2, 1) := by decide +kernel
theorem dX6_seed_11 : decode cX6_seed 11 = .ok (.aload_n 0, 1) := by decide +kernel
theorem dX6_seed_12 : decode cX6_seed 12 = .ok (.iload_n 1, 1) := by decide +kernel
theorem dX6_seed_13 : decode cX6_seed 13 = .ok (.putfield 38, 3) := by decide +kernel
theorem dX6_seed_16 : decode cX6_seed 16 = .ok (.iload_n 2, 1) := by decide +kernel
theorem dX6_seed_17 : decode cX6_seed 17 = .ok (.ireturn, 1) := by decide +kernel
theorem dX6_carried_0 : decode cX6_carried 0 = .ok (.iload_n 1, 1) := by decide +kernel
theorem dX6_carried_1 : decode cX6_carried 1 = .ok (.bipush 30, 2) := by decide +kernel
theorem dX6_carried_3 : decode cX6_carried 3 = .ok (.if_icmp .ge 225, 3) := by decide +kernel
theorem dX6_carried_6 : decode cX6_carried 6 = .ok (.iload_n 1, 1) := by decide +kernel
theorem dX6_carried_7 : decode cX6_carried 7 = .ok (.bipush 6, 2) := by decide +kernel
theorem dX6_carried_9 : decode cX6_carried 9 = .ok (.irem, 1) := by decide +kernel
theorem dX6_carried_10 : decode cX6_carried 10 = .ok (.istore 4, 2) := by decide +kernel
theorem dX6_carried_12 : decode cX6_carried 12 = .ok (.iload_n 1, 1) := by decide +kernel
theorem dX6_carried_13 : decode cX6_carried 13 = .ok (.bipush 6, 2) := by decide +kernel
theorem dX6_carried_15 : decode cX6_carried 15 = .ok (.idiv, 1) := by decide +kernel
theorem dX6_carried_16 : decode cX6_carried 16 = .ok (.istore 5, 2) := by decide +kernel
theorem dX6_carried_18 : decode cX6_carried 18 = .ok (.aload_n 0, 1) := by decide +kernel
theorem dX6_carried_19 : decode cX6_carried 19 = .ok (.getfield 7, 3) := by decide +kernel
theorem dX6_carried_22 : decode cX6_carried 22 = .ok (.iload 4, 2) := by decide +kernel
theorem dX6_carried_24 : decode cX6_carried 24 = .ok (.iload_n 3, 1) := by decide +kernel
theorem dX6_carried_25 : decode cX6_carried 25 = .ok (.ifCond .eq 12, 3) := by decide +kernel
theorem dX6_carried_28 : decode cX6_carried 28 = .ok (.iload 5, 2) := by decide +kernel
theorem dX6_carried_30 : decode cX6_carried 30 = .ok (.ifCond .ne 7, 3) := by decide +kernel
theorem dX6_carried_33 : decode cX6_carried 33 = .ok (.iload_n 2, 1) := by decide +kernel
theorem dX6_carried_34 : decode cX6_carried 34 = .ok (.goto 10, 3) := by decide +kernel
theorem dX6_carried_37 : decode cX6_carried 37 = .ok (.aload_n 0, 1) := by decide +kernel
theorem dX6_carried_38 : decode cX6_carried 38 = .ok (.getfield 7, 3) := by decide +kernel
theorem dX6_carried_41 : decode cX6_carried 41 = .ok (.iload 4, 2) := by decide +kernel
theorem dX6_carried_43 : decode cX6_carried 43 = .ok (.iaload, 1) := by decide +kernel
theorem dX6_carried_44 : decode cX6_carried 44 = .ok (.iastore, 1) := by decide +kernel
theorem dX6_carried_45 : decode cX6_carried 45 = .ok (.aload_n 0, 1) := by decide +kernel
theorem dX6_carried_46 : decode cX6_carried 46 = .ok (.getfield 13, 3) := by decide +kernel
theorem dX6_carried_49 : decode cX6_carried 49 = .ok (.iload 4, 2) := by decide +kernel
theorem dX6_carried_51 : decode cX6_carried 51 = .ok (.iload_n 3, 1) := by decide +kernel
theorem dX6_carried_52 : decode cX6_carried 52 = .ok (.ifCond .eq 13, 3) := by decide +kernel
theorem dX6_carried_55 : decode cX6_carried 55 = .ok (.iload 5, 2) := by decide +kernel
theorem dX6_carried_57 : decode cX6_carried 57 = .ok (.iconst 1, 1) := by decide +kernel
theorem dX6_carried_58 : decode cX6_carried 58 = .ok (.if_icmp .ne 7, 3) := by decide +kernel
theorem dX6_carried_61 : decode cX6_carried 61 = .ok (.iload_n 2, 1) := by decide +kernel
theorem dX6_carried_62 : decode cX6_carried 62 = .ok (.goto 10, 3) := by decide +kernel
theorem dX6_carried_65 : decode cX6_carried 65 = .ok (.aload_n 0, 1) := by decide +kernel
theorem dX6_carried_66 : decode cX6_carried 66 = .ok (.getfield 13, 3) := by decide +kernel
theorem dX6_carried_69 : decode cX6_carried 69 = .ok (.iload 4, 2) := by decide +kernel
theorem dX6_carried_71 : decode cX6_carried 71 = .ok (.iaload, 1) := by decide +kernel
theorem dX6_carried_72 : decode cX6_carried 72 = .ok (.iastore, 1) := by decide +kernel
theorem dX6_carried_73 : decode cX6_carried 73 = .ok (.aload_n 0, 1) := by decide +kernel
theorem dX6_carried_74 : decode cX6_carried 74 = .ok (.getfield 16, 3) := by decide +kernel
theorem dX6_carried_77 : decode cX6_carried 77 = .ok (.iload 4, 2) := by decide +kernel
theorem dX6_carried_79 : decode cX6_carried 79 = .ok (.iload_n 3, 1) := by decide +kernel
theorem dX6_carried_80 : decode cX6_carried 80 = .ok (.ifCond .eq 13, 3) := by decide +kernel
theorem dX6_carried_83 : decode cX6_carried 83 = .ok (.iload 5, 2) := by decide +kernel
theorem dX6_carried_85 : decode cX6_carried 85 = .ok (.iconst 2, 1) := by decide +kernel
theorem dX6_carried_86 : decode cX6_carried 86 = .ok (.if_icmp .ne 7, 3) := by decide +kernel
theorem dX6_carried_89 : decode cX6_carried 89 = .ok (.iload_n 2, 1) := by decide +kernel
theorem dX6_carried_90 : decode cX6_carried 90 = .ok (.goto 10, 3) := by decide +kernel
theorem dX6_carried_93 : decode cX6_carried 93 = .ok (.aload_n 0, 1) := by decide +kernel
theorem dX6_carried_94 : decode cX6_carried 94 = .ok (.getfield 16, 3) := by decide +kernel
theorem dX6_carried_97 : decode cX6_carried 97 = .ok (.iload 4, 2) := by decide +kernel
theorem dX6_carried_99 : decode cX6_carried 99 = .ok (.iaload, 1) := by decide +kernel
theorem dX6_carried_100 : decode cX6_carried 100 = .ok (.iastore, 1) := by decide +kernel
theorem dX6_carried_101 : decode cX6_carried 101 = .ok (.aload_n 0, 1) := by decide +kernel
theorem dX6_carried_102 : decode cX6_carried 102 = .ok (.getfield 19, 3) := by decide +kernel
theorem dX6_carried_105 : decode cX6_carried 105 = .ok (.iload 4, 2) := by decide +kernel
theorem dX6_carried_107 : decode cX6_carried 107 = .ok (.iload_n 3, 1) := by decide +kernel
theorem dX6_carried_108 : decode cX6_carried 108 = .ok (.ifCond .eq 13, 3) := by decide +kernel
theorem dX6_carried_111 : decode cX6_carried 111 = .ok (.iload 5, 2) := by decide +kernel
theorem dX6_carried_113 : decode cX6_carried 113 = .ok (.iconst 3, 1) := by decide +kernel
theorem dX6_carried_114 : decode cX6_carried 114 = .ok (.if_icmp .ne 7, 3) := by decide +kernel
theorem dX6_carried_117 : decode cX6_carried 117 = .ok (.iload_n 2, 1) := by decide +kernel
theorem dX6_carried_118 : decode cX6_carried 118 = .ok (.goto 10, 3) := by decide +kernel
theorem dX6_carried_121 : decode cX6_carried 121 = .ok (.aload_n 0, 1) := by decide +kernel
theorem dX6_carried_122 : decode cX6_carried 122 = .ok (.getfield 19, 3) := by decide +kernel
theorem dX6_carried_125 : decode cX6_carried 125 = .ok (.iload 4, 2) := by decide +kernel
theorem dX6_carried_127 : decode cX6_carried 127 = .ok (.iaload, 1) := by decide +kernel
theorem dX6_carried_128 : decode cX6_carried 128 = .ok (.iastore, 1) := by decide +kernel
theorem dX6_carried_129 : decode cX6_carried 129 = .ok (.aload_n 0, 1) := by decide +kernel
theorem dX6_carried_130 : decode cX6_carried 130 = .ok (.getfield 22, 3) := by decide +kernel
theorem dX6_carried_133 : decode cX6_carried 133 = .ok (.iload 4, 2) := by decide +kernel
theorem dX6_carried_135 : decode cX6_carried 135 = .ok (.iload_n 3, 1) := by decide +kernel
theorem dX6_carried_136 : decode cX6_carried 136 = .ok (.ifCond .eq 13, 3) := by decide +kernel
theorem dX6_carried_139 : decode cX6_carried 139 = .ok (.iload 5, 2) := by decide +kernel
theorem dX6_carried_141 : decode cX6_carried 141 = .ok (.iconst 4, 1) := by decide +kernel
theorem dX6_carried_142 : decode cX6_carried 142 = .ok (.if_icmp .ne 7, 3) := by decide +kernel
theorem dX6_carried_145 : decode cX6_carried 145 = .ok (.iload_n 2, 1) := by decide +kernel
theorem dX6_carried_146 : decode cX6_carried 146 = .ok (.goto 10, 3) := by decide +kernel
theorem dX6_carried_149 : decode cX6_carried 149 = .ok (.aload_n 0, 1) := by decide +kernel
theorem dX6_carried_150 : decode cX6_carried 150 = .ok (.getfield 22, 3) := by decide +kernel
theorem dX6_carried_153 : decode cX6_carried 153 = .ok (.iload 4, 2) := by decide +kernel
theorem dX6_carried_155 : decode cX6_carried 155 = .ok (.iaload, 1) := by decide +kernel
theorem dX6_carried_156 : decode cX6_carried 156 = .ok (.iastore, 1) := by decide +kernel
theorem dX6_carried_157 : decode cX6_carried 157 = .ok (.iload 5, 2) := by decide +kernel
theorem dX6_carried_159 : decode cX6_carried 159 = .ok (.ifCond .ne 13, 3) := by decide +kernel
theorem dX6_carried_162 : decode cX6_carried 162 = .ok (.aload_n 0, 1) := by decide +kernel
theorem dX6_carried_163 : decode cX6_carried 163 = .ok (.getfield 7, 3) := by decide +kernel
theorem dX6_carried_166 : decode cX6_carried 166 = .ok (.iload 4, 2) := by decide +kernel
theorem dX6_carried_168 : decode cX6_carried 168 = .ok (.iaload, 1) := by decide +kernel
theorem dX6_carried_169 : decode cX6_carried 169 = .ok (.goto 58, 3) := by decide +kernel
theorem dX6_carried_172 : decode cX6_carried 172 = .ok (.iload 5, 2) := by decide +kernel
theorem dX6_carried_174 : decode cX6_carried 174 = .ok (.iconst 1, 1) := by decide +kernel
theorem dX6_carried_175 : decode cX6_carried 175 = .ok (.if_icmp .ne 13, 3) := by decide +kernel
theorem dX6_carried_178 : decode cX6_carried 178 = .ok (.aload_n 0, 1) := by decide +kernel
theorem dX6_carried_179 : decode cX6_carried 179 = .ok (.getfield 13, 3) := by decide +kernel
theorem dX6_carried_182 : decode cX6_carried 182 = .ok (.iload 4, 2) := by decide +kernel
theorem dX6_carried_184 : decode cX6_carried 184 = .ok (.iaload, 1) := by decide +kernel
theorem dX6_carried_185 : decode cX6_carried 185 = .ok (.goto 42, 3) := by decide +kernel
theorem dX6_carried_188 : decode cX6_carried 188 = .ok (.iload 5, 2) := by decide +kernel
theorem dX6_carried_190 : decode cX6_carried 190 = .ok (.iconst 2, 1) := by decide +kernel
theorem dX6_carried_191 : decode cX6_carried 191 = .ok (.if_icmp .ne 13, 3) := by decide +kernel
theorem dX6_carried_194 : decode cX6_carried 194 = .ok (.aload_n 0, 1) := by decide +kernel
theorem dX6_carried_195 : decode cX6_carried 195 = .ok (.getfield 16, 3) := by decide +kernel
theorem dX6_carried_198 : decode cX6_carried 198 = .ok (.iload 4, 2) := by decide +kernel
theorem dX6_carried_200 : decode cX6_carried 200 = .ok (.iaload, 1) := by decide +kernel
theorem dX6_carried_201 : decode cX6_carried 201 = .ok (.goto 26, 3) := by decide +kernel
theorem dX6_carried_204 : decode cX6_carried 204 = .ok (.iload 5, 2) := by decide +kernel
theorem dX6_carried_206 : decode cX6_carried 206 = .ok (.iconst 3, 1) := by decide +kernel
theorem dX6_carried_207 : decode cX6_carried 207 = .ok (.if_icmp .ne 13, 3) := by decide +kernel
theorem dX6_carried_210 : decode cX6_carried 210 = .ok (.aload_n 0, 1) := by decide +kernel
theorem dX6_carried_211 : decode cX6_carried 211 = .ok (.getfield 19, 3) := by decide +kernel
theorem dX6_carried_214 : decode cX6_carried 214 = .ok (.iload 4, 2) := by decide +kernel
theorem dX6_carried_216 : decode cX6_carried 216 = .ok (.iaload, 1) := by decide +kernel
theorem dX6_carried_217 : decode cX6_carried 217 = .ok (.goto 10, 3) := by decide +kernel
theorem dX6_carried_220 : decode cX6_carried 220 = .ok (.aload_n 0, 1) := by decide +kernel
theorem dX6_carried_221 : decode cX6_carried 221 = .ok (.getfield 22, 3) := by decide +kernel
theorem dX6_carried_224 : decode cX6_carried 224 = .ok (.iload 4, 2) := by decide +kernel
theorem dX6_carried_226 : decode cX6_carried 226 = .ok (.iaload, 1) := by decide +kernel
theorem dX6_carried_227 : decode cX6_carried 227 = .ok (.ireturn, 1) := by decide +kernel
theorem dX6_carried_228 : decode cX6_carried 228 = .ok (.aload_n 0, 1) := by decide +kernel
theorem dX6_carried_229 : decode cX6_carried 229 = .ok (.getfield 35, 3) := by decide +kernel
theorem dX6_carried_232 : decode cX6_carried 232 = .ok (.iload_n 1, 1) := by decide +kernel
theorem dX6_carried_233 : decode cX6_carried 233 = .ok (.bipush 30, 2) := by decide +kernel
theorem dX6_carried_235 : decode cX6_carried 235 = .ok (.isub, 1) := by decide +kernel
theorem dX6_carried_236 : decode cX6_carried 236 = .ok (.iload_n 3, 1) := by decide +kernel
theorem dX6_carried_237 : decode cX6_carried 237 = .ok (.ifCond .eq 7, 3) := by decide +kernel
theorem dX6_carried_240 : decode cX6_carried 240 = .ok (.iload_n 2, 1) := by decide +kernel
theorem dX6_carried_241 : decode cX6_carried 241 = .ok (.goto 12, 3) := by decide +kernel
theorem dX6_carried_244 : decode cX6_carried 244 = .ok (.aload_n 0, 1) := by decide +kernel
theorem dX6_carried_245 : decode cX6_carried 245 = .ok (.getfield 35, 3) := by decide +kernel
theorem dX6_carried_248 : decode cX6_carried 248 = .ok (.iload_n 1, 1) := by decide +kernel
theorem dX6_carried_249 : decode cX6_carried 249 = .ok (.bipush 30, 2) := by decide +kernel
theorem dX6_carried_251 : decode cX6_carried 251 = .ok (.isub, 1) := by decide +kernel
theorem dX6_carried_252 : decode cX6_carried 252 = .ok (.iaload, 1) := by decide +kernel
theorem dX6_carried_253 : decode cX6_carried 253 = .ok (.iastore, 1) := by decide +kernel
theorem dX6_carried_254 : decode cX6_carried 254 = .ok (.aload_n 0, 1) := by decide +kernel
theorem dX6_carried_255 : decode cX6_carried 255 = .ok (.getfield 35, 3) := by decide +kernel
theorem dX6_carried_258 : decode cX6_carried 258 = .ok (.iload_n 1, 1) := by decide +kernel
theorem dX6_carried_259 : decode cX6_carried 259 = .ok (.bipush 30, 2) := by decide +kernel
theorem dX6_carried_261 : decode cX6_carried 261 = .ok (.isub, 1) := by decide +kernel
theorem dX6_carried_262 : decode cX6_carried 262 = .ok (.iaload, 1) := by decide +kernel
theorem dX6_carried_263 : decode cX6_carried 263 = .ok (.ireturn, 1) := by decide +kernel
theorem dX6_image_0 : decode cX6_image 0 = .ok (.iconst 0, 1) := by decide +kernel
theorem dX6_image_1 : decode cX6_image 1 = .ok (.istore_n 1, 1) := by decide +kernel
theorem dX6_image_2 : decode cX6_image 2 = .ok (.iload_n 1, 1) := by decide +kernel
theorem dX6_image_3 : decode cX6_image 3 = .ok (.bipush 54, 2) := by decide +kernel
theorem dX6_image_5 : decode cX6_image 5 = .ok (.if_icmp .ge 22, 3) := by decide +kernel
theorem dX6_image_8 : decode cX6_image 8 = .ok (.aload_n 0, 1) := by decide +kernel
theorem dX6_image_9 : decode cX6_image 9 = .ok (.getfield 56, 3) := by decide +kernel
theorem dX6_image_12 : decode cX6_image 12 = .ok (.iload_n 1, 1) := by decide +kernel
theorem dX6_image_13 : decode cX6_image 13 = .ok (.aload_n 0, 1) := by decide +kernel
theorem dX6_image_14 : decode cX6_image 14 = .ok (.iload_n 1, 1) := by decide +kernel
theorem dX6_image_15 : decode cX6_image 15 = .ok (.iconst 0, 1) := by decide +kernel
theorem dX6_image_16 : decode cX6_image 16 = .ok (.iconst 0, 1) := by decide +kernel
theorem dX6_image_17 : decode cX6_image 17 = .ok (.invokevirtual 232, 3) := by decide +kernel
theorem dX6_image_20 : decode cX6_image 20 = .ok (.iastore, 1) := by decide +kernel
theorem dX6_image_21 : decode cX6_image 21 = .ok (.iinc 1 1, 3) := by decide +kernel
theorem dX6_image_24 : decode cX6_image 24 = .ok (.goto (-22), 3) := by decide +kernel
theorem dX6_image_27 : decode cX6_image 27 = .ok (.aload_n 0, 1) := by decide +kernel
theorem dX6_image_28 : decode cX6_image 28 = .ok (.getfield 56, 3) := by decide +kernel
theorem dX6_image_31 : decode cX6_image 31 = .ok (.bipush 54, 2) := by decide +kernel
theorem dX6_image_33 : decode cX6_image 33 = .ok (.aload_n 0, 1) := by decide +kernel
theorem dX6_image_34 : decode cX6_image 34 = .ok (.getfield 72, 3) := by decide +kernel
theorem dX6_image_37 : decode cX6_image 37 = .ok (.iastore, 1) := by decide +kernel
theorem dX6_image_38 : decode cX6_image 38 = .ok (.aload_n 0, 1) := by decide +kernel
theorem dX6_image_39 : decode cX6_image 39 = .ok (.getfield 56, 3) := by decide +kernel
theorem dX6_image_42 : decode cX6_image 42 = .ok (.bipush 55, 2) := by decide +kernel
theorem dX6_image_44 : decode cX6_image 44 = .ok (.aload_n 0, 1) := by decide +kernel
theorem dX6_image_45 : decode cX6_image 45 = .ok (.getfield 112, 3) := by decide +kernel
theorem dX6_image_48 : decode cX6_image 48 = .ok (.iastore, 1) := by decide +kernel
theorem dX6_image_49 : decode cX6_image 49 = .ok (.aload_n 0, 1) := by decide +kernel
theorem dX6_image_50 : decode cX6_image 50 = .ok (.getfield 56, 3) := by decide +kernel
theorem dX6_image_53 : decode cX6_image 53 = .ok (.bipush 56, 2) := by decide +kernel
theorem dX6_image_55 : decode cX6_image 55 = .ok (.aload_n 0, 1) := by decide +kernel
theorem dX6_image_56 : decode cX6_image 56 = .ok (.getfield 25, 3) := by decide +kernel
theorem dX6_image_59 : decode cX6_image 59 = .ok (.iastore, 1) := by decide +kernel
theorem dX6_image_60 : decode cX6_image 60 = .ok (.aload_n 0, 1) := by decide +kernel
theorem dX6_image_61 : decode cX6_image 61 = .ok (.getfield 56, 3) := by decide +kernel
theorem dX6_image_64 : decode cX6_image 64 = .ok (.bipush 57, 2) := by decide +kernel
theorem dX6_image_66 : decode cX6_image 66 = .ok (.aload_n 0, 1) := by decide +kernel
theorem dX6_image_67 : decode cX6_image 67 = .ok (.getfield 29, 3) := by decide +kernel
theorem dX6_image_70 : decode cX6_image 70 = .ok (.iastore, 1) := by decide +kernel
theorem dX6_image_71 : decode cX6_image 71 = .ok (.aload_n 0, 1) := by decide +kernel
theorem dX6_image_72 : decode cX6_image 72 = .ok (.getfield 56, 3) := by decide +kernel
theorem dX6_image_75 : decode cX6_image 75 = .ok (.bipush 58, 2) := by decide +kernel
theorem dX6_image_77 : decode cX6_image 77 = .ok (.aload_n 0, 1) := by decide +kernel
theorem dX6_image_78 : decode cX6_image 78 = .ok (.getfield 115, 3) := by decide +kernel
theorem dX6_image_81 : decode cX6_image 81 = .ok (.iastore, 1) := by decide +kernel
theorem dX6_image_82 : decode cX6_image 82 = .ok (.aload_n 0, 1) := by decide +kernel
theorem dX6_image_83 : decode cX6_image 83 = .ok (.getfield 56, 3) := by decide +kernel
theorem dX6_image_86 : decode cX6_image 86 = .ok (.bipush 59, 2) := by decide +kernel
theorem dX6_image_88 : decode cX6_image 88 = .ok (.aload_n 0, 1) := by decide +kernel
theorem dX6_image_89 : decode cX6_image 89 = .ok (.getfield 118, 3) := by decide +kernel
theorem dX6_image_92 : decode cX6_image 92 = .ok (.iastore, 1) := by decide +kernel
theorem dX6_image_93 : decode cX6_image 93 = .ok (.aload_n 0, 1) := by decide +kernel
theorem dX6_image_94 : decode cX6_image 94 = .ok (.getfield 56, 3) := by decide +kernel
theorem dX6_image_97 : decode cX6_image 97 = .ok (.bipush 60, 2) := by decide +kernel
theorem dX6_image_99 : decode cX6_image 99 = .ok (.aload_n 0, 1) := by decide +kernel
theorem dX6_image_100 : decode cX6_image 100 = .ok (.getfield 98, 3) := by decide +kernel
theorem dX6_image_103 : decode cX6_image 103 = .ok (.iastore, 1) := by decide +kernel
theorem dX6_image_104 : decode cX6_image 104 = .ok (.aload_n 0, 1) := by decide +kernel
theorem dX6_image_105 : decode cX6_image 105 = .ok (.getfield 56, 3) := by decide +kernel
theorem dX6_image_108 : decode cX6_image 108 = .ok (.bipush 61, 2) := by decide +kernel
theorem dX6_image_110 : decode cX6_image 110 = .ok (.aload_n 0, 1) := by decide +kernel
theorem dX6_image_111 : decode cX6_image 111 = .ok (.getfield 32, 3) := by decide +kernel
theorem dX6_image_114 : decode cX6_image 114 = .ok (.iastore, 1) := by decide +kernel
theorem dX6_image_115 : decode cX6_image 115 = .ok (.aload_n 0, 1) := by decide +kernel
theorem dX6_image_116 : decode cX6_image 116 = .ok (.getfield 56, 3) := by decide +kernel
theorem dX6_image_119 : decode cX6_image 119 = .ok (.bipush 62, 2) := by decide +kernel
theorem dX6_image_121 : decode cX6_image 121 = .ok (.aload_n 0, 1) := by decide +kernel
theorem dX6_image_122 : decode cX6_image 122 = .ok (.getfield 121, 3) := by decide +kernel
theorem dX6_image_125 : decode cX6_image 125 = .ok (.iastore, 1) := by decide +kernel
theorem dX6_image_126 : decode cX6_image 126 = .ok (.aload_n 0, 1) := by decide +kernel
theorem dX6_image_127 : decode cX6_image 127 = .ok (.getfield 56, 3) := by decide +kernel
theorem dX6_image_130 : decode cX6_image 130 = .ok (.bipush 63, 2) := by decide +kernel
theorem dX6_image_132 : decode cX6_image 132 = .ok (.aload_n 0, 1) := by decide +kernel
theorem dX6_image_133 : decode cX6_image 133 = .ok (.getfield 38, 3) := by decide +kernel
theorem dX6_image_136 : decode cX6_image 136 = .ok (.iastore, 1) := by decide +kernel
theorem dX6_image_137 : decode cX6_image 137 = .ok (.aload_n 0, 1) := by decide +kernel
theorem dX6_image_138 : decode cX6_image 138 = .ok (.iconst 1, 1) := by decide +kernel
theorem dX6_image_139 : decode cX6_image 139 = .ok (.putfield 236, 3) := by decide +kernel
theorem dX6_image_142 : decode cX6_image 142 = .ok (.iconst 1, 1) := by decide +kernel
theorem dX6_image_143 : decode cX6_image 143 = .ok (.ireturn, 1) := by decide +kernel
theorem dX6_restore_0 : decode cX6_restore 0 = .ok (.aload_n 0, 1) := by decide +kernel
theorem dX6_restore_1 : decode cX6_restore 1 = .ok (.getfield 236, 3) := by decide +kernel
theorem dX6_restore_4 : decode cX6_restore 4 = .ok (.ifCond .ne 6, 3) := by decide +kernel
theorem dX6_restore_7 : decode cX6_restore 7 = .ok (.bipush (-4), 2) := by decide +kernel
theorem dX6_restore_9 : decode cX6_restore 9 = .ok (.ireturn, 1) := by decide +kernel
theorem dX6_restore_10 : decode cX6_restore 10 = .ok (.iconst 0, 1) := by decide +kernel
theorem dX6_restore_11 : decode cX6_restore 11 = .ok (.istore_n 1, 1) := by decide +kernel
theorem dX6_restore_12 : decode cX6_restore 12 = .ok (.iload_n 1, 1) := by decide +kernel
theorem dX6_restore_13 : decode cX6_restore 13 = .ok (.bipush 54, 2) := by decide +kernel
theorem dX6_restore_15 : decode cX6_restore 15 = .ok (.if_icmp .ge 22, 3) := by decide +kernel
theorem dX6_restore_18 : decode cX6_restore 18 = .ok (.aload_n 0, 1) := by decide +kernel
theorem dX6_restore_19 : decode cX6_restore 19 = .ok (.iload_n 1, 1) := by decide +kernel
theorem dX6_restore_20 : decode cX6_restore 20 = .ok (.aload_n 0, 1) := by decide +kernel
theorem dX6_restore_21 : decode cX6_restore 21 = .ok (.getfield 56, 3) := by decide +kernel
theorem dX6_restore_24 : decode cX6_restore 24 = .ok (.iload_n 1, 1) := by decide +kernel
theorem dX6_restore_25 : decode cX6_restore 25 = .ok (.iaload, 1) := by decide +kernel
theorem dX6_restore_26 : decode cX6_restore 26 = .ok (.iconst 1, 1) := by decide +kernel
theorem dX6_restore_27 : decode cX6_restore 27 = .ok (.invokevirtual 232, 3) := by decide +kernel
theorem dX6_restore_30 : decode cX6_restore 30 = .ok (.pop, 1) := by decide +kernel
theorem dX6_restore_31 : decode cX6_restore 31 = .ok (.iinc 1 1, 3) := by decide +kernel
theorem dX6_restore_34 : decode cX6_restore 34 = .ok (.goto (-22), 3) := by decide +kernel
theorem dX6_restore_37 : decode cX6_restore 37 = .ok (.aload_n 0, 1) := by decide +kernel
theorem dX6_restore_38 : decode cX6_restore 38 = .ok (.aload_n 0, 1) := by decide +kernel
theorem dX6_restore_39 : decode cX6_restore 39 = .ok (.getfield 56, 3) := by decide +kernel
theorem dX6_restore_42 : decode cX6_restore 42 = .ok (.bipush 54, 2) := by decide +kernel
theorem dX6_restore_44 : decode cX6_restore 44 = .ok (.iaload, 1) := by decide +kernel
theorem dX6_restore_45 : decode cX6_restore 45 = .ok (.putfield 72, 3) := by decide +kernel
theorem dX6_restore_48 : decode cX6_restore 48 = .ok (.aload_n 0, 1) := by decide +kernel
theorem dX6_restore_49 : decode cX6_restore 49 = .ok (.aload_n 0, 1) := by decide +kernel
theorem dX6_restore_50 : decode cX6_restore 50 = .ok (.getfield 56, 3) := by decide +kernel
theorem dX6_restore_53 : decode cX6_restore 53 = .ok (.bipush 55, 2) := by decide +kernel
theorem dX6_restore_55 : decode cX6_restore 55 = .ok (.iaload, 1) := by decide +kernel
theorem dX6_restore_56 : decode cX6_restore 56 = .ok (.putfield 112, 3) := by decide +kernel
theorem dX6_restore_59 : decode cX6_restore 59 = .ok (.aload_n 0, 1) := by decide +kernel
theorem dX6_restore_60 : decode cX6_restore 60 = .ok (.aload_n 0, 1) := by decide +kernel
theorem dX6_restore_61 : decode cX6_restore 61 = .ok (.getfield 56, 3) := by decide +kernel
theorem dX6_restore_64 : decode cX6_restore 64 = .ok (.bipush 56, 2) := by decide +kernel
theorem dX6_restore_66 : decode cX6_restore 66 = .ok (.iaload, 1) := by decide +kernel
theorem dX6_restore_67 : decode cX6_restore 67 = .ok (.putfield 25, 3) := by decide +kernel
theorem dX6_restore_70 : decode cX6_restore 70 = .ok (.aload_n 0, 1) := by decide +kernel
theorem dX6_restore_71 : decode cX6_restore 71 = .ok (.aload_n 0, 1) := by decide +kernel
theorem dX6_restore_72 : decode cX6_restore 72 = .ok (.getfield 56, 3) := by decide +kernel
theorem dX6_restore_75 : decode cX6_restore 75 = .ok (.bipush 57, 2) := by decide +kernel
theorem dX6_restore_77 : decode cX6_restore 77 = .ok (.iaload, 1) := by decide +kernel
theorem dX6_restore_78 : decode cX6_restore 78 = .ok (.putfield 29, 3) := by decide +kernel
theorem dX6_restore_81 : decode cX6_restore 81 = .ok (.aload_n 0, 1) := by decide +kernel
theorem dX6_restore_82 : decode cX6_restore 82 = .ok (.aload_n 0, 1) := by decide +kernel
theorem dX6_restore_83 : decode cX6_restore 83 = .ok (.getfield 56, 3) := by decide +kernel
theorem dX6_restore_86 : decode cX6_restore 86 = .ok (.bipush 58, 2) := by decide +kernel
theorem dX6_restore_88 : decode cX6_restore 88 = .ok (.iaload, 1) := by decide +kernel
theorem dX6_restore_89 : decode cX6_restore 89 = .ok (.putfield 115, 3) := by decide +kernel
theorem dX6_restore_92 : decode cX6_restore 92 = .ok (.aload_n 0, 1) := by decide +kernel
theorem dX6_restore_93 : decode cX6_restore 93 = .ok (.aload_n 0, 1) := by decide +kernel
theorem dX6_restore_94 : decode cX6_restore 94 = .ok (.getfield 56, 3) := by decide +kernel
theorem dX6_restore_97 : decode cX6_restore 97 = .ok (.bipush 59, 2) := by decide +kernel
theorem dX6_restore_99 : decode cX6_restore 99 = .ok (.iaload, 1) := by decide +kernel
theorem dX6_restore_100 : decode cX6_restore 100 = .ok (.putfield 118, 3) := by decide +kernel
theorem dX6_restore_103 : decode cX6_restore 103 = .ok (.aload_n 0, 1) := by decide +kernel
theorem dX6_restore_104 : decode cX6_restore 104 = .ok (.aload_n 0, 1) := by decide +kernel
theorem dX6_restore_105 : decode cX6_restore 105 = .ok (.getfield 56, 3) := by decide +kernel
theorem dX6_restore_108 : decode cX6_restore 108 = .ok (.bipush 60, 2) := by decide +kernel
theorem dX6_restore_110 : decode cX6_restore 110 = .ok (.iaload, 1) := by decide +kernel
theorem dX6_restore_111 : decode cX6_restore 111 = .ok (.putfield 98, 3) := by decide +kernel
theorem dX6_restore_114 : decode cX6_restore 114 = .ok (.aload_n 0, 1) := by decide +kernel
theorem dX6_restore_115 : decode cX6_restore 115 = .ok (.aload_n 0, 1) := by decide +kernel
theorem dX6_restore_116 : decode cX6_restore 116 = .ok (.getfield 56, 3) := by decide +kernel
theorem dX6_restore_119 : decode cX6_restore 119 = .ok (.bipush 61, 2) := by decide +kernel
theorem dX6_restore_121 : decode cX6_restore 121 = .ok (.iaload, 1) := by decide +kernel
theorem dX6_restore_122 : decode cX6_restore 122 = .ok (.putfield 32, 3) := by decide +kernel
theorem dX6_restore_125 : decode cX6_restore 125 = .ok (.aload_n 0, 1) := by decide +kernel
theorem dX6_restore_126 : decode cX6_restore 126 = .ok (.aload_n 0, 1) := by decide +kernel
theorem dX6_restore_127 : decode cX6_restore 127 = .ok (.getfield 56, 3) := by decide +kernel
theorem dX6_restore_130 : decode cX6_restore 130 = .ok (.bipush 62, 2) := by decide +kernel
theorem dX6_restore_132 : decode cX6_restore 132 = .ok (.iaload, 1) := by decide +kernel
theorem dX6_restore_133 : decode cX6_restore 133 = .ok (.putfield 121, 3) := by decide +kernel
theorem dX6_restore_136 : decode cX6_restore 136 = .ok (.aload_n 0, 1) := by decide +kernel
theorem dX6_restore_137 : decode cX6_restore 137 = .ok (.aload_n 0, 1) := by decide +kernel
theorem dX6_restore_138 : decode cX6_restore 138 = .ok (.getfield 56, 3) := by decide +kernel
theorem dX6_restore_141 : decode cX6_restore 141 = .ok (.bipush 63, 2) := by decide +kernel
theorem dX6_restore_143 : decode cX6_restore 143 = .ok (.iaload, 1) := by decide +kernel
theorem dX6_restore_144 : decode cX6_restore 144 = .ok (.putfield 38, 3) := by decide +kernel
theorem dX6_restore_147 : decode cX6_restore 147 = .ok (.iconst 1, 1) := by decide +kernel
theorem dX6_restore_148 : decode cX6_restore 148 = .ok (.ireturn, 1) := by decide +kernel
theorem dX6_isSheet_0 : decode cX6_isSheet 0 = .ok (.iload_n 0, 1) := by decide +kernel
theorem dX6_isSheet_1 : decode cX6_isSheet 1 = .ok (.i2l, 1) := by decide +kernel
theorem dX6_isSheet_2 : decode cX6_isSheet 2 = .ok (.lconst 0, 1) := by decide +kernel
theorem dX6_isSheet_3 : decode cX6_isSheet 3 = .ok (.ldc2_w 83, 3) := by decide +kernel
theorem dX6_isSheet_6 : decode cX6_isSheet 6 = .ok (.invokestatic 75, 3) := by decide +kernel
theorem dX6_isSheet_9 : decode cX6_isSheet 9 = .ok (.ifCond .eq 19, 3) := by decide +kernel
theorem dX6_isSheet_12 : decode cX6_isSheet 12 = .ok (.iload_n 1, 1) := by decide +kernel
theorem dX6_isSheet_13 : decode cX6_isSheet 13 = .ok (.i2l, 1) := by decide +kernel
theorem dX6_isSheet_14 : decode cX6_isSheet 14 = .ok (.lconst 0, 1) := by decide +kernel
theorem dX6_isSheet_15 : decode cX6_isSheet 15 = .ok (.ldc2_w 105, 3) := by decide +kernel
theorem dX6_isSheet_18 : decode cX6_isSheet 18 = .ok (.invokestatic 75, 3) := by decide +kernel
theorem dX6_isSheet_21 : decode cX6_isSheet 21 = .ok (.ifCond .eq 7, 3) := by decide +kernel
theorem dX6_isSheet_24 : decode cX6_isSheet 24 = .ok (.iconst 1, 1) := by decide +kernel
theorem dX6_isSheet_25 : decode cX6_isSheet 25 = .ok (.goto 4, 3) := by decide +kernel
theorem dX6_isSheet_28 : decode cX6_isSheet 28 = .ok (.iconst 0, 1) := by decide +kernel
theorem dX6_isSheet_29 : decode cX6_isSheet 29 = .ok (.ireturn, 1) := by decide +kernel
theorem dX6_asLane_0 : decode cX6_asLane 0 = .ok (.iload_n 0, 1) := by decide +kernel
theorem dX6_asLane_1 : decode cX6_asLane 1 = .ok (.ifCond .ne 13, 3) := by decide +kernel
theorem dX6_asLane_4 : decode cX6_asLane 4 = .ok (.lload_n 1, 1) := by decide +kernel
theorem dX6_asLane_5 : decode cX6_asLane 5 = .ok (.bipush 56, 2) := by decide +kernel
theorem dX6_asLane_7 : decode cX6_asLane 7 = .ok (.lshl, 1) := by decide +kernel
theorem dX6_asLane_8 : decode cX6_asLane 8 = .ok (.bipush 56, 2) := by decide +kernel
theorem dX6_asLane_10 : decode cX6_asLane 10 = .ok (.lshr, 1) := by decide +kernel
theorem dX6_asLane_11 : decode cX6_asLane 11 = .ok (.goto 19, 3) := by decide +kernel
theorem dX6_asLane_14 : decode cX6_asLane 14 = .ok (.iload_n 0, 1) := by decide +kernel
theorem dX6_asLane_15 : decode cX6_asLane 15 = .ok (.iconst 1, 1) := by decide +kernel
theorem dX6_asLane_16 : decode cX6_asLane 16 = .ok (.if_icmp .ne 13, 3) := by decide +kernel
theorem dX6_asLane_19 : decode cX6_asLane 19 = .ok (.lload_n 1, 1) := by decide +kernel
theorem dX6_asLane_20 : decode cX6_asLane 20 = .ok (.bipush 48, 2) := by decide +kernel
theorem dX6_asLane_22 : decode cX6_asLane 22 = .ok (.lshl, 1) := by decide +kernel
theorem dX6_asLane_23 : decode cX6_asLane 23 = .ok (.bipush 48, 2) := by decide +kernel
theorem dX6_asLane_25 : decode cX6_asLane 25 = .ok (.lshr, 1) := by decide +kernel
theorem dX6_asLane_26 : decode cX6_asLane 26 = .ok (.goto 4, 3) := by decide +kernel
theorem dX6_asLane_29 : decode cX6_asLane 29 = .ok (.lload_n 1, 1) := by decide +kernel
theorem dX6_asLane_30 : decode cX6_asLane 30 = .ok (.lreturn, 1) := by decide +kernel
theorem dX6_sheet_0 : decode cX6_sheet 0 = .ok (.iload_n 1, 1) := by decide +kernel
theorem dX6_sheet_1 : decode cX6_sheet 1 = .ok (.iload_n 2, 1) := by decide +kernel
theorem dX6_sheet_2 : decode cX6_sheet 2 = .ok (.invokestatic 239, 3) := by decide +kernel
theorem dX6_sheet_5 : decode cX6_sheet 5 = .ok (.ifCond .eq 9, 3) := by decide +kernel
theorem dX6_sheet_8 : decode cX6_sheet 8 = .ok (.iload_n 3, 1) := by decide +kernel
theorem dX6_sheet_9 : decode cX6_sheet 9 = .ok (.bipush 24, 2) := by decide +kernel
theorem dX6_sheet_11 : decode cX6_sheet 11 = .ok (.if_icmp .le 5, 3) := by decide +kernel
theorem dX6_sheet_14 : decode cX6_sheet 14 = .ok (.iconst (-1), 1) := by decide +kernel
theorem dX6_sheet_15 : decode cX6_sheet 15 = .ok (.ireturn, 1) := by decide +kernel
theorem dX6_sheet_16 : decode cX6_sheet 16 = .ok (.iload_n 3, 1) := by decide +kernel
theorem dX6_sheet_17 : decode cX6_sheet 17 = .ok (.ifCond .ge 6, 3) := by decide +kernel
theorem dX6_sheet_20 : decode cX6_sheet 20 = .ok (.bipush (-14), 2) := by decide +kernel
theorem dX6_sheet_22 : decode cX6_sheet 22 = .ok (.ireturn, 1) := by decide +kernel
theorem dX6_sheet_23 : decode cX6_sheet 23 = .ok (.aload_n 0, 1) := by decide +kernel
theorem dX6_sheet_24 : decode cX6_sheet 24 = .ok (.getfield 59, 3) := by decide +kernel
theorem dX6_sheet_27 : decode cX6_sheet 27 = .ok (.iload_n 1, 1) := by decide +kernel
theorem dX6_sheet_28 : decode cX6_sheet 28 = .ok (.iload_n 2, 1) := by decide +kernel
theorem dX6_sheet_29 : decode cX6_sheet 29 = .ok (.iastore, 1) := by decide +kernel
theorem dX6_sheet_30 : decode cX6_sheet 30 = .ok (.aload_n 0, 1) := by decide +kernel
theorem dX6_sheet_31 : decode cX6_sheet 31 = .ok (.getfield 62, 3) := by decide +kernel
theorem dX6_sheet_34 : decode cX6_sheet 34 = .ok (.iload_n 1, 1) := by decide +kernel
theorem dX6_sheet_35 : decode cX6_sheet 35 = .ok (.iload_n 3, 1) := by decide +kernel
theorem dX6_sheet_36 : decode cX6_sheet 36 = .ok (.iastore, 1) := by decide +kernel
theorem dX6_sheet_37 : decode cX6_sheet 37 = .ok (.iconst 0, 1) := by decide +kernel
theorem dX6_sheet_38 : decode cX6_sheet 38 = .ok (.istore 4, 2) := by decide +kernel
theorem dX6_sheet_40 : decode cX6_sheet 40 = .ok (.iload 4, 2) := by decide +kernel
theorem dX6_sheet_42 : decode cX6_sheet 42 = .ok (.bipush 24, 2) := by decide +kernel
theorem dX6_sheet_44 : decode cX6_sheet 44 = .ok (.if_icmp .ge 22, 3) := by decide +kernel
theorem dX6_sheet_47 : decode cX6_sheet 47 = .ok (.aload_n 0, 1) := by decide +kernel
theorem dX6_sheet_48 : decode cX6_sheet 48 = .ok (.getfield 65, 3) := by decide +kernel
theorem dX6_sheet_51 : decode cX6_sheet 51 = .ok (.bipush 24, 2) := by decide +kernel
theorem dX6_sheet_53 : decode cX6_sheet 53 = .ok (.iload_n 1, 1) := by decide +kernel
theorem dX6_sheet_54 : decode cX6_sheet 54 = .ok (.imul, 1) := by decide +kernel
theorem dX6_sheet_55 : decode cX6_sheet 55 = .ok (.iload 4, 2) := by decide +kernel
theorem dX6_sheet_57 : decode cX6_sheet 57 = .ok (.iadd, 1) := by decide +kernel
theorem dX6_sheet_58 : decode cX6_sheet 58 = .ok (.lconst 0, 1) := by decide +kernel
theorem dX6_sheet_59 : decode cX6_sheet 59 = .ok (.lastore, 1) := by decide +kernel
theorem dX6_sheet_60 : decode cX6_sheet 60 = .ok (.iinc 4 1, 3) := by decide +kernel
theorem dX6_sheet_63 : decode cX6_sheet 63 = .ok (.goto (-23), 3) := by decide +kernel
theorem dX6_sheet_66 : decode cX6_sheet 66 = .ok (.iload_n 3, 1) := by decide +kernel
theorem dX6_sheet_67 : decode cX6_sheet 67 = .ok (.ireturn, 1) := by decide +kernel
theorem dX6_drop_0 : decode cX6_drop 0 = .ok (.iload_n 1, 1) := by decide +kernel
theorem dX6_drop_1 : decode cX6_drop 1 = .ok (.i2l, 1) := by decide +kernel
theorem dX6_drop_2 : decode cX6_drop 2 = .ok (.lconst 0, 1) := by decide +kernel
theorem dX6_drop_3 : decode cX6_drop 3 = .ok (.ldc2_w 83, 3) := by decide +kernel
theorem dX6_drop_6 : decode cX6_drop 6 = .ok (.invokestatic 75, 3) := by decide +kernel
theorem dX6_drop_9 : decode cX6_drop 9 = .ok (.ifCond .ne 5, 3) := by decide +kernel
theorem dX6_drop_12 : decode cX6_drop 12 = .ok (.iconst (-1), 1) := by decide +kernel
theorem dX6_drop_13 : decode cX6_drop 13 = .ok (.ireturn, 1) := by decide +kernel
theorem dX6_drop_14 : decode cX6_drop 14 = .ok (.aload_n 0, 1) := by decide +kernel
theorem dX6_drop_15 : decode cX6_drop 15 = .ok (.getfield 59, 3) := by decide +kernel
theorem dX6_drop_18 : decode cX6_drop 18 = .ok (.iload_n 1, 1) := by decide +kernel
theorem dX6_drop_19 : decode cX6_drop 19 = .ok (.iaload, 1) := by decide +kernel
theorem dX6_drop_20 : decode cX6_drop 20 = .ok (.ifCond .ge 6, 3) := by decide +kernel
theorem dX6_drop_23 : decode cX6_drop 23 = .ok (.bipush (-11), 2) := by decide +kernel
theorem dX6_drop_25 : decode cX6_drop 25 = .ok (.ireturn, 1) := by decide +kernel
theorem dX6_drop_26 : decode cX6_drop 26 = .ok (.aload_n 0, 1) := by decide +kernel
theorem dX6_drop_27 : decode cX6_drop 27 = .ok (.getfield 59, 3) := by decide +kernel
theorem dX6_drop_30 : decode cX6_drop 30 = .ok (.iload_n 1, 1) := by decide +kernel
theorem dX6_drop_31 : decode cX6_drop 31 = .ok (.iconst (-1), 1) := by decide +kernel
theorem dX6_drop_32 : decode cX6_drop 32 = .ok (.iastore, 1) := by decide +kernel
theorem dX6_drop_33 : decode cX6_drop 33 = .ok (.aload_n 0, 1) := by decide +kernel
theorem dX6_drop_34 : decode cX6_drop 34 = .ok (.getfield 62, 3) := by decide +kernel
theorem dX6_drop_37 : decode cX6_drop 37 = .ok (.iload_n 1, 1) := by decide +kernel
theorem dX6_drop_38 : decode cX6_drop 38 = .ok (.iaload, 1) := by decide +kernel
theorem dX6_drop_39 : decode cX6_drop 39 = .ok (.ireturn, 1) := by decide +kernel
theorem dX6_lacksRow_0 : decode cX6_lacksRow 0 = .ok (.aload_n 0, 1) := by decide +kernel
theorem dX6_lacksRow_1 : decode cX6_lacksRow 1 = .ok (.getfield 59, 3) := by decide +kernel
theorem dX6_lacksRow_4 : decode cX6_lacksRow 4 = .ok (.iload_n 1, 1) := by decide +kernel
theorem dX6_lacksRow_5 : decode cX6_lacksRow 5 = .ok (.iaload, 1) := by decide +kernel
theorem dX6_lacksRow_6 : decode cX6_lacksRow 6 = .ok (.iload_n 2, 1) := by decide +kernel
theorem dX6_lacksRow_7 : decode cX6_lacksRow 7 = .ok (.if_icmp .eq 20, 3) := by decide +kernel
theorem dX6_lacksRow_10 : decode cX6_lacksRow 10 = .ok (.aload_n 0, 1) := by decide +kernel
theorem dX6_lacksRow_11 : decode cX6_lacksRow 11 = .ok (.getfield 59, 3) := by decide +kernel
theorem dX6_lacksRow_14 : decode cX6_lacksRow 14 = .ok (.iload_n 1, 1) := by decide +kernel
theorem dX6_lacksRow_15 : decode cX6_lacksRow 15 = .ok (.iaload, 1) := by decide +kernel
theorem dX6_lacksRow_16 : decode cX6_lacksRow 16 = .ok (.ifCond .ge 8, 3) := by decide +kernel
theorem dX6_lacksRow_19 : decode cX6_lacksRow 19 = .ok (.bipush (-11), 2) := by decide +kernel
theorem dX6_lacksRow_21 : decode cX6_lacksRow 21 = .ok (.goto 5, 3) := by decide +kernel
theorem dX6_lacksRow_24 : decode cX6_lacksRow 24 = .ok (.bipush (-12), 2) := by decide +kernel
theorem dX6_lacksRow_26 : decode cX6_lacksRow 26 = .ok (.ireturn, 1) := by decide +kernel
theorem dX6_lacksRow_27 : decode cX6_lacksRow 27 = .ok (.iload_n 3, 1) := by decide +kernel
theorem dX6_lacksRow_28 : decode cX6_lacksRow 28 = .ok (.i2l, 1) := by decide +kernel
theorem dX6_lacksRow_29 : decode cX6_lacksRow 29 = .ok (.lconst 0, 1) := by decide +kernel
theorem dX6_lacksRow_30 : decode cX6_lacksRow 30 = .ok (.aload_n 0, 1) := by decide +kernel
theorem dX6_lacksRow_31 : decode cX6_lacksRow 31 = .ok (.getfield 62, 3) := by decide +kernel
theorem dX6_lacksRow_34 : decode cX6_lacksRow 34 = .ok (.iload_n 1, 1) := by decide +kernel
theorem dX6_lacksRow_35 : decode cX6_lacksRow 35 = .ok (.iaload, 1) := by decide +kernel
theorem dX6_lacksRow_36 : decode cX6_lacksRow 36 = .ok (.iload 4, 2) := by decide +kernel
theorem dX6_lacksRow_38 : decode cX6_lacksRow 38 = .ok (.isub, 1) := by decide +kernel
theorem dX6_lacksRow_39 : decode cX6_lacksRow 39 = .ok (.i2l, 1) := by decide +kernel
theorem dX6_lacksRow_40 : decode cX6_lacksRow 40 = .ok (.invokestatic 75, 3) := by decide +kernel
theorem dX6_lacksRow_43 : decode cX6_lacksRow 43 = .ok (.ifCond .eq 7, 3) := by decide +kernel
theorem dX6_lacksRow_46 : decode cX6_lacksRow 46 = .ok (.iconst 0, 1) := by decide +kernel
theorem dX6_lacksRow_47 : decode cX6_lacksRow 47 = .ok (.goto 5, 3) := by decide +kernel
theorem dX6_lacksRow_50 : decode cX6_lacksRow 50 = .ok (.bipush (-13), 2) := by decide +kernel
theorem dX6_lacksRow_52 : decode cX6_lacksRow 52 = .ok (.ireturn, 1) := by decide +kernel
theorem dX6_item_0 : decode cX6_item 0 = .ok (.iload_n 1, 1) := by decide +kernel
theorem dX6_item_1 : decode cX6_item 1 = .ok (.iload_n 2, 1) := by decide +kernel
theorem dX6_item_2 : decode cX6_item 2 = .ok (.invokestatic 239, 3) := by decide +kernel
theorem dX6_item_5 : decode cX6_item 5 = .ok (.ifCond .ne 5, 3) := by decide +kernel
theorem dX6_item_8 : decode cX6_item 8 = .ok (.iconst (-1), 1) := by decide +kernel
theorem dX6_item_9 : decode cX6_item 9 = .ok (.ireturn, 1) := by decide +kernel
theorem dX6_item_10 : decode cX6_item 10 = .ok (.aload_n 0, 1) := by decide +kernel
theorem dX6_item_11 : decode cX6_item 11 = .ok (.iload_n 1, 1) := by decide +kernel
theorem dX6_item_12 : decode cX6_item 12 = .ok (.iload_n 2, 1) := by decide +kernel
theorem dX6_item_13 : decode cX6_item 13 = .ok (.iload_n 3, 1) := by decide +kernel
theorem dX6_item_14 : decode cX6_item 14 = .ok (.iconst 1, 1) := by decide +kernel
theorem dX6_item_15 : decode cX6_item 15 = .ok (.invokevirtual 242, 3) := by decide +kernel
theorem dX6_item_18 : decode cX6_item 18 = .ok (.istore 6, 2) := by decide +kernel
theorem dX6_item_20 : decode cX6_item 20 = .ok (.iload 6, 2) := by decide +kernel
theorem dX6_item_22 : decode cX6_item 22 = .ok (.ifCond .ge 6, 3) := by decide +kernel
theorem dX6_item_25 : decode cX6_item 25 = .ok (.iload 6, 2) := by decide +kernel
theorem dX6_item_27 : decode cX6_item 27 = .ok (.ireturn, 1) := by decide +kernel
theorem dX6_item_28 : decode cX6_item 28 = .ok (.aload_n 0, 1) := by decide +kernel
theorem dX6_item_29 : decode cX6_item 29 = .ok (.getfield 65, 3) := by decide +kernel
theorem dX6_item_32 : decode cX6_item 32 = .ok (.bipush 24, 2) := by decide +kernel
theorem dX6_item_34 : decode cX6_item 34 = .ok (.iload_n 1, 1) := by decide +kernel
theorem dX6_item_35 : decode cX6_item 35 = .ok (.imul, 1) := by decide +kernel
theorem dX6_item_36 : decode cX6_item 36 = .ok (.iload_n 3, 1) := by decide +kernel
theorem dX6_item_37 : decode cX6_item 37 = .ok (.iadd, 1) := by decide +kernel
theorem dX6_item_38 : decode cX6_item 38 = .ok (.iload_n 2, 1) := by decide +kernel
theorem dX6_item_39 : decode cX6_item 39 = .ok (.lload 4, 2) := by decide +kernel
theorem dX6_item_41 : decode cX6_item 41 = .ok (.invokestatic 246, 3) := by decide +kernel
theorem dX6_item_44 : decode cX6_item 44 = .ok (.lastore, 1) := by decide +kernel
theorem dX6_item_45 : decode cX6_item 45 = .ok (.iconst 1, 1) := by decide +kernel
theorem dX6_item_46 : decode cX6_item 46 = .ok (.ireturn, 1) := by decide +kernel
theorem dX6_fits_0 : decode cX6_fits 0 = .ok (.iload_n 3, 1) := by decide +kernel
theorem dX6_fits_1 : decode cX6_fits 1 = .ok (.istore 4, 2) := by decide +kernel
theorem dX6_fits_3 : decode cX6_fits 3 = .ok (.iconst 1, 1) := by decide +kernel
theorem dX6_fits_4 : decode cX6_fits 4 = .ok (.istore 5, 2) := by decide +kernel
theorem dX6_fits_6 : decode cX6_fits 6 = .ok (.iconst 0, 1) := by decide +kernel
theorem dX6_fits_7 : decode cX6_fits 7 = .ok (.istore 6, 2) := by decide +kernel
theorem dX6_fits_9 : decode cX6_fits 9 = .ok (.iload 6, 2) := by decide +kernel
theorem dX6_fits_11 : decode cX6_fits 11 = .ok (.iload_n 2, 1) := by decide +kernel
theorem dX6_fits_12 : decode cX6_fits 12 = .ok (.if_icmp .ge 82, 3) := by decide +kernel
theorem dX6_fits_15 : decode cX6_fits 15 = .ok (.iload 5, 2) := by decide +kernel
theorem dX6_fits_17 : decode cX6_fits 17 = .ok (.ifCond .eq 77, 3) := by decide +kernel
theorem dX6_fits_20 : decode cX6_fits 20 = .ok (.aload_n 0, 1) := by decide +kernel
theorem dX6_fits_21 : decode cX6_fits 21 = .ok (.getfield 65, 3) := by decide +kernel
theorem dX6_fits_24 : decode cX6_fits 24 = .ok (.iload_n 1, 1) := by decide +kernel
theorem dX6_fits_25 : decode cX6_fits 25 = .ok (.iconst 2, 1) := by decide +kernel
theorem dX6_fits_26 : decode cX6_fits 26 = .ok (.iload 6, 2) := by decide +kernel
theorem dX6_fits_28 : decode cX6_fits 28 = .ok (.imul, 1) := by decide +kernel
theorem dX6_fits_29 : decode cX6_fits 29 = .ok (.iadd, 1) := by decide +kernel
theorem dX6_fits_30 : decode cX6_fits 30 = .ok (.laload, 1) := by decide +kernel
theorem dX6_fits_31 : decode cX6_fits 31 = .ok (.l2i, 1) := by decide +kernel
theorem dX6_fits_32 : decode cX6_fits 32 = .ok (.istore 7, 2) := by decide +kernel
theorem dX6_fits_34 : decode cX6_fits 34 = .ok (.aload_n 0, 1) := by decide +kernel
theorem dX6_fits_35 : decode cX6_fits 35 = .ok (.getfield 7, 3) := by decide +kernel
theorem dX6_fits_38 : decode cX6_fits 38 = .ok (.iload 7, 2) := by decide +kernel
theorem dX6_fits_40 : decode cX6_fits 40 = .ok (.iaload, 1) := by decide +kernel
theorem dX6_fits_41 : decode cX6_fits 41 = .ok (.iload 4, 2) := by decide +kernel
theorem dX6_fits_43 : decode cX6_fits 43 = .ok (.invokestatic 182, 3) := by decide +kernel
theorem dX6_fits_46 : decode cX6_fits 46 = .ok (.i2l, 1) := by decide +kernel
theorem dX6_fits_47 : decode cX6_fits 47 = .ok (.aload_n 0, 1) := by decide +kernel
theorem dX6_fits_48 : decode cX6_fits 48 = .ok (.getfield 65, 3) := by decide +kernel
theorem dX6_fits_51 : decode cX6_fits 51 = .ok (.iload_n 1, 1) := by decide +kernel
theorem dX6_fits_52 : decode cX6_fits 52 = .ok (.iconst 2, 1) := by decide +kernel
theorem dX6_fits_53 : decode cX6_fits 53 = .ok (.iload 6, 2) := by decide +kernel
theorem dX6_fits_55 : decode cX6_fits 55 = .ok (.imul, 1) := by decide +kernel
theorem dX6_fits_56 : decode cX6_fits 56 = .ok (.iadd, 1) := by decide +kernel
theorem dX6_fits_57 : decode cX6_fits 57 = .ok (.iconst 1, 1) := by decide +kernel
theorem dX6_fits_58 : decode cX6_fits 58 = .ok (.iadd, 1) := by decide +kernel
theorem dX6_fits_59 : decode cX6_fits 59 = .ok (.laload, 1) := by decide +kernel
theorem dX6_fits_60 : decode cX6_fits 60 = .ok (.lcmp, 1) := by decide +kernel
theorem dX6_fits_61 : decode cX6_fits 61 = .ok (.ifCond .ne 7, 3) := by decide +kernel
theorem dX6_fits_64 : decode cX6_fits 64 = .ok (.iconst 1, 1) := by decide +kernel
theorem dX6_fits_65 : decode cX6_fits 65 = .ok (.goto 4, 3) := by decide +kernel
theorem dX6_fits_68 : decode cX6_fits 68 = .ok (.iconst 0, 1) := by decide +kernel
theorem dX6_fits_69 : decode cX6_fits 69 = .ok (.istore 5, 2) := by decide +kernel
theorem dX6_fits_71 : decode cX6_fits 71 = .ok (.iload 4, 2) := by decide +kernel
theorem dX6_fits_73 : decode cX6_fits 73 = .ok (.aload_n 0, 1) := by decide +kernel
theorem dX6_fits_74 : decode cX6_fits 74 = .ok (.iload 7, 2) := by decide +kernel
theorem dX6_fits_76 : decode cX6_fits 76 = .ok (.invokevirtual 188, 3) := by decide +kernel
theorem dX6_fits_79 : decode cX6_fits 79 = .ok (.iadd, 1) := by decide +kernel
theorem dX6_fits_80 : decode cX6_fits 80 = .ok (.invokestatic 192, 3) := by decide +kernel
theorem dX6_fits_83 : decode cX6_fits 83 = .ok (.invokestatic 195, 3) := by decide +kernel
theorem dX6_fits_86 : decode cX6_fits 86 = .ok (.istore 4, 2) := by decide +kernel
theorem dX6_fits_88 : decode cX6_fits 88 = .ok (.iinc 6 1, 3) := by decide +kernel
theorem dX6_fits_91 : decode cX6_fits 91 = .ok (.goto (-82), 3) := by decide +kernel
theorem dX6_fits_94 : decode cX6_fits 94 = .ok (.iload 5, 2) := by decide +kernel
theorem dX6_fits_96 : decode cX6_fits 96 = .ok (.ireturn, 1) := by decide +kernel
theorem dX6_fit_0 : decode cX6_fit 0 = .ok (.iload_n 1, 1) := by decide +kernel
theorem dX6_fit_1 : decode cX6_fit 1 = .ok (.iload_n 2, 1) := by decide +kernel
theorem dX6_fit_2 : decode cX6_fit 2 = .ok (.invokestatic 239, 3) := by decide +kernel
theorem dX6_fit_5 : decode cX6_fit 5 = .ok (.ifCond .eq 16, 3) := by decide +kernel
theorem dX6_fit_8 : decode cX6_fit 8 = .ok (.iload 4, 2) := by decide +kernel
theorem dX6_fit_10 : decode cX6_fit 10 = .ok (.i2l, 1) := by decide +kernel
theorem dX6_fit_11 : decode cX6_fit 11 = .ok (.lconst 1, 1) := by decide +kernel
theorem dX6_fit_12 : decode cX6_fit 12 = .ok (.ldc2_w 124, 3) := by decide +kernel
theorem dX6_fit_15 : decode cX6_fit 15 = .ok (.invokestatic 75, 3) := by decide +kernel
theorem dX6_fit_18 : decode cX6_fit 18 = .ok (.ifCond .ne 5, 3) := by decide +kernel
theorem dX6_fit_21 : decode cX6_fit 21 = .ok (.iconst (-1), 1) := by decide +kernel
theorem dX6_fit_22 : decode cX6_fit 22 = .ok (.ireturn, 1) := by decide +kernel
theorem dX6_fit_23 : decode cX6_fit 23 = .ok (.aload_n 0, 1) := by decide +kernel
theorem dX6_fit_24 : decode cX6_fit 24 = .ok (.iload_n 1, 1) := by decide +kernel
theorem dX6_fit_25 : decode cX6_fit 25 = .ok (.iload_n 2, 1) := by decide +kernel
theorem dX6_fit_26 : decode cX6_fit 26 = .ok (.iload_n 3, 1) := by decide +kernel
theorem dX6_fit_27 : decode cX6_fit 27 = .ok (.iconst 2, 1) := by decide +kernel
theorem dX6_fit_28 : decode cX6_fit 28 = .ok (.iload 4, 2) := by decide +kernel
theorem dX6_fit_30 : decode cX6_fit 30 = .ok (.imul, 1) := by decide +kernel
theorem dX6_fit_31 : decode cX6_fit 31 = .ok (.invokevirtual 242, 3) := by decide +kernel
theorem dX6_fit_34 : decode cX6_fit 34 = .ok (.istore 5, 2) := by decide +kernel
theorem dX6_fit_36 : decode cX6_fit 36 = .ok (.iload 5, 2) := by decide +kernel
theorem dX6_fit_38 : decode cX6_fit 38 = .ok (.ifCond .ge 6, 3) := by decide +kernel
theorem dX6_fit_41 : decode cX6_fit 41 = .ok (.iload 5, 2) := by decide +kernel
theorem dX6_fit_43 : decode cX6_fit 43 = .ok (.ireturn, 1) := by decide +kernel
theorem dX6_fit_44 : decode cX6_fit 44 = .ok (.bipush 24, 2) := by decide +kernel
theorem dX6_fit_46 : decode cX6_fit 46 = .ok (.iload_n 1, 1) := by decide +kernel
theorem dX6_fit_47 : decode cX6_fit 47 = .ok (.imul, 1) := by decide +kernel
theorem dX6_fit_48 : decode cX6_fit 48 = .ok (.iload_n 3, 1) := by decide +kernel
theorem dX6_fit_49 : decode cX6_fit 49 = .ok (.iadd, 1) := by decide +kernel
theorem dX6_fit_50 : decode cX6_fit 50 = .ok (.istore 6, 2) := by decide +kernel
theorem dX6_fit_52 : decode cX6_fit 52 = .ok (.iconst 0, 1) := by decide +kernel
theorem dX6_fit_53 : decode cX6_fit 53 = .ok (.istore 7, 2) := by decide +kernel
theorem dX6_fit_55 : decode cX6_fit 55 = .ok (.iload 7, 2) := by decide +kernel
theorem dX6_fit_57 : decode cX6_fit 57 = .ok (.iload 4, 2) := by decide +kernel
theorem dX6_fit_59 : decode cX6_fit 59 = .ok (.if_icmp .ge 62, 3) := by decide +kernel
theorem dX6_fit_62 : decode cX6_fit 62 = .ok (.aload_n 0, 1) := by decide +kernel
theorem dX6_fit_63 : decode cX6_fit 63 = .ok (.getfield 65, 3) := by decide +kernel
theorem dX6_fit_66 : decode cX6_fit 66 = .ok (.iload 6, 2) := by decide +kernel
theorem dX6_fit_68 : decode cX6_fit 68 = .ok (.iconst 2, 1) := by decide +kernel
theorem dX6_fit_69 : decode cX6_fit 69 = .ok (.iload 7, 2) := by decide +kernel
theorem dX6_fit_71 : decode cX6_fit 71 = .ok (.imul, 1) := by decide +kernel
theorem dX6_fit_72 : decode cX6_fit 72 = .ok (.iadd, 1) := by decide +kernel
theorem dX6_fit_73 : decode cX6_fit 73 = .ok (.laload, 1) := by decide +kernel
theorem dX6_fit_74 : decode cX6_fit 74 = .ok (.lconst 0, 1) := by decide +kernel
theorem dX6_fit_75 : decode cX6_fit 75 = .ok (.aload_n 0, 1) := by decide +kernel
theorem dX6_fit_76 : decode cX6_fit 76 = .ok (.getfield 72, 3) := by decide +kernel
theorem dX6_fit_79 : decode cX6_fit 79 = .ok (.iconst 1, 1) := by decide +kernel
theorem dX6_fit_80 : decode cX6_fit 80 = .ok (.isub, 1) := by decide +kernel
theorem dX6_fit_81 : decode cX6_fit 81 = .ok (.i2l, 1) := by decide +kernel
theorem dX6_fit_82 : decode cX6_fit 82 = .ok (.invokestatic 75, 3) := by decide +kernel
theorem dX6_fit_85 : decode cX6_fit 85 = .ok (.ifCond .eq 27, 3) := by decide +kernel
theorem dX6_fit_88 : decode cX6_fit 88 = .ok (.aload_n 0, 1) := by decide +kernel
theorem dX6_fit_89 : decode cX6_fit 89 = .ok (.getfield 65, 3) := by decide +kernel
theorem dX6_fit_92 : decode cX6_fit 92 = .ok (.iload 6, 2) := by decide +kernel
theorem dX6_fit_94 : decode cX6_fit 94 = .ok (.iconst 2, 1) := by decide +kernel
theorem dX6_fit_95 : decode cX6_fit 95 = .ok (.iload 7, 2) := by decide +kernel
theorem dX6_fit_97 : decode cX6_fit 97 = .ok (.imul, 1) := by decide +kernel
theorem dX6_fit_98 : decode cX6_fit 98 = .ok (.iadd, 1) := by decide +kernel
theorem dX6_fit_99 : decode cX6_fit 99 = .ok (.iconst 1, 1) := by decide +kernel
theorem dX6_fit_100 : decode cX6_fit 100 = .ok (.iadd, 1) := by decide +kernel
theorem dX6_fit_101 : decode cX6_fit 101 = .ok (.laload, 1) := by decide +kernel
theorem dX6_fit_102 : decode cX6_fit 102 = .ok (.lconst 0, 1) := by decide +kernel
theorem dX6_fit_103 : decode cX6_fit 103 = .ok (.ldc2_w 81, 3) := by decide +kernel
theorem dX6_fit_106 : decode cX6_fit 106 = .ok (.invokestatic 75, 3) := by decide +kernel
theorem dX6_fit_109 : decode cX6_fit 109 = .ok (.ifCond .ne 6, 3) := by decide +kernel
theorem dX6_fit_112 : decode cX6_fit 112 = .ok (.bipush (-2), 2) := by decide +kernel
theorem dX6_fit_114 : decode cX6_fit 114 = .ok (.ireturn, 1) := by decide +kernel
theorem dX6_fit_115 : decode cX6_fit 115 = .ok (.iinc 7 1, 3) := by decide +kernel
theorem dX6_fit_118 : decode cX6_fit 118 = .ok (.goto (-63), 3) := by decide +kernel
theorem dX6_fit_121 : decode cX6_fit 121 = .ok (.iconst 0, 1) := by decide +kernel
theorem dX6_fit_122 : decode cX6_fit 122 = .ok (.istore 7, 2) := by decide +kernel
theorem dX6_fit_124 : decode cX6_fit 124 = .ok (.bipush (-9), 2) := by decide +kernel
theorem dX6_fit_126 : decode cX6_fit 126 = .ok (.istore 8, 2) := by decide +kernel
theorem dX6_fit_128 : decode cX6_fit 128 = .ok (.iload 8, 2) := by decide +kernel
theorem dX6_fit_130 : decode cX6_fit 130 = .ok (.bipush 9, 2) := by decide +kernel
theorem dX6_fit_132 : decode cX6_fit 132 = .ok (.if_icmp .gt 38, 3) := by decide +kernel
theorem dX6_fit_135 : decode cX6_fit 135 = .ok (.iload 7, 2) := by decide +kernel
theorem dX6_fit_137 : decode cX6_fit 137 = .ok (.aload_n 0, 1) := by decide +kernel
theorem dX6_fit_138 : decode cX6_fit 138 = .ok (.iload 6, 2) := by decide +kernel
theorem dX6_fit_140 : decode cX6_fit 140 = .ok (.iload 4, 2) := by decide +kernel
theorem dX6_fit_142 : decode cX6_fit 142 = .ok (.iload 8, 2) := by decide +kernel
theorem dX6_fit_144 : decode cX6_fit 144 = .ok (.invokevirtual 250, 3) := by decide +kernel
theorem dX6_fit_147 : decode cX6_fit 147 = .ok (.ifCond .eq 13, 3) := by decide +kernel
theorem dX6_fit_150 : decode cX6_fit 150 = .ok (.iconst 1, 1) := by decide +kernel
theorem dX6_fit_151 : decode cX6_fit 151 = .ok (.iload 8, 2) := by decide +kernel
theorem dX6_fit_153 : decode cX6_fit 153 = .ok (.bipush 9, 2) := by decide +kernel
theorem dX6_fit_155 : decode cX6_fit 155 = .ok (.iadd, 1) := by decide +kernel
theorem dX6_fit_156 : decode cX6_fit 156 = .ok (.ishl, 1) := by decide +kernel
theorem dX6_fit_157 : decode cX6_fit 157 = .ok (.goto 4, 3) := by decide +kernel
theorem dX6_fit_160 : decode cX6_fit 160 = .ok (.iconst 0, 1) := by decide +kernel
theorem dX6_fit_161 : decode cX6_fit 161 = .ok (.ior, 1) := by decide +kernel
theorem dX6_fit_162 : decode cX6_fit 162 = .ok (.istore 7, 2) := by decide +kernel
theorem dX6_fit_164 : decode cX6_fit 164 = .ok (.iinc 8 1, 3) := by decide +kernel
theorem dX6_fit_167 : decode cX6_fit 167 = .ok (.goto (-39), 3) := by decide +kernel
theorem dX6_fit_170 : decode cX6_fit 170 = .ok (.iload 7, 2) := by decide +kernel
theorem dX6_fit_172 : decode cX6_fit 172 = .ok (.ireturn, 1) := by decide +kernel
theorem dX6_film_0 : decode cX6_film 0 = .ok (.aload_n 0, 1) := by decide +kernel
theorem dX6_film_1 : decode cX6_film 1 = .ok (.iload_n 1, 1) := by decide +kernel
theorem dX6_film_2 : decode cX6_film 2 = .ok (.invokevirtual 91, 3) := by decide +kernel
theorem dX6_film_5 : decode cX6_film 5 = .ok (.ifCond .eq 11, 3) := by decide +kernel
theorem dX6_film_8 : decode cX6_film 8 = .ok (.iload_n 2, 1) := by decide +kernel
theorem dX6_film_9 : decode cX6_film 9 = .ok (.iload_n 3, 1) := by decide +kernel
theorem dX6_film_10 : decode cX6_film 10 = .ok (.invokestatic 239, 3) := by decide +kernel
theorem dX6_film_13 : decode cX6_film 13 = .ok (.ifCond .ne 5, 3) := by decide +kernel
theorem dX6_film_16 : decode cX6_film 16 = .ok (.iconst (-1), 1) := by decide +kernel
theorem dX6_film_17 : decode cX6_film 17 = .ok (.ireturn, 1) := by decide +kernel
theorem dX6_film_18 : decode cX6_film 18 = .ok (.aload_n 0, 1) := by decide +kernel
theorem dX6_film_19 : decode cX6_film 19 = .ok (.iload_n 2, 1) := by decide +kernel
theorem dX6_film_20 : decode cX6_film 20 = .ok (.iload_n 3, 1) := by decide +kernel
theorem dX6_film_21 : decode cX6_film 21 = .ok (.iload 4, 2) := by decide +kernel
theorem dX6_film_23 : decode cX6_film 23 = .ok (.bipush 19, 2) := by decide +kernel
theorem dX6_film_25 : decode cX6_film 25 = .ok (.invokevirtual 242, 3) := by decide +kernel
theorem dX6_film_28 : decode cX6_film 28 = .ok (.istore 5, 2) := by decide +kernel
theorem dX6_film_30 : decode cX6_film 30 = .ok (.iload 5, 2) := by decide +kernel
theorem dX6_film_32 : decode cX6_film 32 = .ok (.ifCond .ge 6, 3) := by decide +kernel
theorem dX6_film_35 : decode cX6_film 35 = .ok (.iload 5, 2) := by decide +kernel
theorem dX6_film_37 : decode cX6_film 37 = .ok (.ireturn, 1) := by decide +kernel
theorem dX6_film_38 : decode cX6_film 38 = .ok (.bipush (-9), 2) := by decide +kernel
theorem dX6_film_40 : decode cX6_film 40 = .ok (.istore 6, 2) := by decide +kernel
theorem dX6_film_42 : decode cX6_film 42 = .ok (.iload 6, 2) := by decide +kernel
theorem dX6_film_44 : decode cX6_film 44 = .ok (.bipush 9, 2) := by decide +kernel
theorem dX6_film_46 : decode cX6_film 46 = .ok (.if_icmp .gt 35, 3) := by decide +kernel
theorem dX6_film_49 : decode cX6_film 49 = .ok (.aload_n 0, 1) := by decide +kernel
theorem dX6_film_50 : decode cX6_film 50 = .ok (.getfield 65, 3) := by decide +kernel
theorem dX6_film_53 : decode cX6_film 53 = .ok (.bipush 24, 2) := by decide +kernel
theorem dX6_film_55 : decode cX6_film 55 = .ok (.iload_n 2, 1) := by decide +kernel
theorem dX6_film_56 : decode cX6_film 56 = .ok (.imul, 1) := by decide +kernel
theorem dX6_film_57 : decode cX6_film 57 = .ok (.iload 4, 2) := by decide +kernel
theorem dX6_film_59 : decode cX6_film 59 = .ok (.iadd, 1) := by decide +kernel
theorem dX6_film_60 : decode cX6_film 60 = .ok (.iload 6, 2) := by decide +kernel
theorem dX6_film_62 : decode cX6_film 62 = .ok (.iadd, 1) := by decide +kernel
theorem dX6_film_63 : decode cX6_film 63 = .ok (.bipush 9, 2) := by decide +kernel
theorem dX6_film_65 : decode cX6_film 65 = .ok (.iadd, 1) := by decide +kernel
theorem dX6_film_66 : decode cX6_film 66 = .ok (.aload_n 0, 1) := by decide +kernel
theorem dX6_film_67 : decode cX6_film 67 = .ok (.iload_n 1, 1) := by decide +kernel
theorem dX6_film_68 : decode cX6_film 68 = .ok (.iload 6, 2) := by decide +kernel
theorem dX6_film_70 : decode cX6_film 70 = .ok (.invokevirtual 222, 3) := by decide +kernel
theorem dX6_film_73 : decode cX6_film 73 = .ok (.i2l, 1) := by decide +kernel
theorem dX6_film_74 : decode cX6_film 74 = .ok (.lastore, 1) := by decide +kernel
theorem dX6_film_75 : decode cX6_film 75 = .ok (.iinc 6 1, 3) := by decide +kernel
theorem dX6_film_78 : decode cX6_film 78 = .ok (.goto (-36), 3) := by decide +kernel
theorem dX6_film_81 : decode cX6_film 81 = .ok (.bipush 19, 2) := by decide +kernel
theorem dX6_film_83 : decode cX6_film 83 = .ok (.ireturn, 1) := by decide +kernel
theorem dX6_copy_0 : decode cX6_copy 0 = .ok (.iload_n 1, 1) := by decide +kernel
theorem dX6_copy_1 : decode cX6_copy 1 = .ok (.i2l, 1) := by decide +kernel
theorem dX6_copy_2 : decode cX6_copy 2 = .ok (.lconst 0, 1) := by decide +kernel
theorem dX6_copy_3 : decode cX6_copy 3 = .ok (.ldc2_w 83, 3) := by decide +kernel
theorem dX6_copy_6 : decode cX6_copy 6 = .ok (.invokestatic 75, 3) := by decide +kernel
theorem dX6_copy_9 : decode cX6_copy 9 = .ok (.ifCond .eq 15, 3) := by decide +kernel
theorem dX6_copy_12 : decode cX6_copy 12 = .ok (.iload_n 3, 1) := by decide +kernel
theorem dX6_copy_13 : decode cX6_copy 13 = .ok (.i2l, 1) := by decide +kernel
theorem dX6_copy_14 : decode cX6_copy 14 = .ok (.lconst 0, 1) := by decide +kernel
theorem dX6_copy_15 : decode cX6_copy 15 = .ok (.ldc2_w 83, 3) := by decide +kernel
theorem dX6_copy_18 : decode cX6_copy 18 = .ok (.invokestatic 75, 3) := by decide +kernel
theorem dX6_copy_21 : decode cX6_copy 21 = .ok (.ifCond .ne 5, 3) := by decide +kernel
theorem dX6_copy_24 : decode cX6_copy 24 = .ok (.iconst (-1), 1) := by decide +kernel
theorem dX6_copy_25 : decode cX6_copy 25 = .ok (.ireturn, 1) := by decide +kernel
theorem dX6_copy_26 : decode cX6_copy 26 = .ok (.aload_n 0, 1) := by decide +kernel
theorem dX6_copy_27 : decode cX6_copy 27 = .ok (.getfield 59, 3) := by decide +kernel
theorem dX6_copy_30 : decode cX6_copy 30 = .ok (.iload_n 1, 1) := by decide +kernel
theorem dX6_copy_31 : decode cX6_copy 31 = .ok (.iaload, 1) := by decide +kernel
theorem dX6_copy_32 : decode cX6_copy 32 = .ok (.ifCond .lt 12, 3) := by decide +kernel
theorem dX6_copy_35 : decode cX6_copy 35 = .ok (.aload_n 0, 1) := by decide +kernel
theorem dX6_copy_36 : decode cX6_copy 36 = .ok (.getfield 59, 3) := by decide +kernel
theorem dX6_copy_39 : decode cX6_copy 39 = .ok (.iload_n 3, 1) := by decide +kernel
theorem dX6_copy_40 : decode cX6_copy 40 = .ok (.iaload, 1) := by decide +kernel
theorem dX6_copy_41 : decode cX6_copy 41 = .ok (.ifCond .ge 6, 3) := by decide +kernel
theorem dX6_copy_44 : decode cX6_copy 44 = .ok (.bipush (-11), 2) := by decide +kernel
theorem dX6_copy_46 : decode cX6_copy 46 = .ok (.ireturn, 1) := by decide +kernel
theorem dX6_copy_47 : decode cX6_copy 47 = .ok (.aload_n 0, 1) := by decide +kernel
theorem dX6_copy_48 : decode cX6_copy 48 = .ok (.getfield 59, 3) := by decide +kernel
theorem dX6_copy_51 : decode cX6_copy 51 = .ok (.iload_n 1, 1) := by decide +kernel
theorem dX6_copy_52 : decode cX6_copy 52 = .ok (.iaload, 1) := by decide +kernel
theorem dX6_copy_53 : decode cX6_copy 53 = .ok (.aload_n 0, 1) := by decide +kernel
theorem dX6_copy_54 : decode cX6_copy 54 = .ok (.getfield 59, 3) := by decide +kernel
theorem dX6_copy_57 : decode cX6_copy 57 = .ok (.iload_n 3, 1) := by decide +kernel
theorem dX6_copy_58 : decode cX6_copy 58 = .ok (.iaload, 1) := by decide +kernel
theorem dX6_copy_59 : decode cX6_copy 59 = .ok (.if_icmp .eq 6, 3) := by decide +kernel
theorem dX6_copy_62 : decode cX6_copy 62 = .ok (.bipush (-12), 2) := by decide +kernel
theorem dX6_copy_64 : decode cX6_copy 64 = .ok (.ireturn, 1) := by decide +kernel
theorem dX6_copy_65 : decode cX6_copy 65 = .ok (.iload 5, 2) := by decide +kernel
theorem dX6_copy_67 : decode cX6_copy 67 = .ok (.ifCond .lt 44, 3) := by decide +kernel
theorem dX6_copy_70 : decode cX6_copy 70 = .ok (.iload_n 2, 1) := by decide +kernel
theorem dX6_copy_71 : decode cX6_copy 71 = .ok (.i2l, 1) := by decide +kernel
theorem dX6_copy_72 : decode cX6_copy 72 = .ok (.lconst 0, 1) := by decide +kernel
theorem dX6_copy_73 : decode cX6_copy 73 = .ok (.aload_n 0, 1) := by decide +kernel
theorem dX6_copy_74 : decode cX6_copy 74 = .ok (.getfield 62, 3) := by decide +kernel
theorem dX6_copy_77 : decode cX6_copy 77 = .ok (.iload_n 1, 1) := by decide +kernel
theorem dX6_copy_78 : decode cX6_copy 78 = .ok (.iaload, 1) := by decide +kernel
theorem dX6_copy_79 : decode cX6_copy 79 = .ok (.i2l, 1) := by decide +kernel
theorem dX6_copy_80 : decode cX6_copy 80 = .ok (.iload 5, 2) := by decide +kernel
theorem dX6_copy_82 : decode cX6_copy 82 = .ok (.i2l, 1) := by decide +kernel
theorem dX6_copy_83 : decode cX6_copy 83 = .ok (.lsub, 1) := by decide +kernel
theorem dX6_copy_84 : decode cX6_copy 84 = .ok (.invokestatic 75, 3) := by decide +kernel
theorem dX6_copy_87 : decode cX6_copy 87 = .ok (.ifCond .eq 24, 3) := by decide +kernel
theorem dX6_copy_90 : decode cX6_copy 90 = .ok (.iload 4, 2) := by decide +kernel
theorem dX6_copy_92 : decode cX6_copy 92 = .ok (.i2l, 1) := by decide +kernel
theorem dX6_copy_93 : decode cX6_copy 93 = .ok (.lconst 0, 1) := by decide +kernel
theorem dX6_copy_94 : decode cX6_copy 94 = .ok (.aload_n 0, 1) := by decide +kernel
theorem dX6_copy_95 : decode cX6_copy 95 = .ok (.getfield 62, 3) := by decide +kernel
theorem dX6_copy_98 : decode cX6_copy 98 = .ok (.iload_n 3, 1) := by decide +kernel
theorem dX6_copy_99 : decode cX6_copy 99 = .ok (.iaload, 1) := by decide +kernel
theorem dX6_copy_100 : decode cX6_copy 100 = .ok (.i2l, 1) := by decide +kernel
theorem dX6_copy_101 : decode cX6_copy 101 = .ok (.iload 5, 2) := by decide +kernel
theorem dX6_copy_103 : decode cX6_copy 103 = .ok (.i2l, 1) := by decide +kernel
theorem dX6_copy_104 : decode cX6_copy 104 = .ok (.lsub, 1) := by decide +kernel
theorem dX6_copy_105 : decode cX6_copy 105 = .ok (.invokestatic 75, 3) := by decide +kernel
theorem dX6_copy_108 : decode cX6_copy 108 = .ok (.ifCond .ne 6, 3) := by decide +kernel
theorem dX6_copy_111 : decode cX6_copy 111 = .ok (.bipush (-13), 2) := by decide +kernel
theorem dX6_copy_113 : decode cX6_copy 113 = .ok (.ireturn, 1) := by decide +kernel
theorem dX6_copy_114 : decode cX6_copy 114 = .ok (.iconst 0, 1) := by decide +kernel
theorem dX6_copy_115 : decode cX6_copy 115 = .ok (.istore 6, 2) := by decide +kernel
theorem dX6_copy_117 : decode cX6_copy 117 = .ok (.iload 6, 2) := by decide +kernel
theorem dX6_copy_119 : decode cX6_copy 119 = .ok (.iload 5, 2) := by decide +kernel
theorem dX6_copy_121 : decode cX6_copy 121 = .ok (.if_icmp .ge 30, 3) := by decide +kernel
theorem dX6_copy_124 : decode cX6_copy 124 = .ok (.aload_n 0, 1) := by decide +kernel
theorem dX6_copy_125 : decode cX6_copy 125 = .ok (.getfield 69, 3) := by decide +kernel
theorem dX6_copy_128 : decode cX6_copy 128 = .ok (.iload 6, 2) := by decide +kernel
theorem dX6_copy_130 : decode cX6_copy 130 = .ok (.aload_n 0, 1) := by decide +kernel
theorem dX6_copy_131 : decode cX6_copy 131 = .ok (.getfield 65, 3) := by decide +kernel
theorem dX6_copy_134 : decode cX6_copy 134 = .ok (.bipush 24, 2) := by decide +kernel
theorem dX6_copy_136 : decode cX6_copy 136 = .ok (.iload_n 1, 1) := by decide +kernel
theorem dX6_copy_137 : decode cX6_copy 137 = .ok (.imul, 1) := by decide +kernel
theorem dX6_copy_138 : decode cX6_copy 138 = .ok (.iload_n 2, 1) := by decide +kernel
theorem dX6_copy_139 : decode cX6_copy 139 = .ok (.iadd, 1) := by decide +kernel
theorem dX6_copy_140 : decode cX6_copy 140 = .ok (.iload 6, 2) := by decide +kernel
theorem dX6_copy_142 : decode cX6_copy 142 = .ok (.iadd, 1) := by decide +kernel
theorem dX6_copy_143 : decode cX6_copy 143 = .ok (.laload, 1) := by decide +kernel
theorem dX6_copy_144 : decode cX6_copy 144 = .ok (.lastore, 1) := by decide +kernel
theorem dX6_copy_145 : decode cX6_copy 145 = .ok (.iinc 6 1, 3) := by decide +kernel
theorem dX6_copy_148 : decode cX6_copy 148 = .ok (.goto (-31), 3) := by decide +kernel
theorem dX6_copy_151 : decode cX6_copy 151 = .ok (.iconst 0, 1) := by decide +kernel
theorem dX6_copy_152 : decode cX6_copy 152 = .ok (.istore 6, 2) := by decide +kernel
theorem dX6_copy_154 : decode cX6_copy 154 = .ok (.iload 6, 2) := by decide +kernel
theorem dX6_copy_156 : decode cX6_copy 156 = .ok (.iload 5, 2) := by decide +kernel
theorem dX6_copy_158 : decode cX6_copy 158 = .ok (.if_icmp .ge 31, 3) := by decide +kernel
theorem dX6_copy_161 : decode cX6_copy 161 = .ok (.aload_n 0, 1) := by decide +kernel
theorem dX6_copy_162 : decode cX6_copy 162 = .ok (.getfield 65, 3) := by decide +kernel
theorem dX6_copy_165 : decode cX6_copy 165 = .ok (.bipush 24, 2) := by decide +kernel
theorem dX6_copy_167 : decode cX6_copy 167 = .ok (.iload_n 3, 1) := by decide +kernel
theorem dX6_copy_168 : decode cX6_copy 168 = .ok (.imul, 1) := by decide +kernel
theorem dX6_copy_169 : decode cX6_copy 169 = .ok (.iload 4, 2) := by decide +kernel
theorem dX6_copy_171 : decode cX6_copy 171 = .ok (.iadd, 1) := by decide +kernel
theorem dX6_copy_172 : decode cX6_copy 172 = .ok (.iload 6, 2) := by decide +kernel
theorem dX6_copy_174 : decode cX6_copy 174 = .ok (.iadd, 1) := by decide +kernel
theorem dX6_copy_175 : decode cX6_copy 175 = .ok (.aload_n 0, 1) := by decide +kernel
theorem dX6_copy_176 : decode cX6_copy 176 = .ok (.getfield 69, 3) := by decide +kernel
theorem dX6_copy_179 : decode cX6_copy 179 = .ok (.iload 6, 2) := by decide +kernel
theorem dX6_copy_181 : decode cX6_copy 181 = .ok (.laload, 1) := by decide +kernel
theorem dX6_copy_182 : decode cX6_copy 182 = .ok (.lastore, 1) := by decide +kernel
theorem dX6_copy_183 : decode cX6_copy 183 = .ok (.iinc 6 1, 3) := by decide +kernel
theorem dX6_copy_186 : decode cX6_copy 186 = .ok (.goto (-32), 3) := by decide +kernel
theorem dX6_copy_189 : decode cX6_copy 189 = .ok (.iload 5, 2) := by decide +kernel
theorem dX6_copy_191 : decode cX6_copy 191 = .ok (.ireturn, 1) := by decide +kernel
end
section
def BIG : List Cond := lw_tbl.filter goodWord
def isNest : Cond → Bool
  | .fieldLinkNest _ _ _ _ _ _ => true
  | .methodLinkNest _ _ _ _ => true
  | _ => false
def NWL : List Cond := tables_1.filter isNest
theorem bmS {w : Cond} (h : w ∈ k2_sels lw_privs) (g : goodWord w = true) : w ∈ BIG := List.mem_filter.mpr ⟨List.mem_append_left _ h, g⟩
theorem bmT {w : Cond} (h : w ∈ tables_1) (g : goodWord w = true) : w ∈ BIG := List.mem_filter.mpr ⟨List.mem_append_right _ h, g⟩
theorem bt1 {w : Cond} (h : w ∈ tables_1_1) : w ∈ tables_1 := List.mem_append_left _ h
theorem bt2 {w : Cond} (h : w ∈ tables_1_2) : w ∈ tables_1 := List.mem_append_right _ (List.mem_append_left _ h)
theorem bt3 {w : Cond} (h : w ∈ tables_1_3) : w ∈ tables_1 := List.mem_append_right _ (List.mem_append_right _ (List.mem_append_left _ h))
theorem bt4 {w : Cond} (h : w ∈ tables_1_4) : w ∈ tables_1 := List.mem_append_right _ (List.mem_append_right _ (List.mem_append_right _ h))
theorem nmT {w : Cond} (h : w ∈ tables_1) (g : isNest w = true) : w ∈ NWL := List.mem_filter.mpr ⟨h, g⟩
theorem bw_0 : (Jvm.Cond.initialized "WellMoodsLaw") ∈ BIG := bmT (bt1 (List.mem_of_getElem? (i := 0) (by decide +kernel))) rfl
theorem bw_1 : (Jvm.Cond.initialized "WellMoods") ∈ BIG := bmT (bt1 (List.mem_of_getElem? (i := 1) (by decide +kernel))) rfl
theorem bw_2 : (Jvm.Cond.initialized "WellMoods$Well") ∈ BIG := bmT (bt1 (List.mem_of_getElem? (i := 2) (by decide +kernel))) rfl
theorem bw_3 : (Jvm.Cond.initialized "WellMoods$Folk") ∈ BIG := bmT (bt1 (List.mem_of_getElem? (i := 3) (by decide +kernel))) rfl
theorem bw_4 : (Jvm.Cond.initialized "WellMoods$Tape") ∈ BIG := bmT (bt1 (List.mem_of_getElem? (i := 4) (by decide +kernel))) rfl
theorem bw_5 : (Jvm.Cond.initialized "WellMoods$Search") ∈ BIG := bmT (bt1 (List.mem_of_getElem? (i := 5) (by decide +kernel))) rfl
theorem bw_6 : (Jvm.Cond.initialized "WellMoods$Sheet") ∈ BIG := bmT (bt1 (List.mem_of_getElem? (i := 6) (by decide +kernel))) rfl
theorem bw_7 : (Jvm.Cond.initialized "WellMoodsModel") ∈ BIG := bmT (bt1 (List.mem_of_getElem? (i := 7) (by decide +kernel))) rfl
theorem bw_8 : (Jvm.Cond.initialized "java/lang/Math") ∈ BIG := bmT (bt1 (List.mem_of_getElem? (i := 8) (by decide +kernel))) rfl
theorem bw_9 : (Jvm.Cond.initialized "java/lang/System") ∈ BIG := bmT (bt1 (List.mem_of_getElem? (i := 9) (by decide +kernel))) rfl
theorem bw_10 : (Jvm.Cond.initialized "java/lang/Integer") ∈ BIG := bmT (bt1 (List.mem_of_getElem? (i := 10) (by decide +kernel))) rfl
theorem bw_11 : (Jvm.Cond.classLink "WellMoodsLaw" (7 : Nat) "WellMoods") ∈ BIG := bmT (bt1 (List.mem_of_getElem? (i := 11) (by decide +kernel))) rfl
theorem bw_12 : (Jvm.Cond.instantiable "WellMoods" (8 : Nat)) ∈ BIG := bmT (bt1 (List.mem_of_getElem? (i := 12) (by decide +kernel))) rfl
theorem bw_13 : (Jvm.Cond.methodLink "WellMoodsLaw" (9 : Nat) ({ cls := "WellMoods", name := "<init>", desc := "()V" } : Jvm.MethodName)) ∈ BIG := bmT (bt1 (List.mem_of_getElem? (i := 13) (by decide +kernel))) rfl
theorem bw_14 : (Jvm.Cond.instanceMethod ({ cls := "WellMoods", name := "<init>", desc := "()V" } : Jvm.MethodName)) ∈ BIG := bmT (bt1 (List.mem_of_getElem? (i := 14) (by decide +kernel))) rfl
theorem bw_15 : (Jvm.Cond.code ({ cls := "WellMoods", name := "<init>", desc := "()V" } : Jvm.MethodName) prog_1_method_1_code (2 : Nat) (Option.none : Option Jvm.ClassFile.FieldType)) ∈ BIG := bmT (bt1 (List.mem_of_getElem? (i := 15) (by decide +kernel))) rfl
theorem bw_16 : (Jvm.Cond.methodLink "WellMoods" (3 : Nat) ({ cls := "java/lang/Object", name := "<init>", desc := "()V" } : Jvm.MethodName)) ∈ BIG := bmT (bt1 (List.mem_of_getElem? (i := 16) (by decide +kernel))) rfl
theorem bw_17 : (Jvm.Cond.instanceMethod ({ cls := "java/lang/Object", name := "<init>", desc := "()V" } : Jvm.MethodName)) ∈ BIG := bmT (bt1 (List.mem_of_getElem? (i := 17) (by decide +kernel))) rfl
theorem bw_18 : (Jvm.Cond.code ({ cls := "java/lang/Object", name := "<init>", desc := "()V" } : Jvm.MethodName) object_method_1_code (1 : Nat) (Option.none : Option Jvm.ClassFile.FieldType)) ∈ BIG := bmT (bt1 (List.mem_of_getElem? (i := 18) (by decide +kernel))) rfl
theorem bw_19 : (Jvm.Cond.classLink "WellMoods" (9 : Nat) "WellMoods$Well") ∈ BIG := bmT (bt1 (List.mem_of_getElem? (i := 19) (by decide +kernel))) rfl
theorem bw_20 : (Jvm.Cond.instantiable "WellMoods$Well" (12 : Nat)) ∈ BIG := bmT (bt1 (List.mem_of_getElem? (i := 20) (by decide +kernel))) rfl
theorem bw_21 : (Jvm.Cond.methodLinkNest "WellMoods" (11 : Nat) ({ cls := "WellMoods$Well", name := "<init>", desc := "()V" } : Jvm.MethodName) "WellMoods") ∈ NWL := nmT (bt1 (List.mem_of_getElem? (i := 21) (by decide +kernel))) rfl
theorem bw_22 : (Jvm.Cond.instanceMethod ({ cls := "WellMoods$Well", name := "<init>", desc := "()V" } : Jvm.MethodName)) ∈ BIG := bmT (bt1 (List.mem_of_getElem? (i := 22) (by decide +kernel))) rfl
theorem bw_23 : (Jvm.Cond.code ({ cls := "WellMoods$Well", name := "<init>", desc := "()V" } : Jvm.MethodName) prog_6_method_1_code (1 : Nat) (Option.none : Option Jvm.ClassFile.FieldType)) ∈ BIG := bmT (bt1 (List.mem_of_getElem? (i := 23) (by decide +kernel))) rfl
theorem bw_24 : (Jvm.Cond.methodLink "WellMoods$Well" (3 : Nat) ({ cls := "java/lang/Object", name := "<init>", desc := "()V" } : Jvm.MethodName)) ∈ BIG := bmT (bt1 (List.mem_of_getElem? (i := 24) (by decide +kernel))) rfl
theorem bw_25 : (Jvm.Cond.classLink "WellMoods$Well" (9 : Nat) "WellMoods$Folk") ∈ BIG := bmT (bt1 (List.mem_of_getElem? (i := 25) (by decide +kernel))) rfl
theorem bw_26 : (Jvm.Cond.instantiable "WellMoods$Folk" (5 : Nat)) ∈ BIG := bmT (bt1 (List.mem_of_getElem? (i := 26) (by decide +kernel))) rfl
theorem bw_27 : (Jvm.Cond.methodLinkNest "WellMoods$Well" (11 : Nat) ({ cls := "WellMoods$Folk", name := "<init>", desc := "()V" } : Jvm.MethodName) "WellMoods") ∈ NWL := nmT (bt1 (List.mem_of_getElem? (i := 27) (by decide +kernel))) rfl
theorem bw_28 : (Jvm.Cond.instanceMethod ({ cls := "WellMoods$Folk", name := "<init>", desc := "()V" } : Jvm.MethodName)) ∈ BIG := bmT (bt1 (List.mem_of_getElem? (i := 28) (by decide +kernel))) rfl
theorem bw_29 : (Jvm.Cond.code ({ cls := "WellMoods$Folk", name := "<init>", desc := "()V" } : Jvm.MethodName) prog_2_method_1_code (1 : Nat) (Option.none : Option Jvm.ClassFile.FieldType)) ∈ BIG := bmT (bt1 (List.mem_of_getElem? (i := 29) (by decide +kernel))) rfl
theorem bw_30 : (Jvm.Cond.methodLink "WellMoods$Folk" (3 : Nat) ({ cls := "java/lang/Object", name := "<init>", desc := "()V" } : Jvm.MethodName)) ∈ BIG := bmT (bt1 (List.mem_of_getElem? (i := 30) (by decide +kernel))) rfl
theorem bw_31 : (Jvm.Cond.fieldLink "WellMoods$Folk" (9 : Nat) "WellMoods$Folk" "kinds" "[I") ∈ BIG := bmT (bt1 (List.mem_of_getElem? (i := 31) (by decide +kernel))) rfl
theorem bw_32 : (Jvm.Cond.fieldLinkNest "WellMoods" (75 : Nat) "WellMoods$Folk" "kinds" "[I" "WellMoods") ∈ NWL := nmT (bt1 (List.mem_of_getElem? (i := 32) (by decide +kernel))) rfl
theorem bw_33 : (Jvm.Cond.fieldLink "WellMoods$Folk" (15 : Nat) "WellMoods$Folk" "feelings" "[I") ∈ BIG := bmT (bt1 (List.mem_of_getElem? (i := 33) (by decide +kernel))) rfl
theorem bw_34 : (Jvm.Cond.fieldLinkNest "WellMoods" (78 : Nat) "WellMoods$Folk" "feelings" "[I" "WellMoods") ∈ NWL := nmT (bt1 (List.mem_of_getElem? (i := 34) (by decide +kernel))) rfl
theorem bw_35 : (Jvm.Cond.fieldLink "WellMoods$Folk" (18 : Nat) "WellMoods$Folk" "rests" "[I") ∈ BIG := bmT (bt1 (List.mem_of_getElem? (i := 35) (by decide +kernel))) rfl
theorem bw_36 : (Jvm.Cond.fieldLinkNest "WellMoods" (81 : Nat) "WellMoods$Folk" "rests" "[I" "WellMoods") ∈ NWL := nmT (bt1 (List.mem_of_getElem? (i := 36) (by decide +kernel))) rfl
theorem bw_37 : (Jvm.Cond.fieldLinkNest "WellMoods$Search" (99 : Nat) "WellMoods$Folk" "rests" "[I" "WellMoods") ∈ NWL := nmT (bt1 (List.mem_of_getElem? (i := 37) (by decide +kernel))) rfl
theorem bw_38 : (Jvm.Cond.fieldLinkNest "WellMoods$Well" (97 : Nat) "WellMoods$Folk" "rests" "[I" "WellMoods") ∈ NWL := nmT (bt1 (List.mem_of_getElem? (i := 38) (by decide +kernel))) rfl
theorem bw_39 : (Jvm.Cond.fieldLink "WellMoods$Folk" (21 : Nat) "WellMoods$Folk" "foes" "[I") ∈ BIG := bmT (bt1 (List.mem_of_getElem? (i := 39) (by decide +kernel))) rfl
theorem bw_40 : (Jvm.Cond.fieldLinkNest "WellMoods" (87 : Nat) "WellMoods$Folk" "foes" "[I" "WellMoods") ∈ NWL := nmT (bt1 (List.mem_of_getElem? (i := 40) (by decide +kernel))) rfl
theorem bw_41 : (Jvm.Cond.fieldLink "WellMoods$Folk" (24 : Nat) "WellMoods$Folk" "count" "I") ∈ BIG := bmT (bt1 (List.mem_of_getElem? (i := 41) (by decide +kernel))) rfl
theorem bw_42 : (Jvm.Cond.fieldLinkNest "WellMoods" (62 : Nat) "WellMoods$Folk" "count" "I" "WellMoods") ∈ NWL := nmT (bt1 (List.mem_of_getElem? (i := 42) (by decide +kernel))) rfl
theorem bw_43 : (Jvm.Cond.fieldLinkNest "WellMoods$Search" (77 : Nat) "WellMoods$Folk" "count" "I" "WellMoods") ∈ NWL := nmT (bt1 (List.mem_of_getElem? (i := 43) (by decide +kernel))) rfl
theorem bw_44 : (Jvm.Cond.fieldLinkNest "WellMoods$Tape" (22 : Nat) "WellMoods$Folk" "count" "I" "WellMoods") ∈ NWL := nmT (bt1 (List.mem_of_getElem? (i := 44) (by decide +kernel))) rfl
theorem bw_45 : (Jvm.Cond.fieldLinkNest "WellMoods$Well" (106 : Nat) "WellMoods$Folk" "count" "I" "WellMoods") ∈ NWL := nmT (bt1 (List.mem_of_getElem? (i := 45) (by decide +kernel))) rfl
theorem bw_57 : (Jvm.Cond.arrayClass Jvm.ClassFile.FieldType.int) ∈ BIG := bmT (bt1 (List.mem_of_getElem? (i := 57) (by decide +kernel))) rfl
theorem bw_58 : (Jvm.Cond.fieldLink "WellMoods$Well" (12 : Nat) "WellMoods$Well" "folk" "LWellMoods$Folk;") ∈ BIG := bmT (bt1 (List.mem_of_getElem? (i := 58) (by decide +kernel))) rfl
theorem bw_59 : (Jvm.Cond.fieldLinkNest "WellMoods$Search" (44 : Nat) "WellMoods$Well" "folk" "LWellMoods$Folk;" "WellMoods") ∈ NWL := nmT (bt1 (List.mem_of_getElem? (i := 59) (by decide +kernel))) rfl
theorem bw_60 : (Jvm.Cond.fieldLinkNest "WellMoods" (59 : Nat) "WellMoods$Well" "folk" "LWellMoods$Folk;" "WellMoods") ∈ NWL := nmT (bt1 (List.mem_of_getElem? (i := 60) (by decide +kernel))) rfl
theorem bw_61 : (Jvm.Cond.fieldLink "WellMoods$Well" (18 : Nat) "WellMoods$Well" "waits" "[I") ∈ BIG := bmT (bt1 (List.mem_of_getElem? (i := 61) (by decide +kernel))) rfl
theorem bw_62 : (Jvm.Cond.fieldLinkNest "WellMoods$Search" (51 : Nat) "WellMoods$Well" "waits" "[I" "WellMoods") ∈ NWL := nmT (bt1 (List.mem_of_getElem? (i := 62) (by decide +kernel))) rfl
theorem bw_63 : (Jvm.Cond.fieldLinkNest "WellMoods" (84 : Nat) "WellMoods$Well" "waits" "[I" "WellMoods") ∈ NWL := nmT (bt1 (List.mem_of_getElem? (i := 63) (by decide +kernel))) rfl
theorem bw_64 : (Jvm.Cond.fieldLink "WellMoods$Well" (22 : Nat) "WellMoods$Well" "planned" "[I") ∈ BIG := bmT (bt1 (List.mem_of_getElem? (i := 64) (by decide +kernel))) rfl
theorem bw_65 : (Jvm.Cond.fieldLink "WellMoods$Well" (25 : Nat) "WellMoods$Well" "planHours" "I") ∈ BIG := bmT (bt1 (List.mem_of_getElem? (i := 65) (by decide +kernel))) rfl
theorem bw_66 : (Jvm.Cond.fieldLinkNest "WellMoods" (119 : Nat) "WellMoods$Well" "planHours" "I" "WellMoods") ∈ NWL := nmT (bt1 (List.mem_of_getElem? (i := 66) (by decide +kernel))) rfl
theorem bw_67 : (Jvm.Cond.fieldLink "WellMoods$Well" (29 : Nat) "WellMoods$Well" "mood" "I") ∈ BIG := bmT (bt1 (List.mem_of_getElem? (i := 67) (by decide +kernel))) rfl
theorem bw_68 : (Jvm.Cond.fieldLinkNest "WellMoods" (101 : Nat) "WellMoods$Well" "mood" "I" "WellMoods") ∈ NWL := nmT (bt1 (List.mem_of_getElem? (i := 68) (by decide +kernel))) rfl
theorem bw_69 : (Jvm.Cond.fieldLink "WellMoods$Well" (32 : Nat) "WellMoods$Well" "level" "I") ∈ BIG := bmT (bt1 (List.mem_of_getElem? (i := 69) (by decide +kernel))) rfl
theorem bw_70 : (Jvm.Cond.fieldLinkNest "WellMoods$Search" (60 : Nat) "WellMoods$Well" "level" "I" "WellMoods") ∈ NWL := nmT (bt1 (List.mem_of_getElem? (i := 70) (by decide +kernel))) rfl
theorem bw_71 : (Jvm.Cond.fieldLinkNest "WellMoods" (104 : Nat) "WellMoods$Well" "level" "I" "WellMoods") ∈ NWL := nmT (bt1 (List.mem_of_getElem? (i := 71) (by decide +kernel))) rfl
theorem bw_72 : (Jvm.Cond.fieldLink "WellMoods$Well" (35 : Nat) "WellMoods$Well" "rain" "I") ∈ BIG := bmT (bt1 (List.mem_of_getElem? (i := 72) (by decide +kernel))) rfl
theorem bw_73 : (Jvm.Cond.fieldLinkNest "WellMoods$Search" (61 : Nat) "WellMoods$Well" "rain" "I" "WellMoods") ∈ NWL := nmT (bt1 (List.mem_of_getElem? (i := 73) (by decide +kernel))) rfl
theorem bw_74 : (Jvm.Cond.fieldLinkNest "WellMoods" (107 : Nat) "WellMoods$Well" "rain" "I" "WellMoods") ∈ NWL := nmT (bt1 (List.mem_of_getElem? (i := 74) (by decide +kernel))) rfl
theorem bw_75 : (Jvm.Cond.fieldLink "WellMoods$Well" (38 : Nat) "WellMoods$Well" "sweet" "I") ∈ BIG := bmT (bt1 (List.mem_of_getElem? (i := 75) (by decide +kernel))) rfl
theorem bw_76 : (Jvm.Cond.fieldLinkNest "WellMoods" (110 : Nat) "WellMoods$Well" "sweet" "I" "WellMoods") ∈ NWL := nmT (bt1 (List.mem_of_getElem? (i := 76) (by decide +kernel))) rfl
theorem bw_77 : (Jvm.Cond.fieldLink "WellMoods$Well" (41 : Nat) "WellMoods$Well" "salt" "I") ∈ BIG := bmT (bt1 (List.mem_of_getElem? (i := 77) (by decide +kernel))) rfl
theorem bw_78 : (Jvm.Cond.fieldLinkNest "WellMoods" (113 : Nat) "WellMoods$Well" "salt" "I" "WellMoods") ∈ NWL := nmT (bt1 (List.mem_of_getElem? (i := 78) (by decide +kernel))) rfl
theorem bw_79 : (Jvm.Cond.fieldLink "WellMoods$Well" (44 : Nat) "WellMoods$Well" "hour" "I") ∈ BIG := bmT (bt1 (List.mem_of_getElem? (i := 79) (by decide +kernel))) rfl
theorem bw_80 : (Jvm.Cond.fieldLinkNest "WellMoods" (116 : Nat) "WellMoods$Well" "hour" "I" "WellMoods") ∈ NWL := nmT (bt1 (List.mem_of_getElem? (i := 80) (by decide +kernel))) rfl
theorem bw_81 : (Jvm.Cond.fieldLink "WellMoods$Well" (47 : Nat) "WellMoods$Well" "last" "I") ∈ BIG := bmT (bt1 (List.mem_of_getElem? (i := 81) (by decide +kernel))) rfl
theorem bw_82 : (Jvm.Cond.fieldLinkNest "WellMoods$Search" (62 : Nat) "WellMoods$Well" "last" "I" "WellMoods") ∈ NWL := nmT (bt1 (List.mem_of_getElem? (i := 82) (by decide +kernel))) rfl
theorem bw_83 : (Jvm.Cond.fieldLinkNest "WellMoods" (122 : Nat) "WellMoods$Well" "last" "I" "WellMoods") ∈ NWL := nmT (bt1 (List.mem_of_getElem? (i := 83) (by decide +kernel))) rfl
theorem bw_84 : (Jvm.Cond.fieldLink "WellMoods$Well" (50 : Nat) "WellMoods$Well" "lots" "I") ∈ BIG := bmT (bt1 (List.mem_of_getElem? (i := 84) (by decide +kernel))) rfl
theorem bw_85 : (Jvm.Cond.fieldLinkNest "WellMoods" (209 : Nat) "WellMoods$Well" "lots" "I" "WellMoods") ∈ NWL := nmT (bt1 (List.mem_of_getElem? (i := 85) (by decide +kernel))) rfl
theorem bw_111 : (Jvm.Cond.classLink "WellMoods" (23 : Nat) "WellMoods$Tape") ∈ BIG := bmT (bt1 (List.mem_of_getElem? (i := 111) (by decide +kernel))) rfl
theorem bw_112 : (Jvm.Cond.instantiable "WellMoods$Tape" (3 : Nat)) ∈ BIG := bmT (bt1 (List.mem_of_getElem? (i := 112) (by decide +kernel))) rfl
theorem bw_113 : (Jvm.Cond.methodLinkNest "WellMoods" (25 : Nat) ({ cls := "WellMoods$Tape", name := "<init>", desc := "()V" } : Jvm.MethodName) "WellMoods") ∈ NWL := nmT (bt1 (List.mem_of_getElem? (i := 113) (by decide +kernel))) rfl
theorem bw_114 : (Jvm.Cond.instanceMethod ({ cls := "WellMoods$Tape", name := "<init>", desc := "()V" } : Jvm.MethodName)) ∈ BIG := bmT (bt1 (List.mem_of_getElem? (i := 114) (by decide +kernel))) rfl
theorem bw_115 : (Jvm.Cond.code ({ cls := "WellMoods$Tape", name := "<init>", desc := "()V" } : Jvm.MethodName) prog_5_method_1_code (1 : Nat) (Option.none : Option Jvm.ClassFile.FieldType)) ∈ BIG := bmT (bt1 (List.mem_of_getElem? (i := 115) (by decide +kernel))) rfl
theorem bw_116 : (Jvm.Cond.methodLink "WellMoods$Tape" (3 : Nat) ({ cls := "java/lang/Object", name := "<init>", desc := "()V" } : Jvm.MethodName)) ∈ BIG := bmT (bt1 (List.mem_of_getElem? (i := 116) (by decide +kernel))) rfl
theorem bw_117 : (Jvm.Cond.fieldLink "WellMoods$Tape" (9 : Nat) "WellMoods$Tape" "bytes" "[B") ∈ BIG := bmT (bt1 (List.mem_of_getElem? (i := 117) (by decide +kernel))) rfl
theorem bw_118 : (Jvm.Cond.fieldLink "WellMoods$Tape" (15 : Nat) "WellMoods$Tape" "length" "I") ∈ BIG := bmT (bt1 (List.mem_of_getElem? (i := 118) (by decide +kernel))) rfl
theorem bw_119 : (Jvm.Cond.fieldLinkNest "WellMoods" (129 : Nat) "WellMoods$Tape" "length" "I" "WellMoods") ∈ NWL := nmT (bt1 (List.mem_of_getElem? (i := 119) (by decide +kernel))) rfl
theorem bw_120 : (Jvm.Cond.fieldLink "WellMoods$Tape" (19 : Nat) "WellMoods$Tape" "place" "I") ∈ BIG := bmT (bt1 (List.mem_of_getElem? (i := 120) (by decide +kernel))) rfl
theorem bw_128 : (Jvm.Cond.arrayClass Jvm.ClassFile.FieldType.byte) ∈ BIG := bmT (bt1 (List.mem_of_getElem? (i := 128) (by decide +kernel))) rfl
theorem bw_129 : (Jvm.Cond.classLink "WellMoods" (30 : Nat) "WellMoods$Folk") ∈ BIG := bmT (bt1 (List.mem_of_getElem? (i := 129) (by decide +kernel))) rfl
theorem bw_130 : (Jvm.Cond.methodLinkNest "WellMoods" (32 : Nat) ({ cls := "WellMoods$Folk", name := "<init>", desc := "()V" } : Jvm.MethodName) "WellMoods") ∈ NWL := nmT (bt1 (List.mem_of_getElem? (i := 130) (by decide +kernel))) rfl
theorem bw_131 : (Jvm.Cond.classLink "WellMoods" (41 : Nat) "WellMoods$Search") ∈ BIG := bmT (bt1 (List.mem_of_getElem? (i := 131) (by decide +kernel))) rfl
theorem bw_132 : (Jvm.Cond.instantiable "WellMoods$Search" (9 : Nat)) ∈ BIG := bmT (bt1 (List.mem_of_getElem? (i := 132) (by decide +kernel))) rfl
theorem bw_133 : (Jvm.Cond.methodLinkNest "WellMoods" (43 : Nat) ({ cls := "WellMoods$Search", name := "<init>", desc := "()V" } : Jvm.MethodName) "WellMoods") ∈ NWL := nmT (bt1 (List.mem_of_getElem? (i := 133) (by decide +kernel))) rfl
theorem bw_134 : (Jvm.Cond.instanceMethod ({ cls := "WellMoods$Search", name := "<init>", desc := "()V" } : Jvm.MethodName)) ∈ BIG := bmT (bt1 (List.mem_of_getElem? (i := 134) (by decide +kernel))) rfl
theorem bw_135 : (Jvm.Cond.code ({ cls := "WellMoods$Search", name := "<init>", desc := "()V" } : Jvm.MethodName) prog_3_method_1_code (1 : Nat) (Option.none : Option Jvm.ClassFile.FieldType)) ∈ BIG := bmT (bt1 (List.mem_of_getElem? (i := 135) (by decide +kernel))) rfl
theorem bw_136 : (Jvm.Cond.methodLink "WellMoods$Search" (3 : Nat) ({ cls := "java/lang/Object", name := "<init>", desc := "()V" } : Jvm.MethodName)) ∈ BIG := bmT (bt1 (List.mem_of_getElem? (i := 136) (by decide +kernel))) rfl
theorem bw_137 : (Jvm.Cond.classLink "WellMoods$Search" (9 : Nat) "WellMoods$Folk") ∈ BIG := bmT (bt1 (List.mem_of_getElem? (i := 137) (by decide +kernel))) rfl
theorem bw_138 : (Jvm.Cond.methodLinkNest "WellMoods$Search" (11 : Nat) ({ cls := "WellMoods$Folk", name := "<init>", desc := "()V" } : Jvm.MethodName) "WellMoods") ∈ NWL := nmT (bt1 (List.mem_of_getElem? (i := 138) (by decide +kernel))) rfl
theorem bw_139 : (Jvm.Cond.fieldLink "WellMoods$Search" (12 : Nat) "WellMoods$Search" "folk" "LWellMoods$Folk;") ∈ BIG := bmT (bt1 (List.mem_of_getElem? (i := 139) (by decide +kernel))) rfl
theorem bw_140 : (Jvm.Cond.fieldLinkNest "WellMoods" (276 : Nat) "WellMoods$Search" "folk" "LWellMoods$Folk;" "WellMoods") ∈ NWL := nmT (bt1 (List.mem_of_getElem? (i := 140) (by decide +kernel))) rfl
theorem bw_141 : (Jvm.Cond.fieldLink "WellMoods$Search" (18 : Nat) "WellMoods$Search" "freeFrom" "[I") ∈ BIG := bmT (bt1 (List.mem_of_getElem? (i := 141) (by decide +kernel))) rfl
theorem bw_142 : (Jvm.Cond.fieldLink "WellMoods$Search" (22 : Nat) "WellMoods$Search" "path" "[I") ∈ BIG := bmT (bt1 (List.mem_of_getElem? (i := 142) (by decide +kernel))) rfl
theorem bw_143 : (Jvm.Cond.fieldLink "WellMoods$Search" (25 : Nat) "WellMoods$Search" "row" "[I") ∈ BIG := bmT (bt1 (List.mem_of_getElem? (i := 143) (by decide +kernel))) rfl
theorem bw_144 : (Jvm.Cond.fieldLinkNest "WellMoods" (174 : Nat) "WellMoods$Search" "row" "[I" "WellMoods") ∈ NWL := nmT (bt1 (List.mem_of_getElem? (i := 144) (by decide +kernel))) rfl
theorem bw_145 : (Jvm.Cond.fieldLink "WellMoods$Search" (28 : Nat) "WellMoods$Search" "level" "I") ∈ BIG := bmT (bt1 (List.mem_of_getElem? (i := 145) (by decide +kernel))) rfl
theorem bw_146 : (Jvm.Cond.fieldLink "WellMoods$Search" (32 : Nat) "WellMoods$Search" "rain" "I") ∈ BIG := bmT (bt1 (List.mem_of_getElem? (i := 146) (by decide +kernel))) rfl
theorem bw_147 : (Jvm.Cond.fieldLink "WellMoods$Search" (35 : Nat) "WellMoods$Search" "last" "I") ∈ BIG := bmT (bt1 (List.mem_of_getElem? (i := 147) (by decide +kernel))) rfl
theorem bw_148 : (Jvm.Cond.fieldLink "WellMoods$Search" (38 : Nat) "WellMoods$Search" "hours" "I") ∈ BIG := bmT (bt1 (List.mem_of_getElem? (i := 148) (by decide +kernel))) rfl
theorem bw_149 : (Jvm.Cond.fieldLink "WellMoods$Search" (41 : Nat) "WellMoods$Search" "best" "I") ∈ BIG := bmT (bt1 (List.mem_of_getElem? (i := 149) (by decide +kernel))) rfl
theorem bw_169 : (Jvm.Cond.classLink "WellMoods" (48 : Nat) "WellMoods$Sheet") ∈ BIG := bmT (bt1 (List.mem_of_getElem? (i := 169) (by decide +kernel))) rfl
theorem bw_171 : (Jvm.Cond.instantiable "WellMoods$Sheet" (4 : Nat)) ∈ BIG := bmT (bt1 (List.mem_of_getElem? (i := 171) (by decide +kernel))) rfl
theorem bw_172 : (Jvm.Cond.methodLinkNest "WellMoods" (54 : Nat) ({ cls := "WellMoods$Sheet", name := "<init>", desc := "()V" } : Jvm.MethodName) "WellMoods") ∈ NWL := nmT (bt1 (List.mem_of_getElem? (i := 172) (by decide +kernel))) rfl
theorem bw_173 : (Jvm.Cond.instanceMethod ({ cls := "WellMoods$Sheet", name := "<init>", desc := "()V" } : Jvm.MethodName)) ∈ BIG := bmT (bt1 (List.mem_of_getElem? (i := 173) (by decide +kernel))) rfl
theorem bw_174 : (Jvm.Cond.code ({ cls := "WellMoods$Sheet", name := "<init>", desc := "()V" } : Jvm.MethodName) prog_4_method_1_code (1 : Nat) (Option.none : Option Jvm.ClassFile.FieldType)) ∈ BIG := bmT (bt1 (List.mem_of_getElem? (i := 174) (by decide +kernel))) rfl
theorem bw_175 : (Jvm.Cond.methodLink "WellMoods$Sheet" (3 : Nat) ({ cls := "java/lang/Object", name := "<init>", desc := "()V" } : Jvm.MethodName)) ∈ BIG := bmT (bt1 (List.mem_of_getElem? (i := 175) (by decide +kernel))) rfl
theorem bw_176 : (Jvm.Cond.fieldLink "WellMoods$Sheet" (9 : Nat) "WellMoods$Sheet" "items" "[J") ∈ BIG := bmT (bt1 (List.mem_of_getElem? (i := 176) (by decide +kernel))) rfl
theorem bw_177 : (Jvm.Cond.fieldLinkNest "WellMoods" (251 : Nat) "WellMoods$Sheet" "items" "[J" "WellMoods") ∈ NWL := nmT (bt1 (List.mem_of_getElem? (i := 177) (by decide +kernel))) rfl
theorem bw_178 : (Jvm.Cond.fieldLink "WellMoods$Sheet" (15 : Nat) "WellMoods$Sheet" "isThere" "Z") ∈ BIG := bmT (bt1 (List.mem_of_getElem? (i := 178) (by decide +kernel))) rfl
theorem bw_179 : (Jvm.Cond.fieldLinkNest "WellMoods" (241 : Nat) "WellMoods$Sheet" "isThere" "Z" "WellMoods") ∈ NWL := nmT (bt1 (List.mem_of_getElem? (i := 179) (by decide +kernel))) rfl
theorem bw_180 : (Jvm.Cond.fieldLink "WellMoods$Sheet" (19 : Nat) "WellMoods$Sheet" "lane" "I") ∈ BIG := bmT (bt1 (List.mem_of_getElem? (i := 180) (by decide +kernel))) rfl
theorem bw_181 : (Jvm.Cond.fieldLinkNest "WellMoods" (245 : Nat) "WellMoods$Sheet" "lane" "I" "WellMoods") ∈ NWL := nmT (bt1 (List.mem_of_getElem? (i := 181) (by decide +kernel))) rfl
theorem bw_182 : (Jvm.Cond.fieldLink "WellMoods$Sheet" (23 : Nat) "WellMoods$Sheet" "length" "I") ∈ BIG := bmT (bt1 (List.mem_of_getElem? (i := 182) (by decide +kernel))) rfl
theorem bw_183 : (Jvm.Cond.fieldLinkNest "WellMoods" (244 : Nat) "WellMoods$Sheet" "length" "I" "WellMoods") ∈ NWL := nmT (bt1 (List.mem_of_getElem? (i := 183) (by decide +kernel))) rfl
theorem bw_193 : (Jvm.Cond.arrayClass Jvm.ClassFile.FieldType.long) ∈ BIG := bmT (bt1 (List.mem_of_getElem? (i := 193) (by decide +kernel))) rfl
theorem bw_194 : (Jvm.Cond.fieldLink "WellMoods" (12 : Nat) "WellMoods" "well" "LWellMoods$Well;") ∈ BIG := bmT (bt1 (List.mem_of_getElem? (i := 194) (by decide +kernel))) rfl
theorem bw_195 : (Jvm.Cond.fieldLink "WellMoods" (16 : Nat) "WellMoods" "kept" "LWellMoods$Well;") ∈ BIG := bmT (bt1 (List.mem_of_getElem? (i := 195) (by decide +kernel))) rfl
theorem bw_196 : (Jvm.Cond.fieldLink "WellMoods" (19 : Nat) "WellMoods" "isKept" "Z") ∈ BIG := bmT (bt1 (List.mem_of_getElem? (i := 196) (by decide +kernel))) rfl
theorem bw_197 : (Jvm.Cond.fieldLink "WellMoods" (26 : Nat) "WellMoods" "tape" "LWellMoods$Tape;") ∈ BIG := bmT (bt1 (List.mem_of_getElem? (i := 197) (by decide +kernel))) rfl
theorem bw_198 : (Jvm.Cond.fieldLink "WellMoods" (33 : Nat) "WellMoods" "newcomers" "LWellMoods$Folk;") ∈ BIG := bmT (bt1 (List.mem_of_getElem? (i := 198) (by decide +kernel))) rfl
theorem bw_199 : (Jvm.Cond.fieldLink "WellMoods" (37 : Nat) "WellMoods" "newPlan" "[I") ∈ BIG := bmT (bt1 (List.mem_of_getElem? (i := 199) (by decide +kernel))) rfl
theorem bw_200 : (Jvm.Cond.fieldLink "WellMoods" (44 : Nat) "WellMoods" "search" "LWellMoods$Search;") ∈ BIG := bmT (bt1 (List.mem_of_getElem? (i := 200) (by decide +kernel))) rfl
theorem bw_201 : (Jvm.Cond.fieldLink "WellMoods" (50 : Nat) "WellMoods" "sheets" "[LWellMoods$Sheet;") ∈ BIG := bmT (bt1 (List.mem_of_getElem? (i := 201) (by decide +kernel))) rfl
theorem bw_219 : (Jvm.Cond.methodLink "WellMoodsLaw" (13 : Nat) ({ cls := "WellMoods", name := "folk", desc := "(III)I" } : Jvm.MethodName)) ∈ BIG := bmT (bt1 (List.mem_of_getElem? (i := 219) (by decide +kernel))) rfl
theorem bw_220 : (Jvm.Cond.instanceMethod ({ cls := "WellMoods", name := "folk", desc := "(III)I" } : Jvm.MethodName)) ∈ BIG := bmT (bt1 (List.mem_of_getElem? (i := 220) (by decide +kernel))) rfl
theorem bw_221 : (Jvm.Cond.selects "WellMoods" ({ cls := "WellMoods", name := "folk", desc := "(III)I" } : Jvm.MethodName) ({ cls := "WellMoods", name := "folk", desc := "(III)I" } : Jvm.MethodName)) ∈ BIG := bmT (bt1 (List.mem_of_getElem? (i := 221) (by decide +kernel))) rfl
theorem bw_222 : (Jvm.Cond.code ({ cls := "WellMoods", name := "folk", desc := "(III)I" } : Jvm.MethodName) prog_1_method_2_code (4 : Nat) (Option.some Jvm.ClassFile.FieldType.int)) ∈ BIG := bmT (bt1 (List.mem_of_getElem? (i := 222) (by decide +kernel))) rfl
theorem bw_223 : (Jvm.Cond.methodLink "WellMoods" (55 : Nat) ({ cls := "WellMoods", name := "within", desc := "(III)Z" } : Jvm.MethodName)) ∈ BIG := bmT (bt1 (List.mem_of_getElem? (i := 223) (by decide +kernel))) rfl
theorem bw_224 : (Jvm.Cond.static ({ cls := "WellMoods", name := "within", desc := "(III)Z" } : Jvm.MethodName)) ∈ BIG := bmT (bt1 (List.mem_of_getElem? (i := 224) (by decide +kernel))) rfl
theorem bw_225 : (Jvm.Cond.code ({ cls := "WellMoods", name := "within", desc := "(III)Z" } : Jvm.MethodName) prog_1_method_32_code (3 : Nat) (Option.some Jvm.ClassFile.FieldType.boolean)) ∈ BIG := bmT (bt1 (List.mem_of_getElem? (i := 225) (by decide +kernel))) rfl
theorem bw_226 : (Jvm.Cond.methodLinkNest "WellMoods" (66 : Nat) ({ cls := "WellMoods$Folk", name := "add", desc := "(III)I" } : Jvm.MethodName) "WellMoods") ∈ NWL := nmT (bt1 (List.mem_of_getElem? (i := 226) (by decide +kernel))) rfl
theorem bw_228 : (Jvm.Cond.instanceMethod ({ cls := "WellMoods$Folk", name := "add", desc := "(III)I" } : Jvm.MethodName)) ∈ BIG := bmT (bt1 (List.mem_of_getElem? (i := 228) (by decide +kernel))) rfl
theorem bw_229 : (Jvm.Cond.code ({ cls := "WellMoods$Folk", name := "add", desc := "(III)I" } : Jvm.MethodName) prog_2_method_3_code (5 : Nat) (Option.some Jvm.ClassFile.FieldType.int)) ∈ BIG := bmT (bt1 (List.mem_of_getElem? (i := 229) (by decide +kernel))) rfl
theorem bw_230 : (Jvm.Cond.methodLink "WellMoodsLaw" (18 : Nat) ({ cls := "WellMoods", name := "told", desc := "(II)I" } : Jvm.MethodName)) ∈ BIG := bmT (bt1 (List.mem_of_getElem? (i := 230) (by decide +kernel))) rfl
theorem bw_231 : (Jvm.Cond.instanceMethod ({ cls := "WellMoods", name := "told", desc := "(II)I" } : Jvm.MethodName)) ∈ BIG := bmT (bt1 (List.mem_of_getElem? (i := 231) (by decide +kernel))) rfl
theorem bw_232 : (Jvm.Cond.selects "WellMoods" ({ cls := "WellMoods", name := "told", desc := "(II)I" } : Jvm.MethodName) ({ cls := "WellMoods", name := "told", desc := "(II)I" } : Jvm.MethodName)) ∈ BIG := bmT (bt1 (List.mem_of_getElem? (i := 232) (by decide +kernel))) rfl
theorem bw_233 : (Jvm.Cond.code ({ cls := "WellMoods", name := "told", desc := "(II)I" } : Jvm.MethodName) prog_1_method_3_code (3 : Nat) (Option.some Jvm.ClassFile.FieldType.int)) ∈ BIG := bmT (bt1 (List.mem_of_getElem? (i := 233) (by decide +kernel))) rfl
theorem bw_234 : (Jvm.Cond.methodLinkNest "WellMoods" (70 : Nat) ({ cls := "WellMoods$Folk", name := "has", desc := "(I)Z" } : Jvm.MethodName) "WellMoods") ∈ NWL := nmT (bt1 (List.mem_of_getElem? (i := 234) (by decide +kernel))) rfl
theorem bw_236 : (Jvm.Cond.instanceMethod ({ cls := "WellMoods$Folk", name := "has", desc := "(I)Z" } : Jvm.MethodName)) ∈ BIG := bmT (bt1 (List.mem_of_getElem? (i := 236) (by decide +kernel))) rfl
theorem bw_237 : (Jvm.Cond.code ({ cls := "WellMoods$Folk", name := "has", desc := "(I)Z" } : Jvm.MethodName) prog_2_method_2_code (2 : Nat) (Option.some Jvm.ClassFile.FieldType.boolean)) ∈ BIG := bmT (bt1 (List.mem_of_getElem? (i := 237) (by decide +kernel))) rfl
theorem bw_238 : (Jvm.Cond.constant "WellMoods" (74 : Nat) (-100001 : Int32)) ∈ BIG := bmT (bt1 (List.mem_of_getElem? (i := 238) (by decide +kernel))) rfl
theorem bw_239 : (Jvm.Cond.methodLink "WellMoodsLaw" (23 : Nat) ({ cls := "WellMoods", name := "quarrel", desc := "(IIZ)I" } : Jvm.MethodName)) ∈ BIG := bmT (bt1 (List.mem_of_getElem? (i := 239) (by decide +kernel))) rfl
theorem bw_240 : (Jvm.Cond.instanceMethod ({ cls := "WellMoods", name := "quarrel", desc := "(IIZ)I" } : Jvm.MethodName)) ∈ BIG := bmT (bt2 (List.mem_of_getElem? (i := 0) (by decide +kernel))) rfl
theorem bw_241 : (Jvm.Cond.selects "WellMoods" ({ cls := "WellMoods", name := "quarrel", desc := "(IIZ)I" } : Jvm.MethodName) ({ cls := "WellMoods", name := "quarrel", desc := "(IIZ)I" } : Jvm.MethodName)) ∈ BIG := bmT (bt2 (List.mem_of_getElem? (i := 1) (by decide +kernel))) rfl
theorem bw_242 : (Jvm.Cond.code ({ cls := "WellMoods", name := "quarrel", desc := "(IIZ)I" } : Jvm.MethodName) prog_1_method_4_code (5 : Nat) (Option.some Jvm.ClassFile.FieldType.int)) ∈ BIG := bmT (bt2 (List.mem_of_getElem? (i := 2) (by decide +kernel))) rfl
theorem bw_243 : (Jvm.Cond.methodLinkNest "WellMoods" (90 : Nat) ({ cls := "WellMoods$Folk", name := "areFoes", desc := "(II)Z" } : Jvm.MethodName) "WellMoods") ∈ NWL := nmT (bt2 (List.mem_of_getElem? (i := 3) (by decide +kernel))) rfl
theorem bw_245 : (Jvm.Cond.instanceMethod ({ cls := "WellMoods$Folk", name := "areFoes", desc := "(II)Z" } : Jvm.MethodName)) ∈ BIG := bmT (bt2 (List.mem_of_getElem? (i := 5) (by decide +kernel))) rfl
theorem bw_246 : (Jvm.Cond.code ({ cls := "WellMoods$Folk", name := "areFoes", desc := "(II)Z" } : Jvm.MethodName) prog_2_method_5_code (3 : Nat) (Option.some Jvm.ClassFile.FieldType.boolean)) ∈ BIG := bmT (bt2 (List.mem_of_getElem? (i := 6) (by decide +kernel))) rfl
theorem bw_247 : (Jvm.Cond.methodLink "WellMoods$Folk" (28 : Nat) ({ cls := "WellMoods$Folk", name := "has", desc := "(I)Z" } : Jvm.MethodName)) ∈ BIG := bmT (bt2 (List.mem_of_getElem? (i := 7) (by decide +kernel))) rfl
theorem bw_248 : (Jvm.Cond.methodLinkNest "WellMoods" (94 : Nat) ({ cls := "WellMoods$Folk", name := "makeFoes", desc := "(IIZ)V" } : Jvm.MethodName) "WellMoods") ∈ NWL := nmT (bt2 (List.mem_of_getElem? (i := 8) (by decide +kernel))) rfl
theorem bw_250 : (Jvm.Cond.instanceMethod ({ cls := "WellMoods$Folk", name := "makeFoes", desc := "(IIZ)V" } : Jvm.MethodName)) ∈ BIG := bmT (bt2 (List.mem_of_getElem? (i := 10) (by decide +kernel))) rfl
theorem bw_251 : (Jvm.Cond.code ({ cls := "WellMoods$Folk", name := "makeFoes", desc := "(IIZ)V" } : Jvm.MethodName) prog_2_method_6_code (4 : Nat) (Option.none : Option Jvm.ClassFile.FieldType)) ∈ BIG := bmT (bt2 (List.mem_of_getElem? (i := 11) (by decide +kernel))) rfl
theorem bw_252 : (Jvm.Cond.methodLink "WellMoodsLaw" (28 : Nat) ({ cls := "WellMoods", name := "set", desc := "(II)I" } : Jvm.MethodName)) ∈ BIG := bmT (bt2 (List.mem_of_getElem? (i := 12) (by decide +kernel))) rfl
theorem bw_253 : (Jvm.Cond.instanceMethod ({ cls := "WellMoods", name := "set", desc := "(II)I" } : Jvm.MethodName)) ∈ BIG := bmT (bt2 (List.mem_of_getElem? (i := 13) (by decide +kernel))) rfl
theorem bw_254 : (Jvm.Cond.selects "WellMoods" ({ cls := "WellMoods", name := "set", desc := "(II)I" } : Jvm.MethodName) ({ cls := "WellMoods", name := "set", desc := "(II)I" } : Jvm.MethodName)) ∈ BIG := bmT (bt2 (List.mem_of_getElem? (i := 14) (by decide +kernel))) rfl
theorem bw_255 : (Jvm.Cond.code ({ cls := "WellMoods", name := "set", desc := "(II)I" } : Jvm.MethodName) prog_1_method_5_code (4 : Nat) (Option.some Jvm.ClassFile.FieldType.int)) ∈ BIG := bmT (bt2 (List.mem_of_getElem? (i := 15) (by decide +kernel))) rfl
theorem bw_256 : (Jvm.Cond.methodLink "WellMoods" (98 : Nat) ({ cls := "WellMoods", name := "isMood", desc := "(I)Z" } : Jvm.MethodName)) ∈ BIG := bmT (bt2 (List.mem_of_getElem? (i := 16) (by decide +kernel))) rfl
theorem bw_257 : (Jvm.Cond.static ({ cls := "WellMoods", name := "isMood", desc := "(I)Z" } : Jvm.MethodName)) ∈ BIG := bmT (bt2 (List.mem_of_getElem? (i := 17) (by decide +kernel))) rfl
theorem bw_258 : (Jvm.Cond.code ({ cls := "WellMoods", name := "isMood", desc := "(I)Z" } : Jvm.MethodName) prog_1_method_33_code (1 : Nat) (Option.some Jvm.ClassFile.FieldType.boolean)) ∈ BIG := bmT (bt2 (List.mem_of_getElem? (i := 18) (by decide +kernel))) rfl
theorem bw_259 : (Jvm.Cond.methodLink "WellMoodsLaw" (32 : Nat) ({ cls := "WellMoods", name := "is", desc := "(I)I" } : Jvm.MethodName)) ∈ BIG := bmT (bt2 (List.mem_of_getElem? (i := 19) (by decide +kernel))) rfl
theorem bw_260 : (Jvm.Cond.instanceMethod ({ cls := "WellMoods", name := "is", desc := "(I)I" } : Jvm.MethodName)) ∈ BIG := bmT (bt2 (List.mem_of_getElem? (i := 20) (by decide +kernel))) rfl
theorem bw_261 : (Jvm.Cond.selects "WellMoods" ({ cls := "WellMoods", name := "is", desc := "(I)I" } : Jvm.MethodName) ({ cls := "WellMoods", name := "is", desc := "(I)I" } : Jvm.MethodName)) ∈ BIG := bmT (bt2 (List.mem_of_getElem? (i := 21) (by decide +kernel))) rfl
theorem bw_262 : (Jvm.Cond.code ({ cls := "WellMoods", name := "is", desc := "(I)I" } : Jvm.MethodName) prog_1_method_6_code (2 : Nat) (Option.some Jvm.ClassFile.FieldType.int)) ∈ BIG := bmT (bt2 (List.mem_of_getElem? (i := 22) (by decide +kernel))) rfl
theorem bw_263 : (Jvm.Cond.methodLink "WellMoodsLaw" (39 : Nat) ({ cls := "WellMoods", name := "type", desc := "(JI)I" } : Jvm.MethodName)) ∈ BIG := bmT (bt2 (List.mem_of_getElem? (i := 23) (by decide +kernel))) rfl
theorem bw_264 : (Jvm.Cond.instanceMethod ({ cls := "WellMoods", name := "type", desc := "(JI)I" } : Jvm.MethodName)) ∈ BIG := bmT (bt2 (List.mem_of_getElem? (i := 24) (by decide +kernel))) rfl
theorem bw_265 : (Jvm.Cond.selects "WellMoods" ({ cls := "WellMoods", name := "type", desc := "(JI)I" } : Jvm.MethodName) ({ cls := "WellMoods", name := "type", desc := "(JI)I" } : Jvm.MethodName)) ∈ BIG := bmT (bt2 (List.mem_of_getElem? (i := 25) (by decide +kernel))) rfl
theorem bw_266 : (Jvm.Cond.code ({ cls := "WellMoods", name := "type", desc := "(JI)I" } : Jvm.MethodName) prog_1_method_7_code (5 : Nat) (Option.some Jvm.ClassFile.FieldType.int)) ∈ BIG := bmT (bt2 (List.mem_of_getElem? (i := 26) (by decide +kernel))) rfl
theorem bw_267 : (Jvm.Cond.methodLink "WellMoods" (125 : Nat) ({ cls := "WellMoods", name := "areSigns", desc := "(JI)Z" } : Jvm.MethodName)) ∈ BIG := bmT (bt2 (List.mem_of_getElem? (i := 27) (by decide +kernel))) rfl
theorem bw_268 : (Jvm.Cond.static ({ cls := "WellMoods", name := "areSigns", desc := "(JI)Z" } : Jvm.MethodName)) ∈ BIG := bmT (bt2 (List.mem_of_getElem? (i := 28) (by decide +kernel))) rfl
theorem bw_269 : (Jvm.Cond.code ({ cls := "WellMoods", name := "areSigns", desc := "(JI)Z" } : Jvm.MethodName) prog_1_method_41_code (4 : Nat) (Option.some Jvm.ClassFile.FieldType.boolean)) ∈ BIG := bmT (bt2 (List.mem_of_getElem? (i := 29) (by decide +kernel))) rfl
theorem bw_270 : (Jvm.Cond.methodLink "WellMoods" (132 : Nat) ({ cls := "WellMoods", name := "byteOf", desc := "(JI)I" } : Jvm.MethodName)) ∈ BIG := bmT (bt2 (List.mem_of_getElem? (i := 30) (by decide +kernel))) rfl
theorem bw_271 : (Jvm.Cond.static ({ cls := "WellMoods", name := "byteOf", desc := "(JI)I" } : Jvm.MethodName)) ∈ BIG := bmT (bt2 (List.mem_of_getElem? (i := 31) (by decide +kernel))) rfl
theorem bw_272 : (Jvm.Cond.code ({ cls := "WellMoods", name := "byteOf", desc := "(JI)I" } : Jvm.MethodName) prog_1_method_40_code (3 : Nat) (Option.some Jvm.ClassFile.FieldType.int)) ∈ BIG := bmT (bt2 (List.mem_of_getElem? (i := 32) (by decide +kernel))) rfl
theorem bw_273 : (Jvm.Cond.methodLinkNest "WellMoods" (136 : Nat) ({ cls := "WellMoods$Tape", name := "append", desc := "(I)V" } : Jvm.MethodName) "WellMoods") ∈ NWL := nmT (bt2 (List.mem_of_getElem? (i := 33) (by decide +kernel))) rfl
theorem bw_275 : (Jvm.Cond.instanceMethod ({ cls := "WellMoods$Tape", name := "append", desc := "(I)V" } : Jvm.MethodName)) ∈ BIG := bmT (bt2 (List.mem_of_getElem? (i := 35) (by decide +kernel))) rfl
theorem bw_276 : (Jvm.Cond.code ({ cls := "WellMoods$Tape", name := "append", desc := "(I)V" } : Jvm.MethodName) prog_5_method_2_code (2 : Nat) (Option.none : Option Jvm.ClassFile.FieldType)) ∈ BIG := bmT (bt2 (List.mem_of_getElem? (i := 36) (by decide +kernel))) rfl
theorem bw_277 : (Jvm.Cond.methodLink "WellMoodsLaw" (44 : Nat) ({ cls := "WellMoods", name := "village", desc := "()I" } : Jvm.MethodName)) ∈ BIG := bmT (bt2 (List.mem_of_getElem? (i := 37) (by decide +kernel))) rfl
theorem bw_278 : (Jvm.Cond.instanceMethod ({ cls := "WellMoods", name := "village", desc := "()I" } : Jvm.MethodName)) ∈ BIG := bmT (bt2 (List.mem_of_getElem? (i := 38) (by decide +kernel))) rfl
theorem bw_279 : (Jvm.Cond.selects "WellMoods" ({ cls := "WellMoods", name := "village", desc := "()I" } : Jvm.MethodName) ({ cls := "WellMoods", name := "village", desc := "()I" } : Jvm.MethodName)) ∈ BIG := bmT (bt2 (List.mem_of_getElem? (i := 39) (by decide +kernel))) rfl
theorem bw_280 : (Jvm.Cond.code ({ cls := "WellMoods", name := "village", desc := "()I" } : Jvm.MethodName) prog_1_method_8_code (2 : Nat) (Option.some Jvm.ClassFile.FieldType.int)) ∈ BIG := bmT (bt2 (List.mem_of_getElem? (i := 40) (by decide +kernel))) rfl
theorem bw_281 : (Jvm.Cond.methodLinkNest "WellMoods" (140 : Nat) ({ cls := "WellMoods$Tape", name := "readFolk", desc := "(LWellMoods$Folk;)I" } : Jvm.MethodName) "WellMoods") ∈ NWL := nmT (bt2 (List.mem_of_getElem? (i := 41) (by decide +kernel))) rfl
theorem bw_283 : (Jvm.Cond.instanceMethod ({ cls := "WellMoods$Tape", name := "readFolk", desc := "(LWellMoods$Folk;)I" } : Jvm.MethodName)) ∈ BIG := bmT (bt2 (List.mem_of_getElem? (i := 43) (by decide +kernel))) rfl
theorem bw_284 : (Jvm.Cond.code ({ cls := "WellMoods$Tape", name := "readFolk", desc := "(LWellMoods$Folk;)I" } : Jvm.MethodName) prog_5_method_5_code (4 : Nat) (Option.some Jvm.ClassFile.FieldType.int)) ∈ BIG := bmT (bt2 (List.mem_of_getElem? (i := 44) (by decide +kernel))) rfl
theorem bw_285 : (Jvm.Cond.methodLink "WellMoods$Tape" (27 : Nat) ({ cls := "WellMoods$Tape", name := "readOne", desc := "(LWellMoods$Folk;)Z" } : Jvm.MethodName)) ∈ BIG := bmT (bt2 (List.mem_of_getElem? (i := 45) (by decide +kernel))) rfl
theorem bw_287 : (Jvm.Cond.instanceMethod ({ cls := "WellMoods$Tape", name := "readOne", desc := "(LWellMoods$Folk;)Z" } : Jvm.MethodName)) ∈ BIG := bmT (bt2 (List.mem_of_getElem? (i := 47) (by decide +kernel))) rfl
theorem bw_288 : (Jvm.Cond.code ({ cls := "WellMoods$Tape", name := "readOne", desc := "(LWellMoods$Folk;)Z" } : Jvm.MethodName) prog_5_method_6_code (6 : Nat) (Option.some Jvm.ClassFile.FieldType.boolean)) ∈ BIG := bmT (bt2 (List.mem_of_getElem? (i := 48) (by decide +kernel))) rfl
theorem bw_289 : (Jvm.Cond.methodLink "WellMoods$Tape" (35 : Nat) ({ cls := "WellMoods$Tape", name := "next", desc := "()I" } : Jvm.MethodName)) ∈ BIG := bmT (bt2 (List.mem_of_getElem? (i := 49) (by decide +kernel))) rfl
theorem bw_291 : (Jvm.Cond.instanceMethod ({ cls := "WellMoods$Tape", name := "next", desc := "()I" } : Jvm.MethodName)) ∈ BIG := bmT (bt2 (List.mem_of_getElem? (i := 51) (by decide +kernel))) rfl
theorem bw_292 : (Jvm.Cond.code ({ cls := "WellMoods$Tape", name := "next", desc := "()I" } : Jvm.MethodName) prog_5_method_4_code (1 : Nat) (Option.some Jvm.ClassFile.FieldType.int)) ∈ BIG := bmT (bt2 (List.mem_of_getElem? (i := 52) (by decide +kernel))) rfl
theorem bw_293 : (Jvm.Cond.methodLink "WellMoods$Tape" (38 : Nat) ({ cls := "WellMoods$Tape", name := "kindBy", desc := "(I)I" } : Jvm.MethodName)) ∈ BIG := bmT (bt2 (List.mem_of_getElem? (i := 53) (by decide +kernel))) rfl
theorem bw_294 : (Jvm.Cond.static ({ cls := "WellMoods$Tape", name := "kindBy", desc := "(I)I" } : Jvm.MethodName)) ∈ BIG := bmT (bt2 (List.mem_of_getElem? (i := 54) (by decide +kernel))) rfl
theorem bw_295 : (Jvm.Cond.code ({ cls := "WellMoods$Tape", name := "kindBy", desc := "(I)I" } : Jvm.MethodName) prog_5_method_7_code (1 : Nat) (Option.some Jvm.ClassFile.FieldType.int)) ∈ BIG := bmT (bt2 (List.mem_of_getElem? (i := 55) (by decide +kernel))) rfl
theorem bw_296 : (Jvm.Cond.methodLink "WellMoods$Tape" (42 : Nat) ({ cls := "WellMoods$Tape", name := "readDigit", desc := "(II)I" } : Jvm.MethodName)) ∈ BIG := bmT (bt2 (List.mem_of_getElem? (i := 56) (by decide +kernel))) rfl
theorem bw_298 : (Jvm.Cond.instanceMethod ({ cls := "WellMoods$Tape", name := "readDigit", desc := "(II)I" } : Jvm.MethodName)) ∈ BIG := bmT (bt2 (List.mem_of_getElem? (i := 58) (by decide +kernel))) rfl
theorem bw_299 : (Jvm.Cond.code ({ cls := "WellMoods$Tape", name := "readDigit", desc := "(II)I" } : Jvm.MethodName) prog_5_method_8_code (4 : Nat) (Option.some Jvm.ClassFile.FieldType.int)) ∈ BIG := bmT (bt2 (List.mem_of_getElem? (i := 59) (by decide +kernel))) rfl
theorem bw_300 : (Jvm.Cond.methodLinkNest "WellMoods$Tape" (50 : Nat) ({ cls := "WellMoods", name := "within", desc := "(III)Z" } : Jvm.MethodName) "WellMoods") ∈ NWL := nmT (bt2 (List.mem_of_getElem? (i := 60) (by decide +kernel))) rfl
theorem bw_301 : (Jvm.Cond.methodLinkNest "WellMoods$Tape" (46 : Nat) ({ cls := "WellMoods$Folk", name := "add", desc := "(III)I" } : Jvm.MethodName) "WellMoods") ∈ NWL := nmT (bt2 (List.mem_of_getElem? (i := 61) (by decide +kernel))) rfl
theorem bw_302 : (Jvm.Cond.methodLink "WellMoods$Tape" (31 : Nat) ({ cls := "WellMoods$Tape", name := "fault", desc := "()I" } : Jvm.MethodName)) ∈ BIG := bmT (bt2 (List.mem_of_getElem? (i := 62) (by decide +kernel))) rfl
theorem bw_304 : (Jvm.Cond.instanceMethod ({ cls := "WellMoods$Tape", name := "fault", desc := "()I" } : Jvm.MethodName)) ∈ BIG := bmT (bt2 (List.mem_of_getElem? (i := 64) (by decide +kernel))) rfl
theorem bw_305 : (Jvm.Cond.code ({ cls := "WellMoods$Tape", name := "fault", desc := "()I" } : Jvm.MethodName) prog_5_method_3_code (1 : Nat) (Option.some Jvm.ClassFile.FieldType.int)) ∈ BIG := bmT (bt2 (List.mem_of_getElem? (i := 65) (by decide +kernel))) rfl
theorem bw_306 : (Jvm.Cond.methodLinkNest "WellMoods" (144 : Nat) ({ cls := "WellMoods$Well", name := "settle", desc := "(LWellMoods$Folk;)V" } : Jvm.MethodName) "WellMoods") ∈ NWL := nmT (bt2 (List.mem_of_getElem? (i := 66) (by decide +kernel))) rfl
theorem bw_308 : (Jvm.Cond.instanceMethod ({ cls := "WellMoods$Well", name := "settle", desc := "(LWellMoods$Folk;)V" } : Jvm.MethodName)) ∈ BIG := bmT (bt2 (List.mem_of_getElem? (i := 68) (by decide +kernel))) rfl
theorem bw_309 : (Jvm.Cond.code ({ cls := "WellMoods$Well", name := "settle", desc := "(LWellMoods$Folk;)V" } : Jvm.MethodName) prog_6_method_3_code (3 : Nat) (Option.none : Option Jvm.ClassFile.FieldType)) ∈ BIG := bmT (bt2 (List.mem_of_getElem? (i := 69) (by decide +kernel))) rfl
theorem bw_310 : (Jvm.Cond.methodLinkNest "WellMoods$Well" (53 : Nat) ({ cls := "WellMoods$Folk", name := "become", desc := "(LWellMoods$Folk;)V" } : Jvm.MethodName) "WellMoods") ∈ NWL := nmT (bt2 (List.mem_of_getElem? (i := 70) (by decide +kernel))) rfl
theorem bw_312 : (Jvm.Cond.instanceMethod ({ cls := "WellMoods$Folk", name := "become", desc := "(LWellMoods$Folk;)V" } : Jvm.MethodName)) ∈ BIG := bmT (bt2 (List.mem_of_getElem? (i := 72) (by decide +kernel))) rfl
theorem bw_313 : (Jvm.Cond.code ({ cls := "WellMoods$Folk", name := "become", desc := "(LWellMoods$Folk;)V" } : Jvm.MethodName) prog_2_method_4_code (3 : Nat) (Option.none : Option Jvm.ClassFile.FieldType)) ∈ BIG := bmT (bt2 (List.mem_of_getElem? (i := 73) (by decide +kernel))) rfl
theorem bw_314 : (Jvm.Cond.methodLink "WellMoodsLaw" (49 : Nat) ({ cls := "WellMoods", name := "plan", desc := "()I" } : Jvm.MethodName)) ∈ BIG := bmT (bt2 (List.mem_of_getElem? (i := 74) (by decide +kernel))) rfl
theorem bw_315 : (Jvm.Cond.instanceMethod ({ cls := "WellMoods", name := "plan", desc := "()I" } : Jvm.MethodName)) ∈ BIG := bmT (bt2 (List.mem_of_getElem? (i := 75) (by decide +kernel))) rfl
theorem bw_316 : (Jvm.Cond.selects "WellMoods" ({ cls := "WellMoods", name := "plan", desc := "()I" } : Jvm.MethodName) ({ cls := "WellMoods", name := "plan", desc := "()I" } : Jvm.MethodName)) ∈ BIG := bmT (bt2 (List.mem_of_getElem? (i := 76) (by decide +kernel))) rfl
theorem bw_317 : (Jvm.Cond.code ({ cls := "WellMoods", name := "plan", desc := "()I" } : Jvm.MethodName) prog_1_method_9_code (2 : Nat) (Option.some Jvm.ClassFile.FieldType.int)) ∈ BIG := bmT (bt2 (List.mem_of_getElem? (i := 77) (by decide +kernel))) rfl
theorem bw_318 : (Jvm.Cond.methodLinkNest "WellMoods" (148 : Nat) ({ cls := "WellMoods$Tape", name := "readPlan", desc := "([ILWellMoods$Folk;)I" } : Jvm.MethodName) "WellMoods") ∈ NWL := nmT (bt2 (List.mem_of_getElem? (i := 78) (by decide +kernel))) rfl
theorem bw_320 : (Jvm.Cond.instanceMethod ({ cls := "WellMoods$Tape", name := "readPlan", desc := "([ILWellMoods$Folk;)I" } : Jvm.MethodName)) ∈ BIG := bmT (bt2 (List.mem_of_getElem? (i := 80) (by decide +kernel))) rfl
theorem bw_321 : (Jvm.Cond.code ({ cls := "WellMoods$Tape", name := "readPlan", desc := "([ILWellMoods$Folk;)I" } : Jvm.MethodName) prog_5_method_9_code (6 : Nat) (Option.some Jvm.ClassFile.FieldType.int)) ∈ BIG := bmT (bt2 (List.mem_of_getElem? (i := 81) (by decide +kernel))) rfl
theorem bw_322 : (Jvm.Cond.methodLinkNest "WellMoods$Tape" (54 : Nat) ({ cls := "WellMoods$Folk", name := "has", desc := "(I)Z" } : Jvm.MethodName) "WellMoods") ∈ NWL := nmT (bt2 (List.mem_of_getElem? (i := 82) (by decide +kernel))) rfl
theorem bw_323 : (Jvm.Cond.methodLinkNest "WellMoods" (152 : Nat) ({ cls := "WellMoods$Well", name := "adopt", desc := "([II)V" } : Jvm.MethodName) "WellMoods") ∈ NWL := nmT (bt2 (List.mem_of_getElem? (i := 83) (by decide +kernel))) rfl
theorem bw_325 : (Jvm.Cond.instanceMethod ({ cls := "WellMoods$Well", name := "adopt", desc := "([II)V" } : Jvm.MethodName)) ∈ BIG := bmT (bt2 (List.mem_of_getElem? (i := 85) (by decide +kernel))) rfl
theorem bw_326 : (Jvm.Cond.code ({ cls := "WellMoods$Well", name := "adopt", desc := "([II)V" } : Jvm.MethodName) prog_6_method_4_code (3 : Nat) (Option.none : Option Jvm.ClassFile.FieldType)) ∈ BIG := bmT (bt2 (List.mem_of_getElem? (i := 86) (by decide +kernel))) rfl
theorem bw_327 : (Jvm.Cond.methodLink "WellMoods$Well" (63 : Nat) ({ cls := "java/lang/Math", name := "min", desc := "(II)I" } : Jvm.MethodName)) ∈ BIG := bmT (bt2 (List.mem_of_getElem? (i := 87) (by decide +kernel))) rfl
theorem bw_328 : (Jvm.Cond.static ({ cls := "java/lang/Math", name := "min", desc := "(II)I" } : Jvm.MethodName)) ∈ BIG := bmT (bt2 (List.mem_of_getElem? (i := 88) (by decide +kernel))) rfl
theorem bw_329 : (Jvm.Cond.code ({ cls := "java/lang/Math", name := "min", desc := "(II)I" } : Jvm.MethodName) prog_10_method_69_code (2 : Nat) (Option.some Jvm.ClassFile.FieldType.int)) ∈ BIG := bmT (bt2 (List.mem_of_getElem? (i := 89) (by decide +kernel))) rfl
theorem bw_330 : (Jvm.Cond.methodLink "WellMoods$Well" (57 : Nat) ({ cls := "java/lang/System", name := "arraycopy", desc := "(Ljava/lang/Object;ILjava/lang/Object;II)V" } : Jvm.MethodName)) ∈ BIG := bmT (bt2 (List.mem_of_getElem? (i := 90) (by decide +kernel))) rfl
theorem bw_331 : (Jvm.Cond.static ({ cls := "java/lang/System", name := "arraycopy", desc := "(Ljava/lang/Object;ILjava/lang/Object;II)V" } : Jvm.MethodName)) ∈ BIG := bmT (bt2 (List.mem_of_getElem? (i := 91) (by decide +kernel))) rfl
theorem bw_332 : (Jvm.Cond.native ({ cls := "java/lang/System", name := "arraycopy", desc := "(Ljava/lang/Object;ILjava/lang/Object;II)V" } : Jvm.MethodName)) ∈ BIG := bmT (bt2 (List.mem_of_getElem? (i := 92) (by decide +kernel))) rfl
theorem bw_333 : (Jvm.Cond.methodLink "WellMoodsLaw" (53 : Nat) ({ cls := "WellMoods", name := "may", desc := "()I" } : Jvm.MethodName)) ∈ BIG := bmT (bt2 (List.mem_of_getElem? (i := 93) (by decide +kernel))) rfl
theorem bw_334 : (Jvm.Cond.instanceMethod ({ cls := "WellMoods", name := "may", desc := "()I" } : Jvm.MethodName)) ∈ BIG := bmT (bt2 (List.mem_of_getElem? (i := 94) (by decide +kernel))) rfl
theorem bw_335 : (Jvm.Cond.selects "WellMoods" ({ cls := "WellMoods", name := "may", desc := "()I" } : Jvm.MethodName) ({ cls := "WellMoods", name := "may", desc := "()I" } : Jvm.MethodName)) ∈ BIG := bmT (bt2 (List.mem_of_getElem? (i := 95) (by decide +kernel))) rfl
theorem bw_336 : (Jvm.Cond.code ({ cls := "WellMoods", name := "may", desc := "()I" } : Jvm.MethodName) prog_1_method_10_code (3 : Nat) (Option.some Jvm.ClassFile.FieldType.int)) ∈ BIG := bmT (bt2 (List.mem_of_getElem? (i := 96) (by decide +kernel))) rfl
theorem bw_337 : (Jvm.Cond.methodLinkNest "WellMoods" (156 : Nat) ({ cls := "WellMoods$Well", name := "mayDraw", desc := "(I)Z" } : Jvm.MethodName) "WellMoods") ∈ NWL := nmT (bt2 (List.mem_of_getElem? (i := 97) (by decide +kernel))) rfl
theorem bw_339 : (Jvm.Cond.instanceMethod ({ cls := "WellMoods$Well", name := "mayDraw", desc := "(I)Z" } : Jvm.MethodName)) ∈ BIG := bmT (bt2 (List.mem_of_getElem? (i := 99) (by decide +kernel))) rfl
theorem bw_340 : (Jvm.Cond.code ({ cls := "WellMoods$Well", name := "mayDraw", desc := "(I)Z" } : Jvm.MethodName) prog_6_method_5_code (2 : Nat) (Option.some Jvm.ClassFile.FieldType.boolean)) ∈ BIG := bmT (bt2 (List.mem_of_getElem? (i := 100) (by decide +kernel))) rfl
theorem bw_341 : (Jvm.Cond.methodLinkNest "WellMoods$Well" (69 : Nat) ({ cls := "WellMoods$Folk", name := "has", desc := "(I)Z" } : Jvm.MethodName) "WellMoods") ∈ NWL := nmT (bt2 (List.mem_of_getElem? (i := 101) (by decide +kernel))) rfl
theorem bw_342 : (Jvm.Cond.methodLink "WellMoodsLaw" (57 : Nat) ({ cls := "WellMoods", name := "draw", desc := "(I)I" } : Jvm.MethodName)) ∈ BIG := bmT (bt2 (List.mem_of_getElem? (i := 102) (by decide +kernel))) rfl
theorem bw_343 : (Jvm.Cond.instanceMethod ({ cls := "WellMoods", name := "draw", desc := "(I)I" } : Jvm.MethodName)) ∈ BIG := bmT (bt2 (List.mem_of_getElem? (i := 103) (by decide +kernel))) rfl
theorem bw_344 : (Jvm.Cond.selects "WellMoods" ({ cls := "WellMoods", name := "draw", desc := "(I)I" } : Jvm.MethodName) ({ cls := "WellMoods", name := "draw", desc := "(I)I" } : Jvm.MethodName)) ∈ BIG := bmT (bt2 (List.mem_of_getElem? (i := 104) (by decide +kernel))) rfl
theorem bw_345 : (Jvm.Cond.code ({ cls := "WellMoods", name := "draw", desc := "(I)I" } : Jvm.MethodName) prog_1_method_11_code (2 : Nat) (Option.some Jvm.ClassFile.FieldType.int)) ∈ BIG := bmT (bt2 (List.mem_of_getElem? (i := 105) (by decide +kernel))) rfl
theorem bw_346 : (Jvm.Cond.methodLinkNest "WellMoods" (159 : Nat) ({ cls := "WellMoods$Well", name := "hasHours", desc := "(I)Z" } : Jvm.MethodName) "WellMoods") ∈ NWL := nmT (bt2 (List.mem_of_getElem? (i := 106) (by decide +kernel))) rfl
theorem bw_348 : (Jvm.Cond.instanceMethod ({ cls := "WellMoods$Well", name := "hasHours", desc := "(I)Z" } : Jvm.MethodName)) ∈ BIG := bmT (bt2 (List.mem_of_getElem? (i := 108) (by decide +kernel))) rfl
theorem bw_349 : (Jvm.Cond.code ({ cls := "WellMoods$Well", name := "hasHours", desc := "(I)Z" } : Jvm.MethodName) prog_6_method_6_code (2 : Nat) (Option.some Jvm.ClassFile.FieldType.boolean)) ∈ BIG := bmT (bt2 (List.mem_of_getElem? (i := 109) (by decide +kernel))) rfl
theorem bw_350 : (Jvm.Cond.methodLinkNest "WellMoods" (162 : Nat) ({ cls := "WellMoods$Well", name := "passHour", desc := "(I)I" } : Jvm.MethodName) "WellMoods") ∈ NWL := nmT (bt2 (List.mem_of_getElem? (i := 110) (by decide +kernel))) rfl
theorem bw_352 : (Jvm.Cond.instanceMethod ({ cls := "WellMoods$Well", name := "passHour", desc := "(I)I" } : Jvm.MethodName)) ∈ BIG := bmT (bt2 (List.mem_of_getElem? (i := 112) (by decide +kernel))) rfl
theorem bw_353 : (Jvm.Cond.code ({ cls := "WellMoods$Well", name := "passHour", desc := "(I)I" } : Jvm.MethodName) prog_6_method_8_code (3 : Nat) (Option.some Jvm.ClassFile.FieldType.int)) ∈ BIG := bmT (bt2 (List.mem_of_getElem? (i := 113) (by decide +kernel))) rfl
theorem bw_354 : (Jvm.Cond.methodLink "WellMoods$Well" (80 : Nat) ({ cls := "WellMoods$Well", name := "mayDraw", desc := "(I)Z" } : Jvm.MethodName)) ∈ BIG := bmT (bt2 (List.mem_of_getElem? (i := 114) (by decide +kernel))) rfl
theorem bw_355 : (Jvm.Cond.methodLink "WellMoods$Well" (83 : Nat) ({ cls := "WellMoods$Well", name := "drawBy", desc := "(I)I" } : Jvm.MethodName)) ∈ BIG := bmT (bt2 (List.mem_of_getElem? (i := 115) (by decide +kernel))) rfl
theorem bw_357 : (Jvm.Cond.instanceMethod ({ cls := "WellMoods$Well", name := "drawBy", desc := "(I)I" } : Jvm.MethodName)) ∈ BIG := bmT (bt2 (List.mem_of_getElem? (i := 117) (by decide +kernel))) rfl
theorem bw_358 : (Jvm.Cond.code ({ cls := "WellMoods$Well", name := "drawBy", desc := "(I)I" } : Jvm.MethodName) prog_6_method_9_code (3 : Nat) (Option.some Jvm.ClassFile.FieldType.int)) ∈ BIG := bmT (bt2 (List.mem_of_getElem? (i := 118) (by decide +kernel))) rfl
theorem bw_359 : (Jvm.Cond.methodLinkNest "WellMoods$Well" (90 : Nat) ({ cls := "WellMoods$Folk", name := "pailsBehind", desc := "(IIII)I" } : Jvm.MethodName) "WellMoods") ∈ NWL := nmT (bt2 (List.mem_of_getElem? (i := 119) (by decide +kernel))) rfl
theorem bw_361 : (Jvm.Cond.instanceMethod ({ cls := "WellMoods$Folk", name := "pailsBehind", desc := "(IIII)I" } : Jvm.MethodName)) ∈ BIG := bmT (bt2 (List.mem_of_getElem? (i := 121) (by decide +kernel))) rfl
theorem bw_362 : (Jvm.Cond.code ({ cls := "WellMoods$Folk", name := "pailsBehind", desc := "(IIII)I" } : Jvm.MethodName) prog_2_method_8_code (5 : Nat) (Option.some Jvm.ClassFile.FieldType.int)) ∈ BIG := bmT (bt2 (List.mem_of_getElem? (i := 122) (by decide +kernel))) rfl
theorem bw_363 : (Jvm.Cond.methodLink "WellMoods$Folk" (41 : Nat) ({ cls := "WellMoods$Folk", name := "areFoes", desc := "(II)Z" } : Jvm.MethodName)) ∈ BIG := bmT (bt2 (List.mem_of_getElem? (i := 123) (by decide +kernel))) rfl
theorem bw_364 : (Jvm.Cond.methodLink "WellMoods$Folk" (45 : Nat) ({ cls := "WellMoods$Folk", name := "pailsAt", desc := "(II)I" } : Jvm.MethodName)) ∈ BIG := bmT (bt2 (List.mem_of_getElem? (i := 124) (by decide +kernel))) rfl
theorem bw_366 : (Jvm.Cond.instanceMethod ({ cls := "WellMoods$Folk", name := "pailsAt", desc := "(II)I" } : Jvm.MethodName)) ∈ BIG := bmT (bt2 (List.mem_of_getElem? (i := 126) (by decide +kernel))) rfl
theorem bw_367 : (Jvm.Cond.code ({ cls := "WellMoods$Folk", name := "pailsAt", desc := "(II)I" } : Jvm.MethodName) prog_2_method_7_code (4 : Nat) (Option.some Jvm.ClassFile.FieldType.int)) ∈ BIG := bmT (bt2 (List.mem_of_getElem? (i := 127) (by decide +kernel))) rfl
theorem bw_368 : (Jvm.Cond.methodLink "WellMoods$Folk" (32 : Nat) ({ cls := "java/lang/Math", name := "min", desc := "(II)I" } : Jvm.MethodName)) ∈ BIG := bmT (bt2 (List.mem_of_getElem? (i := 128) (by decide +kernel))) rfl
theorem bw_369 : (Jvm.Cond.methodLink "WellMoods$Folk" (38 : Nat) ({ cls := "java/lang/Math", name := "max", desc := "(II)I" } : Jvm.MethodName)) ∈ BIG := bmT (bt2 (List.mem_of_getElem? (i := 129) (by decide +kernel))) rfl
theorem bw_370 : (Jvm.Cond.static ({ cls := "java/lang/Math", name := "max", desc := "(II)I" } : Jvm.MethodName)) ∈ BIG := bmT (bt2 (List.mem_of_getElem? (i := 130) (by decide +kernel))) rfl
theorem bw_371 : (Jvm.Cond.code ({ cls := "java/lang/Math", name := "max", desc := "(II)I" } : Jvm.MethodName) prog_10_method_65_code (2 : Nat) (Option.some Jvm.ClassFile.FieldType.int)) ∈ BIG := bmT (bt2 (List.mem_of_getElem? (i := 131) (by decide +kernel))) rfl
theorem bw_372 : (Jvm.Cond.methodLinkNest "WellMoods$Well" (76 : Nat) ({ cls := "WellMoods$Folk", name := "isSweet", desc := "(II)Z" } : Jvm.MethodName) "WellMoods") ∈ NWL := nmT (bt2 (List.mem_of_getElem? (i := 132) (by decide +kernel))) rfl
theorem bw_374 : (Jvm.Cond.instanceMethod ({ cls := "WellMoods$Folk", name := "isSweet", desc := "(II)Z" } : Jvm.MethodName)) ∈ BIG := bmT (bt2 (List.mem_of_getElem? (i := 134) (by decide +kernel))) rfl
theorem bw_375 : (Jvm.Cond.code ({ cls := "WellMoods$Folk", name := "isSweet", desc := "(II)Z" } : Jvm.MethodName) prog_2_method_9_code (3 : Nat) (Option.some Jvm.ClassFile.FieldType.boolean)) ∈ BIG := bmT (bt2 (List.mem_of_getElem? (i := 135) (by decide +kernel))) rfl
theorem bw_376 : (Jvm.Cond.methodLinkNest "WellMoods$Well" (94 : Nat) ({ cls := "WellMoods$Folk", name := "moodBehind", desc := "(II)I" } : Jvm.MethodName) "WellMoods") ∈ NWL := nmT (bt2 (List.mem_of_getElem? (i := 136) (by decide +kernel))) rfl
theorem bw_378 : (Jvm.Cond.instanceMethod ({ cls := "WellMoods$Folk", name := "moodBehind", desc := "(II)I" } : Jvm.MethodName)) ∈ BIG := bmT (bt2 (List.mem_of_getElem? (i := 138) (by decide +kernel))) rfl
theorem bw_379 : (Jvm.Cond.code ({ cls := "WellMoods$Folk", name := "moodBehind", desc := "(II)I" } : Jvm.MethodName) prog_2_method_10_code (3 : Nat) (Option.some Jvm.ClassFile.FieldType.int)) ∈ BIG := bmT (bt2 (List.mem_of_getElem? (i := 139) (by decide +kernel))) rfl
theorem bw_380 : (Jvm.Cond.methodLinkNest "WellMoods$Folk" (48 : Nat) ({ cls := "WellMoods", name := "asMood", desc := "(I)I" } : Jvm.MethodName) "WellMoods") ∈ NWL := nmT (bt2 (List.mem_of_getElem? (i := 140) (by decide +kernel))) rfl
theorem bw_381 : (Jvm.Cond.static ({ cls := "WellMoods", name := "asMood", desc := "(I)I" } : Jvm.MethodName)) ∈ BIG := bmT (bt2 (List.mem_of_getElem? (i := 141) (by decide +kernel))) rfl
theorem bw_382 : (Jvm.Cond.code ({ cls := "WellMoods", name := "asMood", desc := "(I)I" } : Jvm.MethodName) prog_1_method_37_code (1 : Nat) (Option.some Jvm.ClassFile.FieldType.int)) ∈ BIG := bmT (bt2 (List.mem_of_getElem? (i := 142) (by decide +kernel))) rfl
theorem bw_383 : (Jvm.Cond.methodLink "WellMoods" (263 : Nat) ({ cls := "java/lang/Math", name := "min", desc := "(II)I" } : Jvm.MethodName)) ∈ BIG := bmT (bt2 (List.mem_of_getElem? (i := 143) (by decide +kernel))) rfl
theorem bw_384 : (Jvm.Cond.methodLink "WellMoods" (268 : Nat) ({ cls := "java/lang/Math", name := "max", desc := "(II)I" } : Jvm.MethodName)) ∈ BIG := bmT (bt2 (List.mem_of_getElem? (i := 144) (by decide +kernel))) rfl
theorem bw_385 : (Jvm.Cond.methodLink "WellMoods$Well" (87 : Nat) ({ cls := "WellMoods$Well", name := "endHour", desc := "()V" } : Jvm.MethodName)) ∈ BIG := bmT (bt2 (List.mem_of_getElem? (i := 145) (by decide +kernel))) rfl
theorem bw_387 : (Jvm.Cond.instanceMethod ({ cls := "WellMoods$Well", name := "endHour", desc := "()V" } : Jvm.MethodName)) ∈ BIG := bmT (bt2 (List.mem_of_getElem? (i := 147) (by decide +kernel))) rfl
theorem bw_388 : (Jvm.Cond.code ({ cls := "WellMoods$Well", name := "endHour", desc := "()V" } : Jvm.MethodName) prog_6_method_10_code (2 : Nat) (Option.none : Option Jvm.ClassFile.FieldType)) ∈ BIG := bmT (bt2 (List.mem_of_getElem? (i := 148) (by decide +kernel))) rfl
theorem bw_389 : (Jvm.Cond.methodLinkNest "WellMoods$Well" (100 : Nat) ({ cls := "WellMoods", name := "waned", desc := "(I)I" } : Jvm.MethodName) "WellMoods") ∈ NWL := nmT (bt2 (List.mem_of_getElem? (i := 149) (by decide +kernel))) rfl
theorem bw_390 : (Jvm.Cond.static ({ cls := "WellMoods", name := "waned", desc := "(I)I" } : Jvm.MethodName)) ∈ BIG := bmT (bt2 (List.mem_of_getElem? (i := 150) (by decide +kernel))) rfl
theorem bw_391 : (Jvm.Cond.code ({ cls := "WellMoods", name := "waned", desc := "(I)I" } : Jvm.MethodName) prog_1_method_38_code (1 : Nat) (Option.some Jvm.ClassFile.FieldType.int)) ∈ BIG := bmT (bt2 (List.mem_of_getElem? (i := 151) (by decide +kernel))) rfl
theorem bw_392 : (Jvm.Cond.methodLink "WellMoods" (271 : Nat) ({ cls := "java/lang/Integer", name := "compare", desc := "(II)I" } : Jvm.MethodName)) ∈ BIG := bmT (bt2 (List.mem_of_getElem? (i := 152) (by decide +kernel))) rfl
theorem bw_393 : (Jvm.Cond.static ({ cls := "java/lang/Integer", name := "compare", desc := "(II)I" } : Jvm.MethodName)) ∈ BIG := bmT (bt2 (List.mem_of_getElem? (i := 153) (by decide +kernel))) rfl
theorem bw_394 : (Jvm.Cond.code ({ cls := "java/lang/Integer", name := "compare", desc := "(II)I" } : Jvm.MethodName) prog_9_method_40_code (2 : Nat) (Option.some Jvm.ClassFile.FieldType.int)) ∈ BIG := bmT (bt2 (List.mem_of_getElem? (i := 154) (by decide +kernel))) rfl
theorem bw_395 : (Jvm.Cond.methodLinkNest "WellMoods$Well" (103 : Nat) ({ cls := "WellMoods", name := "rained", desc := "(II)I" } : Jvm.MethodName) "WellMoods") ∈ NWL := nmT (bt2 (List.mem_of_getElem? (i := 155) (by decide +kernel))) rfl
theorem bw_396 : (Jvm.Cond.static ({ cls := "WellMoods", name := "rained", desc := "(II)I" } : Jvm.MethodName)) ∈ BIG := bmT (bt2 (List.mem_of_getElem? (i := 156) (by decide +kernel))) rfl
theorem bw_397 : (Jvm.Cond.code ({ cls := "WellMoods", name := "rained", desc := "(II)I" } : Jvm.MethodName) prog_1_method_39_code (2 : Nat) (Option.some Jvm.ClassFile.FieldType.int)) ∈ BIG := bmT (bt2 (List.mem_of_getElem? (i := 157) (by decide +kernel))) rfl
theorem bw_398 : (Jvm.Cond.methodLink "WellMoods$Well" (109 : Nat) ({ cls := "java/lang/Math", name := "max", desc := "(II)I" } : Jvm.MethodName)) ∈ BIG := bmT (bt2 (List.mem_of_getElem? (i := 158) (by decide +kernel))) rfl
theorem bw_399 : (Jvm.Cond.methodLink "WellMoodsLaw" (61 : Nat) ({ cls := "WellMoods", name := "pass", desc := "(I)I" } : Jvm.MethodName)) ∈ BIG := bmT (bt2 (List.mem_of_getElem? (i := 159) (by decide +kernel))) rfl
theorem bw_400 : (Jvm.Cond.instanceMethod ({ cls := "WellMoods", name := "pass", desc := "(I)I" } : Jvm.MethodName)) ∈ BIG := bmT (bt2 (List.mem_of_getElem? (i := 160) (by decide +kernel))) rfl
theorem bw_401 : (Jvm.Cond.selects "WellMoods" ({ cls := "WellMoods", name := "pass", desc := "(I)I" } : Jvm.MethodName) ({ cls := "WellMoods", name := "pass", desc := "(I)I" } : Jvm.MethodName)) ∈ BIG := bmT (bt2 (List.mem_of_getElem? (i := 161) (by decide +kernel))) rfl
theorem bw_402 : (Jvm.Cond.code ({ cls := "WellMoods", name := "pass", desc := "(I)I" } : Jvm.MethodName) prog_1_method_12_code (3 : Nat) (Option.some Jvm.ClassFile.FieldType.int)) ∈ BIG := bmT (bt2 (List.mem_of_getElem? (i := 162) (by decide +kernel))) rfl
theorem bw_403 : (Jvm.Cond.methodLink "WellMoodsLaw" (65 : Nat) ({ cls := "WellMoods", name := "run", desc := "()I" } : Jvm.MethodName)) ∈ BIG := bmT (bt2 (List.mem_of_getElem? (i := 163) (by decide +kernel))) rfl
theorem bw_404 : (Jvm.Cond.instanceMethod ({ cls := "WellMoods", name := "run", desc := "()I" } : Jvm.MethodName)) ∈ BIG := bmT (bt2 (List.mem_of_getElem? (i := 164) (by decide +kernel))) rfl
theorem bw_405 : (Jvm.Cond.selects "WellMoods" ({ cls := "WellMoods", name := "run", desc := "()I" } : Jvm.MethodName) ({ cls := "WellMoods", name := "run", desc := "()I" } : Jvm.MethodName)) ∈ BIG := bmT (bt2 (List.mem_of_getElem? (i := 165) (by decide +kernel))) rfl
theorem bw_406 : (Jvm.Cond.code ({ cls := "WellMoods", name := "run", desc := "()I" } : Jvm.MethodName) prog_1_method_13_code (1 : Nat) (Option.some Jvm.ClassFile.FieldType.int)) ∈ BIG := bmT (bt2 (List.mem_of_getElem? (i := 166) (by decide +kernel))) rfl
theorem bw_407 : (Jvm.Cond.methodLinkNest "WellMoods" (166 : Nat) ({ cls := "WellMoods$Well", name := "followPlan", desc := "()I" } : Jvm.MethodName) "WellMoods") ∈ NWL := nmT (bt2 (List.mem_of_getElem? (i := 167) (by decide +kernel))) rfl
theorem bw_409 : (Jvm.Cond.instanceMethod ({ cls := "WellMoods$Well", name := "followPlan", desc := "()I" } : Jvm.MethodName)) ∈ BIG := bmT (bt2 (List.mem_of_getElem? (i := 169) (by decide +kernel))) rfl
theorem bw_410 : (Jvm.Cond.code ({ cls := "WellMoods$Well", name := "followPlan", desc := "()I" } : Jvm.MethodName) prog_6_method_11_code (2 : Nat) (Option.some Jvm.ClassFile.FieldType.int)) ∈ BIG := bmT (bt2 (List.mem_of_getElem? (i := 170) (by decide +kernel))) rfl
theorem bw_411 : (Jvm.Cond.methodLink "WellMoods$Well" (112 : Nat) ({ cls := "WellMoods$Well", name := "passHour", desc := "(I)I" } : Jvm.MethodName)) ∈ BIG := bmT (bt2 (List.mem_of_getElem? (i := 171) (by decide +kernel))) rfl
theorem bw_412 : (Jvm.Cond.methodLink "WellMoodsLaw" (69 : Nat) ({ cls := "WellMoods", name := "most", desc := "(I)I" } : Jvm.MethodName)) ∈ BIG := bmT (bt2 (List.mem_of_getElem? (i := 172) (by decide +kernel))) rfl
theorem bw_413 : (Jvm.Cond.instanceMethod ({ cls := "WellMoods", name := "most", desc := "(I)I" } : Jvm.MethodName)) ∈ BIG := bmT (bt2 (List.mem_of_getElem? (i := 173) (by decide +kernel))) rfl
theorem bw_414 : (Jvm.Cond.selects "WellMoods" ({ cls := "WellMoods", name := "most", desc := "(I)I" } : Jvm.MethodName) ({ cls := "WellMoods", name := "most", desc := "(I)I" } : Jvm.MethodName)) ∈ BIG := bmT (bt2 (List.mem_of_getElem? (i := 174) (by decide +kernel))) rfl
theorem bw_415 : (Jvm.Cond.code ({ cls := "WellMoods", name := "most", desc := "(I)I" } : Jvm.MethodName) prog_1_method_14_code (2 : Nat) (Option.some Jvm.ClassFile.FieldType.int)) ∈ BIG := bmT (bt2 (List.mem_of_getElem? (i := 175) (by decide +kernel))) rfl
theorem bw_416 : (Jvm.Cond.methodLink "WellMoods" (170 : Nat) ({ cls := "WellMoods", name := "mostFrom", desc := "(II)I" } : Jvm.MethodName)) ∈ BIG := bmT (bt2 (List.mem_of_getElem? (i := 176) (by decide +kernel))) rfl
theorem bw_418 : (Jvm.Cond.instanceMethod ({ cls := "WellMoods", name := "mostFrom", desc := "(II)I" } : Jvm.MethodName)) ∈ BIG := bmT (bt2 (List.mem_of_getElem? (i := 178) (by decide +kernel))) rfl
theorem bw_419 : (Jvm.Cond.code ({ cls := "WellMoods", name := "mostFrom", desc := "(II)I" } : Jvm.MethodName) prog_1_method_43_code (3 : Nat) (Option.some Jvm.ClassFile.FieldType.int)) ∈ BIG := bmT (bt2 (List.mem_of_getElem? (i := 179) (by decide +kernel))) rfl
theorem bw_420 : (Jvm.Cond.methodLinkNest "WellMoods" (177 : Nat) ({ cls := "WellMoods$Search", name := "observe", desc := "(LWellMoods$Well;)V" } : Jvm.MethodName) "WellMoods") ∈ NWL := nmT (bt2 (List.mem_of_getElem? (i := 180) (by decide +kernel))) rfl
theorem bw_422 : (Jvm.Cond.instanceMethod ({ cls := "WellMoods$Search", name := "observe", desc := "(LWellMoods$Well;)V" } : Jvm.MethodName)) ∈ BIG := bmT (bt2 (List.mem_of_getElem? (i := 182) (by decide +kernel))) rfl
theorem bw_423 : (Jvm.Cond.code ({ cls := "WellMoods$Search", name := "observe", desc := "(LWellMoods$Well;)V" } : Jvm.MethodName) prog_3_method_2_code (2 : Nat) (Option.none : Option Jvm.ClassFile.FieldType)) ∈ BIG := bmT (bt2 (List.mem_of_getElem? (i := 183) (by decide +kernel))) rfl
theorem bw_424 : (Jvm.Cond.methodLinkNest "WellMoods$Search" (47 : Nat) ({ cls := "WellMoods$Folk", name := "become", desc := "(LWellMoods$Folk;)V" } : Jvm.MethodName) "WellMoods") ∈ NWL := nmT (bt2 (List.mem_of_getElem? (i := 184) (by decide +kernel))) rfl
theorem bw_425 : (Jvm.Cond.methodLink "WellMoods$Search" (54 : Nat) ({ cls := "java/lang/System", name := "arraycopy", desc := "(Ljava/lang/Object;ILjava/lang/Object;II)V" } : Jvm.MethodName)) ∈ BIG := bmT (bt2 (List.mem_of_getElem? (i := 185) (by decide +kernel))) rfl
theorem bw_426 : (Jvm.Cond.methodLinkNest "WellMoods" (181 : Nat) ({ cls := "WellMoods$Search", name := "mostIn", desc := "(II)I" } : Jvm.MethodName) "WellMoods") ∈ NWL := nmT (bt2 (List.mem_of_getElem? (i := 186) (by decide +kernel))) rfl
theorem bw_428 : (Jvm.Cond.instanceMethod ({ cls := "WellMoods$Search", name := "mostIn", desc := "(II)I" } : Jvm.MethodName)) ∈ BIG := bmT (bt2 (List.mem_of_getElem? (i := 188) (by decide +kernel))) rfl
theorem bw_429 : (Jvm.Cond.code ({ cls := "WellMoods$Search", name := "mostIn", desc := "(II)I" } : Jvm.MethodName) prog_3_method_3_code (3 : Nat) (Option.some Jvm.ClassFile.FieldType.int)) ∈ BIG := bmT (bt2 (List.mem_of_getElem? (i := 189) (by decide +kernel))) rfl
theorem bw_430 : (Jvm.Cond.methodLink "WellMoods$Search" (63 : Nat) ({ cls := "java/lang/Math", name := "min", desc := "(II)I" } : Jvm.MethodName)) ∈ BIG := bmT (bt2 (List.mem_of_getElem? (i := 190) (by decide +kernel))) rfl
theorem bw_431 : (Jvm.Cond.methodLink "WellMoods$Search" (69 : Nat) ({ cls := "WellMoods$Search", name := "tryHour", desc := "(IIIII)V" } : Jvm.MethodName)) ∈ BIG := bmT (bt2 (List.mem_of_getElem? (i := 191) (by decide +kernel))) rfl
theorem bw_433 : (Jvm.Cond.instanceMethod ({ cls := "WellMoods$Search", name := "tryHour", desc := "(IIIII)V" } : Jvm.MethodName)) ∈ BIG := bmT (bt2 (List.mem_of_getElem? (i := 193) (by decide +kernel))) rfl
theorem bw_434 : (Jvm.Cond.code ({ cls := "WellMoods$Search", name := "tryHour", desc := "(IIIII)V" } : Jvm.MethodName) prog_3_method_4_code (7 : Nat) (Option.none : Option Jvm.ClassFile.FieldType)) ∈ BIG := bmT (bt2 (List.mem_of_getElem? (i := 194) (by decide +kernel))) rfl
theorem bw_435 : (Jvm.Cond.methodLink "WellMoods$Search" (73 : Nat) ({ cls := "WellMoods$Search", name := "keep", desc := "(I)V" } : Jvm.MethodName)) ∈ BIG := bmT (bt2 (List.mem_of_getElem? (i := 195) (by decide +kernel))) rfl
theorem bw_437 : (Jvm.Cond.instanceMethod ({ cls := "WellMoods$Search", name := "keep", desc := "(I)V" } : Jvm.MethodName)) ∈ BIG := bmT (bt2 (List.mem_of_getElem? (i := 197) (by decide +kernel))) rfl
theorem bw_438 : (Jvm.Cond.code ({ cls := "WellMoods$Search", name := "keep", desc := "(I)V" } : Jvm.MethodName) prog_3_method_6_code (2 : Nat) (Option.none : Option Jvm.ClassFile.FieldType)) ∈ BIG := bmT (bt2 (List.mem_of_getElem? (i := 198) (by decide +kernel))) rfl
theorem bw_439 : (Jvm.Cond.methodLink "WellMoods$Search" (80 : Nat) ({ cls := "WellMoods$Search", name := "tryDrawing", desc := "(IIIIII)V" } : Jvm.MethodName)) ∈ BIG := bmT (bt2 (List.mem_of_getElem? (i := 199) (by decide +kernel))) rfl
theorem bw_441 : (Jvm.Cond.instanceMethod ({ cls := "WellMoods$Search", name := "tryDrawing", desc := "(IIIIII)V" } : Jvm.MethodName)) ∈ BIG := bmT (bt2 (List.mem_of_getElem? (i := 201) (by decide +kernel))) rfl
theorem bw_442 : (Jvm.Cond.code ({ cls := "WellMoods$Search", name := "tryDrawing", desc := "(IIIIII)V" } : Jvm.MethodName) prog_3_method_5_code (10 : Nat) (Option.none : Option Jvm.ClassFile.FieldType)) ∈ BIG := bmT (bt2 (List.mem_of_getElem? (i := 202) (by decide +kernel))) rfl
theorem bw_443 : (Jvm.Cond.methodLinkNest "WellMoods$Search" (91 : Nat) ({ cls := "WellMoods$Folk", name := "pailsBehind", desc := "(IIII)I" } : Jvm.MethodName) "WellMoods") ∈ NWL := nmT (bt2 (List.mem_of_getElem? (i := 203) (by decide +kernel))) rfl
theorem bw_444 : (Jvm.Cond.methodLinkNest "WellMoods$Search" (95 : Nat) ({ cls := "WellMoods$Folk", name := "isSweet", desc := "(II)Z" } : Jvm.MethodName) "WellMoods") ∈ NWL := nmT (bt2 (List.mem_of_getElem? (i := 204) (by decide +kernel))) rfl
theorem bw_445 : (Jvm.Cond.methodLinkNest "WellMoods$Search" (102 : Nat) ({ cls := "WellMoods$Folk", name := "moodBehind", desc := "(II)I" } : Jvm.MethodName) "WellMoods") ∈ NWL := nmT (bt2 (List.mem_of_getElem? (i := 205) (by decide +kernel))) rfl
theorem bw_446 : (Jvm.Cond.methodLinkNest "WellMoods$Search" (84 : Nat) ({ cls := "WellMoods", name := "waned", desc := "(I)I" } : Jvm.MethodName) "WellMoods") ∈ NWL := nmT (bt2 (List.mem_of_getElem? (i := 206) (by decide +kernel))) rfl
theorem bw_447 : (Jvm.Cond.methodLinkNest "WellMoods$Search" (88 : Nat) ({ cls := "WellMoods", name := "rained", desc := "(II)I" } : Jvm.MethodName) "WellMoods") ∈ NWL := nmT (bt2 (List.mem_of_getElem? (i := 207) (by decide +kernel))) rfl
theorem bw_448 : (Jvm.Cond.methodLink "WellMoodsLaw" (73 : Nat) ({ cls := "WellMoods", name := "row", desc := "(II)I" } : Jvm.MethodName)) ∈ BIG := bmT (bt2 (List.mem_of_getElem? (i := 208) (by decide +kernel))) rfl
theorem bw_449 : (Jvm.Cond.instanceMethod ({ cls := "WellMoods", name := "row", desc := "(II)I" } : Jvm.MethodName)) ∈ BIG := bmT (bt2 (List.mem_of_getElem? (i := 209) (by decide +kernel))) rfl
theorem bw_450 : (Jvm.Cond.selects "WellMoods" ({ cls := "WellMoods", name := "row", desc := "(II)I" } : Jvm.MethodName) ({ cls := "WellMoods", name := "row", desc := "(II)I" } : Jvm.MethodName)) ∈ BIG := bmT (bt2 (List.mem_of_getElem? (i := 210) (by decide +kernel))) rfl
theorem bw_451 : (Jvm.Cond.code ({ cls := "WellMoods", name := "row", desc := "(II)I" } : Jvm.MethodName) prog_1_method_15_code (3 : Nat) (Option.some Jvm.ClassFile.FieldType.int)) ∈ BIG := bmT (bt2 (List.mem_of_getElem? (i := 211) (by decide +kernel))) rfl
theorem bw_452 : (Jvm.Cond.methodLink "WellMoodsLaw" (77 : Nat) ({ cls := "WellMoods", name := "fewest", desc := "(I)I" } : Jvm.MethodName)) ∈ BIG := bmT (bt2 (List.mem_of_getElem? (i := 212) (by decide +kernel))) rfl
theorem bw_453 : (Jvm.Cond.instanceMethod ({ cls := "WellMoods", name := "fewest", desc := "(I)I" } : Jvm.MethodName)) ∈ BIG := bmT (bt2 (List.mem_of_getElem? (i := 213) (by decide +kernel))) rfl
theorem bw_454 : (Jvm.Cond.selects "WellMoods" ({ cls := "WellMoods", name := "fewest", desc := "(I)I" } : Jvm.MethodName) ({ cls := "WellMoods", name := "fewest", desc := "(I)I" } : Jvm.MethodName)) ∈ BIG := bmT (bt2 (List.mem_of_getElem? (i := 214) (by decide +kernel))) rfl
theorem bw_455 : (Jvm.Cond.code ({ cls := "WellMoods", name := "fewest", desc := "(I)I" } : Jvm.MethodName) prog_1_method_16_code (3 : Nat) (Option.some Jvm.ClassFile.FieldType.int)) ∈ BIG := bmT (bt2 (List.mem_of_getElem? (i := 215) (by decide +kernel))) rfl
theorem bw_456 : (Jvm.Cond.methodLink "WellMoodsLaw" (81 : Nat) ({ cls := "WellMoods", name := "peace", desc := "()I" } : Jvm.MethodName)) ∈ BIG := bmT (bt2 (List.mem_of_getElem? (i := 216) (by decide +kernel))) rfl
theorem bw_457 : (Jvm.Cond.instanceMethod ({ cls := "WellMoods", name := "peace", desc := "()I" } : Jvm.MethodName)) ∈ BIG := bmT (bt2 (List.mem_of_getElem? (i := 217) (by decide +kernel))) rfl
theorem bw_458 : (Jvm.Cond.selects "WellMoods" ({ cls := "WellMoods", name := "peace", desc := "()I" } : Jvm.MethodName) ({ cls := "WellMoods", name := "peace", desc := "()I" } : Jvm.MethodName)) ∈ BIG := bmT (bt2 (List.mem_of_getElem? (i := 218) (by decide +kernel))) rfl
theorem bw_459 : (Jvm.Cond.code ({ cls := "WellMoods", name := "peace", desc := "()I" } : Jvm.MethodName) prog_1_method_17_code (6 : Nat) (Option.some Jvm.ClassFile.FieldType.int)) ∈ BIG := bmT (bt2 (List.mem_of_getElem? (i := 219) (by decide +kernel))) rfl
theorem bw_460 : (Jvm.Cond.methodLink "WellMoods" (184 : Nat) ({ cls := "WellMoods", name := "mostInPeace", desc := "(II)I" } : Jvm.MethodName)) ∈ BIG := bmT (bt2 (List.mem_of_getElem? (i := 220) (by decide +kernel))) rfl
theorem bw_462 : (Jvm.Cond.instanceMethod ({ cls := "WellMoods", name := "mostInPeace", desc := "(II)I" } : Jvm.MethodName)) ∈ BIG := bmT (bt2 (List.mem_of_getElem? (i := 222) (by decide +kernel))) rfl
theorem bw_463 : (Jvm.Cond.code ({ cls := "WellMoods", name := "mostInPeace", desc := "(II)I" } : Jvm.MethodName) prog_1_method_44_code (4 : Nat) (Option.some Jvm.ClassFile.FieldType.int)) ∈ BIG := bmT (bt2 (List.mem_of_getElem? (i := 223) (by decide +kernel))) rfl
theorem bw_464 : (Jvm.Cond.methodLink "WellMoodsLaw" (85 : Nat) ({ cls := "WellMoods", name := "gives", desc := "(II)I" } : Jvm.MethodName)) ∈ BIG := bmT (bt2 (List.mem_of_getElem? (i := 224) (by decide +kernel))) rfl
theorem bw_465 : (Jvm.Cond.instanceMethod ({ cls := "WellMoods", name := "gives", desc := "(II)I" } : Jvm.MethodName)) ∈ BIG := bmT (bt2 (List.mem_of_getElem? (i := 225) (by decide +kernel))) rfl
theorem bw_466 : (Jvm.Cond.selects "WellMoods" ({ cls := "WellMoods", name := "gives", desc := "(II)I" } : Jvm.MethodName) ({ cls := "WellMoods", name := "gives", desc := "(II)I" } : Jvm.MethodName)) ∈ BIG := bmT (bt2 (List.mem_of_getElem? (i := 226) (by decide +kernel))) rfl
theorem bw_467 : (Jvm.Cond.code ({ cls := "WellMoods", name := "gives", desc := "(II)I" } : Jvm.MethodName) prog_1_method_18_code (3 : Nat) (Option.some Jvm.ClassFile.FieldType.int)) ∈ BIG := bmT (bt2 (List.mem_of_getElem? (i := 227) (by decide +kernel))) rfl
theorem bw_468 : (Jvm.Cond.methodLinkNest "WellMoods" (187 : Nat) ({ cls := "WellMoods$Well", name := "givesAt", desc := "(II)I" } : Jvm.MethodName) "WellMoods") ∈ NWL := nmT (bt2 (List.mem_of_getElem? (i := 228) (by decide +kernel))) rfl
theorem bw_470 : (Jvm.Cond.instanceMethod ({ cls := "WellMoods$Well", name := "givesAt", desc := "(II)I" } : Jvm.MethodName)) ∈ BIG := bmT (bt2 (List.mem_of_getElem? (i := 230) (by decide +kernel))) rfl
theorem bw_471 : (Jvm.Cond.code ({ cls := "WellMoods$Well", name := "givesAt", desc := "(II)I" } : Jvm.MethodName) prog_6_method_7_code (4 : Nat) (Option.some Jvm.ClassFile.FieldType.int)) ∈ BIG := bmT (bt2 (List.mem_of_getElem? (i := 231) (by decide +kernel))) rfl
theorem bw_472 : (Jvm.Cond.methodLinkNest "WellMoods$Well" (73 : Nat) ({ cls := "WellMoods$Folk", name := "pailsAt", desc := "(II)I" } : Jvm.MethodName) "WellMoods") ∈ NWL := nmT (bt2 (List.mem_of_getElem? (i := 232) (by decide +kernel))) rfl
theorem bw_473 : (Jvm.Cond.methodLink "WellMoodsLaw" (89 : Nat) ({ cls := "WellMoods", name := "stranger", desc := "(III)I" } : Jvm.MethodName)) ∈ BIG := bmT (bt2 (List.mem_of_getElem? (i := 233) (by decide +kernel))) rfl
theorem bw_474 : (Jvm.Cond.instanceMethod ({ cls := "WellMoods", name := "stranger", desc := "(III)I" } : Jvm.MethodName)) ∈ BIG := bmT (bt2 (List.mem_of_getElem? (i := 234) (by decide +kernel))) rfl
theorem bw_475 : (Jvm.Cond.selects "WellMoods" ({ cls := "WellMoods", name := "stranger", desc := "(III)I" } : Jvm.MethodName) ({ cls := "WellMoods", name := "stranger", desc := "(III)I" } : Jvm.MethodName)) ∈ BIG := bmT (bt2 (List.mem_of_getElem? (i := 235) (by decide +kernel))) rfl
theorem bw_476 : (Jvm.Cond.code ({ cls := "WellMoods", name := "stranger", desc := "(III)I" } : Jvm.MethodName) prog_1_method_19_code (7 : Nat) (Option.some Jvm.ClassFile.FieldType.int)) ∈ BIG := bmT (bt2 (List.mem_of_getElem? (i := 236) (by decide +kernel))) rfl
theorem bw_477 : (Jvm.Cond.methodLink "WellMoods" (190 : Nat) ({ cls := "WellMoods", name := "isPails", desc := "(J)Z" } : Jvm.MethodName)) ∈ BIG := bmT (bt2 (List.mem_of_getElem? (i := 237) (by decide +kernel))) rfl
theorem bw_478 : (Jvm.Cond.static ({ cls := "WellMoods", name := "isPails", desc := "(J)Z" } : Jvm.MethodName)) ∈ BIG := bmT (bt2 (List.mem_of_getElem? (i := 238) (by decide +kernel))) rfl
theorem bw_479 : (Jvm.Cond.code ({ cls := "WellMoods", name := "isPails", desc := "(J)Z" } : Jvm.MethodName) prog_1_method_34_code (2 : Nat) (Option.some Jvm.ClassFile.FieldType.boolean)) ∈ BIG := bmT (bt2 (List.mem_of_getElem? (i := 239) (by decide +kernel))) rfl
theorem bw_480 : (Jvm.Cond.constantLong "WellMoods" (261 : Nat) (9 : Int64)) ∈ BIG := bmT (bt3 (List.mem_of_getElem? (i := 0) (by decide +kernel))) rfl
theorem bw_481 : (Jvm.Cond.methodLink "WellMoods" (194 : Nat) ({ cls := "WellMoods", name := "asMood", desc := "(I)I" } : Jvm.MethodName)) ∈ BIG := bmT (bt3 (List.mem_of_getElem? (i := 1) (by decide +kernel))) rfl
theorem bw_482 : (Jvm.Cond.methodLink "WellMoods" (197 : Nat) ({ cls := "WellMoods", name := "waned", desc := "(I)I" } : Jvm.MethodName)) ∈ BIG := bmT (bt3 (List.mem_of_getElem? (i := 2) (by decide +kernel))) rfl
theorem bw_483 : (Jvm.Cond.methodLinkNest "WellMoods" (200 : Nat) ({ cls := "WellMoods$Folk", name := "pailsAt", desc := "(II)I" } : Jvm.MethodName) "WellMoods") ∈ NWL := nmT (bt3 (List.mem_of_getElem? (i := 3) (by decide +kernel))) rfl
theorem bw_484 : (Jvm.Cond.methodLink "WellMoodsLaw" (93 : Nat) ({ cls := "WellMoods", name := "liar", desc := "(IIIIII)I" } : Jvm.MethodName)) ∈ BIG := bmT (bt3 (List.mem_of_getElem? (i := 4) (by decide +kernel))) rfl
theorem bw_485 : (Jvm.Cond.instanceMethod ({ cls := "WellMoods", name := "liar", desc := "(IIIIII)I" } : Jvm.MethodName)) ∈ BIG := bmT (bt3 (List.mem_of_getElem? (i := 5) (by decide +kernel))) rfl
theorem bw_486 : (Jvm.Cond.selects "WellMoods" ({ cls := "WellMoods", name := "liar", desc := "(IIIIII)I" } : Jvm.MethodName) ({ cls := "WellMoods", name := "liar", desc := "(IIIIII)I" } : Jvm.MethodName)) ∈ BIG := bmT (bt3 (List.mem_of_getElem? (i := 6) (by decide +kernel))) rfl
theorem bw_487 : (Jvm.Cond.code ({ cls := "WellMoods", name := "liar", desc := "(IIIIII)I" } : Jvm.MethodName) prog_1_method_20_code (9 : Nat) (Option.some Jvm.ClassFile.FieldType.int)) ∈ BIG := bmT (bt3 (List.mem_of_getElem? (i := 7) (by decide +kernel))) rfl
theorem bw_488 : (Jvm.Cond.methodLink "WellMoods" (203 : Nat) ({ cls := "WellMoods", name := "isTale", desc := "(III)Z" } : Jvm.MethodName)) ∈ BIG := bmT (bt3 (List.mem_of_getElem? (i := 8) (by decide +kernel))) rfl
theorem bw_490 : (Jvm.Cond.instanceMethod ({ cls := "WellMoods", name := "isTale", desc := "(III)Z" } : Jvm.MethodName)) ∈ BIG := bmT (bt3 (List.mem_of_getElem? (i := 10) (by decide +kernel))) rfl
theorem bw_491 : (Jvm.Cond.code ({ cls := "WellMoods", name := "isTale", desc := "(III)Z" } : Jvm.MethodName) prog_1_method_42_code (4 : Nat) (Option.some Jvm.ClassFile.FieldType.boolean)) ∈ BIG := bmT (bt3 (List.mem_of_getElem? (i := 11) (by decide +kernel))) rfl
theorem bw_492 : (Jvm.Cond.methodLink "WellMoodsLaw" (98 : Nat) ({ cls := "WellMoods", name := "other", desc := "(I)I" } : Jvm.MethodName)) ∈ BIG := bmT (bt3 (List.mem_of_getElem? (i := 12) (by decide +kernel))) rfl
theorem bw_493 : (Jvm.Cond.instanceMethod ({ cls := "WellMoods", name := "other", desc := "(I)I" } : Jvm.MethodName)) ∈ BIG := bmT (bt3 (List.mem_of_getElem? (i := 13) (by decide +kernel))) rfl
theorem bw_494 : (Jvm.Cond.selects "WellMoods" ({ cls := "WellMoods", name := "other", desc := "(I)I" } : Jvm.MethodName) ({ cls := "WellMoods", name := "other", desc := "(I)I" } : Jvm.MethodName)) ∈ BIG := bmT (bt3 (List.mem_of_getElem? (i := 14) (by decide +kernel))) rfl
theorem bw_495 : (Jvm.Cond.code ({ cls := "WellMoods", name := "other", desc := "(I)I" } : Jvm.MethodName) prog_1_method_21_code (2 : Nat) (Option.some Jvm.ClassFile.FieldType.int)) ∈ BIG := bmT (bt3 (List.mem_of_getElem? (i := 15) (by decide +kernel))) rfl
theorem bw_496 : (Jvm.Cond.methodLink "WellMoodsLaw" (102 : Nat) ({ cls := "WellMoods", name := "drawn", desc := "(I)I" } : Jvm.MethodName)) ∈ BIG := bmT (bt3 (List.mem_of_getElem? (i := 16) (by decide +kernel))) rfl
theorem bw_497 : (Jvm.Cond.instanceMethod ({ cls := "WellMoods", name := "drawn", desc := "(I)I" } : Jvm.MethodName)) ∈ BIG := bmT (bt3 (List.mem_of_getElem? (i := 17) (by decide +kernel))) rfl
theorem bw_498 : (Jvm.Cond.selects "WellMoods" ({ cls := "WellMoods", name := "drawn", desc := "(I)I" } : Jvm.MethodName) ({ cls := "WellMoods", name := "drawn", desc := "(I)I" } : Jvm.MethodName)) ∈ BIG := bmT (bt3 (List.mem_of_getElem? (i := 18) (by decide +kernel))) rfl
theorem bw_499 : (Jvm.Cond.code ({ cls := "WellMoods", name := "drawn", desc := "(I)I" } : Jvm.MethodName) prog_1_method_22_code (4 : Nat) (Option.some Jvm.ClassFile.FieldType.int)) ∈ BIG := bmT (bt3 (List.mem_of_getElem? (i := 19) (by decide +kernel))) rfl
theorem bw_500 : (Jvm.Cond.methodLinkNest "WellMoods" (206 : Nat) ({ cls := "WellMoods$Well", name := "lot", desc := "()I" } : Jvm.MethodName) "WellMoods") ∈ NWL := nmT (bt3 (List.mem_of_getElem? (i := 20) (by decide +kernel))) rfl
theorem bw_502 : (Jvm.Cond.instanceMethod ({ cls := "WellMoods$Well", name := "lot", desc := "()I" } : Jvm.MethodName)) ∈ BIG := bmT (bt3 (List.mem_of_getElem? (i := 22) (by decide +kernel))) rfl
theorem bw_503 : (Jvm.Cond.code ({ cls := "WellMoods$Well", name := "lot", desc := "()I" } : Jvm.MethodName) prog_6_method_12_code (2 : Nat) (Option.some Jvm.ClassFile.FieldType.int)) ∈ BIG := bmT (bt3 (List.mem_of_getElem? (i := 23) (by decide +kernel))) rfl
theorem bw_504 : (Jvm.Cond.constantLong "WellMoods$Well" (115 : Nat) (1103515245 : Int64)) ∈ BIG := bmT (bt3 (List.mem_of_getElem? (i := 24) (by decide +kernel))) rfl
theorem bw_505 : (Jvm.Cond.constantLong "WellMoods$Well" (117 : Nat) (12345 : Int64)) ∈ BIG := bmT (bt3 (List.mem_of_getElem? (i := 25) (by decide +kernel))) rfl
theorem bw_506 : (Jvm.Cond.constantLong "WellMoods$Well" (119 : Nat) (2147483647 : Int64)) ∈ BIG := bmT (bt3 (List.mem_of_getElem? (i := 26) (by decide +kernel))) rfl
theorem bw_507 : (Jvm.Cond.constant "WellMoods$Well" (121 : Nat) (65536 : Int32)) ∈ BIG := bmT (bt3 (List.mem_of_getElem? (i := 27) (by decide +kernel))) rfl
theorem bw_508 : (Jvm.Cond.methodLink "WellMoodsLaw" (106 : Nat) ({ cls := "WellMoods", name := "seed", desc := "(I)I" } : Jvm.MethodName)) ∈ BIG := bmT (bt3 (List.mem_of_getElem? (i := 28) (by decide +kernel))) rfl
theorem bw_509 : (Jvm.Cond.instanceMethod ({ cls := "WellMoods", name := "seed", desc := "(I)I" } : Jvm.MethodName)) ∈ BIG := bmT (bt3 (List.mem_of_getElem? (i := 29) (by decide +kernel))) rfl
theorem bw_510 : (Jvm.Cond.selects "WellMoods" ({ cls := "WellMoods", name := "seed", desc := "(I)I" } : Jvm.MethodName) ({ cls := "WellMoods", name := "seed", desc := "(I)I" } : Jvm.MethodName)) ∈ BIG := bmT (bt3 (List.mem_of_getElem? (i := 30) (by decide +kernel))) rfl
theorem bw_511 : (Jvm.Cond.code ({ cls := "WellMoods", name := "seed", desc := "(I)I" } : Jvm.MethodName) prog_1_method_23_code (3 : Nat) (Option.some Jvm.ClassFile.FieldType.int)) ∈ BIG := bmT (bt3 (List.mem_of_getElem? (i := 31) (by decide +kernel))) rfl
theorem bw_512 : (Jvm.Cond.methodLink "WellMoodsLaw" (110 : Nat) ({ cls := "WellMoods", name := "image", desc := "()I" } : Jvm.MethodName)) ∈ BIG := bmT (bt3 (List.mem_of_getElem? (i := 32) (by decide +kernel))) rfl
theorem bw_513 : (Jvm.Cond.instanceMethod ({ cls := "WellMoods", name := "image", desc := "()I" } : Jvm.MethodName)) ∈ BIG := bmT (bt3 (List.mem_of_getElem? (i := 33) (by decide +kernel))) rfl
theorem bw_514 : (Jvm.Cond.selects "WellMoods" ({ cls := "WellMoods", name := "image", desc := "()I" } : Jvm.MethodName) ({ cls := "WellMoods", name := "image", desc := "()I" } : Jvm.MethodName)) ∈ BIG := bmT (bt3 (List.mem_of_getElem? (i := 34) (by decide +kernel))) rfl
theorem bw_515 : (Jvm.Cond.code ({ cls := "WellMoods", name := "image", desc := "()I" } : Jvm.MethodName) prog_1_method_24_code (1 : Nat) (Option.some Jvm.ClassFile.FieldType.int)) ∈ BIG := bmT (bt3 (List.mem_of_getElem? (i := 35) (by decide +kernel))) rfl
theorem bw_516 : (Jvm.Cond.methodLinkNest "WellMoods" (212 : Nat) ({ cls := "WellMoods$Well", name := "become", desc := "(LWellMoods$Well;)V" } : Jvm.MethodName) "WellMoods") ∈ NWL := nmT (bt3 (List.mem_of_getElem? (i := 36) (by decide +kernel))) rfl
theorem bw_518 : (Jvm.Cond.instanceMethod ({ cls := "WellMoods$Well", name := "become", desc := "(LWellMoods$Well;)V" } : Jvm.MethodName)) ∈ BIG := bmT (bt3 (List.mem_of_getElem? (i := 38) (by decide +kernel))) rfl
theorem bw_519 : (Jvm.Cond.code ({ cls := "WellMoods$Well", name := "become", desc := "(LWellMoods$Well;)V" } : Jvm.MethodName) prog_6_method_2_code (2 : Nat) (Option.none : Option Jvm.ClassFile.FieldType)) ∈ BIG := bmT (bt3 (List.mem_of_getElem? (i := 39) (by decide +kernel))) rfl
theorem bw_520 : (Jvm.Cond.methodLink "WellMoodsLaw" (114 : Nat) ({ cls := "WellMoods", name := "restore", desc := "()I" } : Jvm.MethodName)) ∈ BIG := bmT (bt3 (List.mem_of_getElem? (i := 40) (by decide +kernel))) rfl
theorem bw_521 : (Jvm.Cond.instanceMethod ({ cls := "WellMoods", name := "restore", desc := "()I" } : Jvm.MethodName)) ∈ BIG := bmT (bt3 (List.mem_of_getElem? (i := 41) (by decide +kernel))) rfl
theorem bw_522 : (Jvm.Cond.selects "WellMoods" ({ cls := "WellMoods", name := "restore", desc := "()I" } : Jvm.MethodName) ({ cls := "WellMoods", name := "restore", desc := "()I" } : Jvm.MethodName)) ∈ BIG := bmT (bt3 (List.mem_of_getElem? (i := 42) (by decide +kernel))) rfl
theorem bw_523 : (Jvm.Cond.code ({ cls := "WellMoods", name := "restore", desc := "()I" } : Jvm.MethodName) prog_1_method_25_code (1 : Nat) (Option.some Jvm.ClassFile.FieldType.int)) ∈ BIG := bmT (bt3 (List.mem_of_getElem? (i := 43) (by decide +kernel))) rfl
theorem bw_524 : (Jvm.Cond.methodLink "WellMoodsLaw" (118 : Nat) ({ cls := "WellMoods", name := "fit", desc := "(IIII)I" } : Jvm.MethodName)) ∈ BIG := bmT (bt3 (List.mem_of_getElem? (i := 44) (by decide +kernel))) rfl
theorem bw_525 : (Jvm.Cond.instanceMethod ({ cls := "WellMoods", name := "fit", desc := "(IIII)I" } : Jvm.MethodName)) ∈ BIG := bmT (bt3 (List.mem_of_getElem? (i := 45) (by decide +kernel))) rfl
theorem bw_526 : (Jvm.Cond.selects "WellMoods" ({ cls := "WellMoods", name := "fit", desc := "(IIII)I" } : Jvm.MethodName) ({ cls := "WellMoods", name := "fit", desc := "(IIII)I" } : Jvm.MethodName)) ∈ BIG := bmT (bt3 (List.mem_of_getElem? (i := 46) (by decide +kernel))) rfl
theorem bw_527 : (Jvm.Cond.code ({ cls := "WellMoods", name := "fit", desc := "(IIII)I" } : Jvm.MethodName) prog_1_method_26_code (8 : Nat) (Option.some Jvm.ClassFile.FieldType.int)) ∈ BIG := bmT (bt3 (List.mem_of_getElem? (i := 47) (by decide +kernel))) rfl
theorem bw_528 : (Jvm.Cond.methodLink "WellMoods" (215 : Nat) ({ cls := "WellMoods", name := "refusal", desc := "(IIII)I" } : Jvm.MethodName)) ∈ BIG := bmT (bt3 (List.mem_of_getElem? (i := 48) (by decide +kernel))) rfl
theorem bw_530 : (Jvm.Cond.instanceMethod ({ cls := "WellMoods", name := "refusal", desc := "(IIII)I" } : Jvm.MethodName)) ∈ BIG := bmT (bt3 (List.mem_of_getElem? (i := 50) (by decide +kernel))) rfl
theorem bw_531 : (Jvm.Cond.code ({ cls := "WellMoods", name := "refusal", desc := "(IIII)I" } : Jvm.MethodName) prog_1_method_45_code (5 : Nat) (Option.some Jvm.ClassFile.FieldType.int)) ∈ BIG := bmT (bt3 (List.mem_of_getElem? (i := 51) (by decide +kernel))) rfl
theorem bw_532 : (Jvm.Cond.methodLink "WellMoods" (231 : Nat) ({ cls := "WellMoods", name := "isSheet", desc := "(I)Z" } : Jvm.MethodName)) ∈ BIG := bmT (bt3 (List.mem_of_getElem? (i := 52) (by decide +kernel))) rfl
theorem bw_533 : (Jvm.Cond.static ({ cls := "WellMoods", name := "isSheet", desc := "(I)Z" } : Jvm.MethodName)) ∈ BIG := bmT (bt3 (List.mem_of_getElem? (i := 53) (by decide +kernel))) rfl
theorem bw_534 : (Jvm.Cond.code ({ cls := "WellMoods", name := "isSheet", desc := "(I)Z" } : Jvm.MethodName) prog_1_method_35_code (1 : Nat) (Option.some Jvm.ClassFile.FieldType.boolean)) ∈ BIG := bmT (bt3 (List.mem_of_getElem? (i := 54) (by decide +kernel))) rfl
theorem bw_535 : (Jvm.Cond.methodLink "WellMoods" (234 : Nat) ({ cls := "WellMoods", name := "isLane", desc := "(I)Z" } : Jvm.MethodName)) ∈ BIG := bmT (bt3 (List.mem_of_getElem? (i := 55) (by decide +kernel))) rfl
theorem bw_536 : (Jvm.Cond.static ({ cls := "WellMoods", name := "isLane", desc := "(I)Z" } : Jvm.MethodName)) ∈ BIG := bmT (bt3 (List.mem_of_getElem? (i := 56) (by decide +kernel))) rfl
theorem bw_537 : (Jvm.Cond.code ({ cls := "WellMoods", name := "isLane", desc := "(I)Z" } : Jvm.MethodName) prog_1_method_36_code (1 : Nat) (Option.some Jvm.ClassFile.FieldType.boolean)) ∈ BIG := bmT (bt3 (List.mem_of_getElem? (i := 57) (by decide +kernel))) rfl
theorem bw_538 : (Jvm.Cond.methodLinkNest "WellMoods" (248 : Nat) ({ cls := "WellMoods$Sheet", name := "hasSpan", desc := "(II)Z" } : Jvm.MethodName) "WellMoods") ∈ NWL := nmT (bt3 (List.mem_of_getElem? (i := 58) (by decide +kernel))) rfl
theorem bw_540 : (Jvm.Cond.instanceMethod ({ cls := "WellMoods$Sheet", name := "hasSpan", desc := "(II)Z" } : Jvm.MethodName)) ∈ BIG := bmT (bt3 (List.mem_of_getElem? (i := 60) (by decide +kernel))) rfl
theorem bw_541 : (Jvm.Cond.code ({ cls := "WellMoods$Sheet", name := "hasSpan", desc := "(II)Z" } : Jvm.MethodName) prog_4_method_3_code (3 : Nat) (Option.some Jvm.ClassFile.FieldType.boolean)) ∈ BIG := bmT (bt3 (List.mem_of_getElem? (i := 61) (by decide +kernel))) rfl
theorem bw_542 : (Jvm.Cond.methodLink "WellMoods" (219 : Nat) ({ cls := "WellMoods", name := "areDrawings", desc := "(LWellMoods$Sheet;II)Z" } : Jvm.MethodName)) ∈ BIG := bmT (bt3 (List.mem_of_getElem? (i := 62) (by decide +kernel))) rfl
theorem bw_544 : (Jvm.Cond.instanceMethod ({ cls := "WellMoods", name := "areDrawings", desc := "(LWellMoods$Sheet;II)Z" } : Jvm.MethodName)) ∈ BIG := bmT (bt3 (List.mem_of_getElem? (i := 64) (by decide +kernel))) rfl
theorem bw_545 : (Jvm.Cond.code ({ cls := "WellMoods", name := "areDrawings", desc := "(LWellMoods$Sheet;II)Z" } : Jvm.MethodName) prog_1_method_46_code (7 : Nat) (Option.some Jvm.ClassFile.FieldType.boolean)) ∈ BIG := bmT (bt3 (List.mem_of_getElem? (i := 65) (by decide +kernel))) rfl
theorem bw_546 : (Jvm.Cond.methodLink "WellMoods" (223 : Nat) ({ cls := "WellMoods", name := "fitsFrom", desc := "(ILWellMoods$Sheet;II)Z" } : Jvm.MethodName)) ∈ BIG := bmT (bt3 (List.mem_of_getElem? (i := 66) (by decide +kernel))) rfl
theorem bw_548 : (Jvm.Cond.instanceMethod ({ cls := "WellMoods", name := "fitsFrom", desc := "(ILWellMoods$Sheet;II)Z" } : Jvm.MethodName)) ∈ BIG := bmT (bt3 (List.mem_of_getElem? (i := 68) (by decide +kernel))) rfl
theorem bw_549 : (Jvm.Cond.code ({ cls := "WellMoods", name := "fitsFrom", desc := "(ILWellMoods$Sheet;II)Z" } : Jvm.MethodName) prog_1_method_47_code (8 : Nat) (Option.some Jvm.ClassFile.FieldType.boolean)) ∈ BIG := bmT (bt3 (List.mem_of_getElem? (i := 69) (by decide +kernel))) rfl
theorem bw_550 : (Jvm.Cond.methodLinkNest "WellMoods" (277 : Nat) ({ cls := "WellMoods$Folk", name := "moodBehind", desc := "(II)I" } : Jvm.MethodName) "WellMoods") ∈ NWL := nmT (bt3 (List.mem_of_getElem? (i := 70) (by decide +kernel))) rfl
theorem bw_551 : (Jvm.Cond.methodLink "WellMoodsLaw" (123 : Nat) ({ cls := "WellMoods", name := "film", desc := "(IIII)I" } : Jvm.MethodName)) ∈ BIG := bmT (bt3 (List.mem_of_getElem? (i := 71) (by decide +kernel))) rfl
theorem bw_552 : (Jvm.Cond.instanceMethod ({ cls := "WellMoods", name := "film", desc := "(IIII)I" } : Jvm.MethodName)) ∈ BIG := bmT (bt3 (List.mem_of_getElem? (i := 72) (by decide +kernel))) rfl
theorem bw_553 : (Jvm.Cond.selects "WellMoods" ({ cls := "WellMoods", name := "film", desc := "(IIII)I" } : Jvm.MethodName) ({ cls := "WellMoods", name := "film", desc := "(IIII)I" } : Jvm.MethodName)) ∈ BIG := bmT (bt3 (List.mem_of_getElem? (i := 73) (by decide +kernel))) rfl
theorem bw_554 : (Jvm.Cond.code ({ cls := "WellMoods", name := "film", desc := "(IIII)I" } : Jvm.MethodName) prog_1_method_27_code (7 : Nat) (Option.some Jvm.ClassFile.FieldType.int)) ∈ BIG := bmT (bt3 (List.mem_of_getElem? (i := 74) (by decide +kernel))) rfl
theorem bw_555 : (Jvm.Cond.methodLinkNest "WellMoods" (227 : Nat) ({ cls := "WellMoods$Sheet", name := "put", desc := "(IJ)V" } : Jvm.MethodName) "WellMoods") ∈ NWL := nmT (bt3 (List.mem_of_getElem? (i := 75) (by decide +kernel))) rfl
theorem bw_557 : (Jvm.Cond.instanceMethod ({ cls := "WellMoods$Sheet", name := "put", desc := "(IJ)V" } : Jvm.MethodName)) ∈ BIG := bmT (bt3 (List.mem_of_getElem? (i := 77) (by decide +kernel))) rfl
theorem bw_558 : (Jvm.Cond.code ({ cls := "WellMoods$Sheet", name := "put", desc := "(IJ)V" } : Jvm.MethodName) prog_4_method_4_code (4 : Nat) (Option.none : Option Jvm.ClassFile.FieldType)) ∈ BIG := bmT (bt3 (List.mem_of_getElem? (i := 78) (by decide +kernel))) rfl
theorem bw_559 : (Jvm.Cond.methodLink "WellMoodsLaw" (127 : Nat) ({ cls := "WellMoods", name := "sheet", desc := "(III)I" } : Jvm.MethodName)) ∈ BIG := bmT (bt3 (List.mem_of_getElem? (i := 79) (by decide +kernel))) rfl
theorem bw_560 : (Jvm.Cond.instanceMethod ({ cls := "WellMoods", name := "sheet", desc := "(III)I" } : Jvm.MethodName)) ∈ BIG := bmT (bt3 (List.mem_of_getElem? (i := 80) (by decide +kernel))) rfl
theorem bw_561 : (Jvm.Cond.selects "WellMoods" ({ cls := "WellMoods", name := "sheet", desc := "(III)I" } : Jvm.MethodName) ({ cls := "WellMoods", name := "sheet", desc := "(III)I" } : Jvm.MethodName)) ∈ BIG := bmT (bt3 (List.mem_of_getElem? (i := 81) (by decide +kernel))) rfl
theorem bw_562 : (Jvm.Cond.code ({ cls := "WellMoods", name := "sheet", desc := "(III)I" } : Jvm.MethodName) prog_1_method_28_code (4 : Nat) (Option.some Jvm.ClassFile.FieldType.int)) ∈ BIG := bmT (bt3 (List.mem_of_getElem? (i := 82) (by decide +kernel))) rfl
theorem bw_563 : (Jvm.Cond.methodLinkNest "WellMoods" (237 : Nat) ({ cls := "WellMoods$Sheet", name := "begin", desc := "(II)V" } : Jvm.MethodName) "WellMoods") ∈ NWL := nmT (bt3 (List.mem_of_getElem? (i := 83) (by decide +kernel))) rfl
theorem bw_565 : (Jvm.Cond.instanceMethod ({ cls := "WellMoods$Sheet", name := "begin", desc := "(II)V" } : Jvm.MethodName)) ∈ BIG := bmT (bt3 (List.mem_of_getElem? (i := 85) (by decide +kernel))) rfl
theorem bw_566 : (Jvm.Cond.code ({ cls := "WellMoods$Sheet", name := "begin", desc := "(II)V" } : Jvm.MethodName) prog_4_method_2_code (4 : Nat) (Option.none : Option Jvm.ClassFile.FieldType)) ∈ BIG := bmT (bt3 (List.mem_of_getElem? (i := 86) (by decide +kernel))) rfl
theorem bw_567 : (Jvm.Cond.methodLink "WellMoodsLaw" (131 : Nat) ({ cls := "WellMoods", name := "drop", desc := "(I)I" } : Jvm.MethodName)) ∈ BIG := bmT (bt3 (List.mem_of_getElem? (i := 87) (by decide +kernel))) rfl
theorem bw_568 : (Jvm.Cond.instanceMethod ({ cls := "WellMoods", name := "drop", desc := "(I)I" } : Jvm.MethodName)) ∈ BIG := bmT (bt3 (List.mem_of_getElem? (i := 88) (by decide +kernel))) rfl
theorem bw_569 : (Jvm.Cond.selects "WellMoods" ({ cls := "WellMoods", name := "drop", desc := "(I)I" } : Jvm.MethodName) ({ cls := "WellMoods", name := "drop", desc := "(I)I" } : Jvm.MethodName)) ∈ BIG := bmT (bt3 (List.mem_of_getElem? (i := 89) (by decide +kernel))) rfl
theorem bw_570 : (Jvm.Cond.code ({ cls := "WellMoods", name := "drop", desc := "(I)I" } : Jvm.MethodName) prog_1_method_29_code (2 : Nat) (Option.some Jvm.ClassFile.FieldType.int)) ∈ BIG := bmT (bt3 (List.mem_of_getElem? (i := 90) (by decide +kernel))) rfl
theorem bw_571 : (Jvm.Cond.methodLink "WellMoodsLaw" (135 : Nat) ({ cls := "WellMoods", name := "item", desc := "(IIIJ)I" } : Jvm.MethodName)) ∈ BIG := bmT (bt3 (List.mem_of_getElem? (i := 91) (by decide +kernel))) rfl
theorem bw_572 : (Jvm.Cond.instanceMethod ({ cls := "WellMoods", name := "item", desc := "(IIIJ)I" } : Jvm.MethodName)) ∈ BIG := bmT (bt3 (List.mem_of_getElem? (i := 92) (by decide +kernel))) rfl
theorem bw_573 : (Jvm.Cond.selects "WellMoods" ({ cls := "WellMoods", name := "item", desc := "(IIIJ)I" } : Jvm.MethodName) ({ cls := "WellMoods", name := "item", desc := "(IIIJ)I" } : Jvm.MethodName)) ∈ BIG := bmT (bt3 (List.mem_of_getElem? (i := 93) (by decide +kernel))) rfl
theorem bw_574 : (Jvm.Cond.code ({ cls := "WellMoods", name := "item", desc := "(IIIJ)I" } : Jvm.MethodName) prog_1_method_30_code (7 : Nat) (Option.some Jvm.ClassFile.FieldType.int)) ∈ BIG := bmT (bt3 (List.mem_of_getElem? (i := 94) (by decide +kernel))) rfl
theorem bw_575 : (Jvm.Cond.methodLink "WellMoodsLaw" (140 : Nat) ({ cls := "WellMoods", name := "copy", desc := "(IIIII)I" } : Jvm.MethodName)) ∈ BIG := bmT (bt3 (List.mem_of_getElem? (i := 95) (by decide +kernel))) rfl
theorem bw_576 : (Jvm.Cond.instanceMethod ({ cls := "WellMoods", name := "copy", desc := "(IIIII)I" } : Jvm.MethodName)) ∈ BIG := bmT (bt3 (List.mem_of_getElem? (i := 96) (by decide +kernel))) rfl
theorem bw_577 : (Jvm.Cond.selects "WellMoods" ({ cls := "WellMoods", name := "copy", desc := "(IIIII)I" } : Jvm.MethodName) ({ cls := "WellMoods", name := "copy", desc := "(IIIII)I" } : Jvm.MethodName)) ∈ BIG := bmT (bt3 (List.mem_of_getElem? (i := 97) (by decide +kernel))) rfl
theorem bw_578 : (Jvm.Cond.code ({ cls := "WellMoods", name := "copy", desc := "(IIIII)I" } : Jvm.MethodName) prog_1_method_31_code (6 : Nat) (Option.some Jvm.ClassFile.FieldType.int)) ∈ BIG := bmT (bt3 (List.mem_of_getElem? (i := 98) (by decide +kernel))) rfl
theorem bw_579 : (Jvm.Cond.methodLink "WellMoods" (255 : Nat) ({ cls := "java/lang/System", name := "arraycopy", desc := "(Ljava/lang/Object;ILjava/lang/Object;II)V" } : Jvm.MethodName)) ∈ BIG := bmT (bt3 (List.mem_of_getElem? (i := 99) (by decide +kernel))) rfl
theorem bw_580 : (Jvm.Cond.classLink "WellMoodsLaw" (10 : Nat) "WellMoodsModel") ∈ BIG := bmT (bt3 (List.mem_of_getElem? (i := 100) (by decide +kernel))) rfl
theorem bw_581 : (Jvm.Cond.instantiable "WellMoodsModel" (36 : Nat)) ∈ BIG := bmT (bt3 (List.mem_of_getElem? (i := 101) (by decide +kernel))) rfl
theorem bw_582 : (Jvm.Cond.methodLink "WellMoodsLaw" (12 : Nat) ({ cls := "WellMoodsModel", name := "<init>", desc := "()V" } : Jvm.MethodName)) ∈ BIG := bmT (bt3 (List.mem_of_getElem? (i := 102) (by decide +kernel))) rfl
theorem bw_583 : (Jvm.Cond.instanceMethod ({ cls := "WellMoodsModel", name := "<init>", desc := "()V" } : Jvm.MethodName)) ∈ BIG := bmT (bt3 (List.mem_of_getElem? (i := 103) (by decide +kernel))) rfl
theorem bw_584 : (Jvm.Cond.code ({ cls := "WellMoodsModel", name := "<init>", desc := "()V" } : Jvm.MethodName) prog_8_method_1_code (2 : Nat) (Option.none : Option Jvm.ClassFile.FieldType)) ∈ BIG := bmT (bt3 (List.mem_of_getElem? (i := 104) (by decide +kernel))) rfl
theorem bw_585 : (Jvm.Cond.methodLink "WellMoodsModel" (1 : Nat) ({ cls := "java/lang/Object", name := "<init>", desc := "()V" } : Jvm.MethodName)) ∈ BIG := bmT (bt3 (List.mem_of_getElem? (i := 105) (by decide +kernel))) rfl
theorem bw_586 : (Jvm.Cond.fieldLink "WellMoodsModel" (7 : Nat) "WellMoodsModel" "kinds" "[I") ∈ BIG := bmT (bt3 (List.mem_of_getElem? (i := 106) (by decide +kernel))) rfl
theorem bw_587 : (Jvm.Cond.fieldLink "WellMoodsModel" (13 : Nat) "WellMoodsModel" "feels" "[I") ∈ BIG := bmT (bt3 (List.mem_of_getElem? (i := 107) (by decide +kernel))) rfl
theorem bw_588 : (Jvm.Cond.fieldLink "WellMoodsModel" (16 : Nat) "WellMoodsModel" "rests" "[I") ∈ BIG := bmT (bt3 (List.mem_of_getElem? (i := 108) (by decide +kernel))) rfl
theorem bw_589 : (Jvm.Cond.fieldLink "WellMoodsModel" (19 : Nat) "WellMoodsModel" "quarrels" "[I") ∈ BIG := bmT (bt3 (List.mem_of_getElem? (i := 109) (by decide +kernel))) rfl
theorem bw_590 : (Jvm.Cond.fieldLink "WellMoodsModel" (22 : Nat) "WellMoodsModel" "free" "[I") ∈ BIG := bmT (bt3 (List.mem_of_getElem? (i := 110) (by decide +kernel))) rfl
theorem bw_591 : (Jvm.Cond.fieldLink "WellMoodsModel" (72 : Nat) "WellMoodsModel" "many" "I") ∈ BIG := bmT (bt3 (List.mem_of_getElem? (i := 111) (by decide +kernel))) rfl
theorem bw_592 : (Jvm.Cond.fieldLink "WellMoodsModel" (112 : Nat) "WellMoodsModel" "mood" "I") ∈ BIG := bmT (bt3 (List.mem_of_getElem? (i := 112) (by decide +kernel))) rfl
theorem bw_593 : (Jvm.Cond.fieldLink "WellMoodsModel" (25 : Nat) "WellMoodsModel" "level" "I") ∈ BIG := bmT (bt3 (List.mem_of_getElem? (i := 113) (by decide +kernel))) rfl
theorem bw_594 : (Jvm.Cond.fieldLink "WellMoodsModel" (29 : Nat) "WellMoodsModel" "rain" "I") ∈ BIG := bmT (bt3 (List.mem_of_getElem? (i := 114) (by decide +kernel))) rfl
theorem bw_595 : (Jvm.Cond.fieldLink "WellMoodsModel" (115 : Nat) "WellMoodsModel" "sweet" "I") ∈ BIG := bmT (bt3 (List.mem_of_getElem? (i := 115) (by decide +kernel))) rfl
theorem bw_596 : (Jvm.Cond.fieldLink "WellMoodsModel" (118 : Nat) "WellMoodsModel" "salt" "I") ∈ BIG := bmT (bt3 (List.mem_of_getElem? (i := 116) (by decide +kernel))) rfl
theorem bw_597 : (Jvm.Cond.fieldLink "WellMoodsModel" (98 : Nat) "WellMoodsModel" "hour" "I") ∈ BIG := bmT (bt3 (List.mem_of_getElem? (i := 117) (by decide +kernel))) rfl
theorem bw_598 : (Jvm.Cond.fieldLink "WellMoodsModel" (32 : Nat) "WellMoodsModel" "ahead" "I") ∈ BIG := bmT (bt3 (List.mem_of_getElem? (i := 118) (by decide +kernel))) rfl
theorem bw_599 : (Jvm.Cond.fieldLink "WellMoodsModel" (35 : Nat) "WellMoodsModel" "plan" "[I") ∈ BIG := bmT (bt3 (List.mem_of_getElem? (i := 119) (by decide +kernel))) rfl
theorem bw_600 : (Jvm.Cond.fieldLink "WellMoodsModel" (121 : Nat) "WellMoodsModel" "planMany" "I") ∈ BIG := bmT (bt3 (List.mem_of_getElem? (i := 120) (by decide +kernel))) rfl
theorem bw_601 : (Jvm.Cond.fieldLink "WellMoodsModel" (38 : Nat) "WellMoodsModel" "draws" "I") ∈ BIG := bmT (bt3 (List.mem_of_getElem? (i := 121) (by decide +kernel))) rfl
theorem bw_602 : (Jvm.Cond.fieldLink "WellMoodsModel" (41 : Nat) "WellMoodsModel" "tape" "[I") ∈ BIG := bmT (bt3 (List.mem_of_getElem? (i := 122) (by decide +kernel))) rfl
theorem bw_603 : (Jvm.Cond.fieldLink "WellMoodsModel" (132 : Nat) "WellMoodsModel" "taped" "I") ∈ BIG := bmT (bt3 (List.mem_of_getElem? (i := 123) (by decide +kernel))) rfl
theorem bw_604 : (Jvm.Cond.fieldLink "WellMoodsModel" (135 : Nat) "WellMoodsModel" "place" "I") ∈ BIG := bmT (bt3 (List.mem_of_getElem? (i := 124) (by decide +kernel))) rfl
theorem bw_605 : (Jvm.Cond.fieldLink "WellMoodsModel" (149 : Nat) "WellMoodsModel" "reads" "I") ∈ BIG := bmT (bt3 (List.mem_of_getElem? (i := 125) (by decide +kernel))) rfl
theorem bw_606 : (Jvm.Cond.fieldLink "WellMoodsModel" (44 : Nat) "WellMoodsModel" "read" "[I") ∈ BIG := bmT (bt3 (List.mem_of_getElem? (i := 126) (by decide +kernel))) rfl
theorem bw_607 : (Jvm.Cond.fieldLink "WellMoodsModel" (159 : Nat) "WellMoodsModel" "tryMood" "I") ∈ BIG := bmT (bt3 (List.mem_of_getElem? (i := 127) (by decide +kernel))) rfl
theorem bw_608 : (Jvm.Cond.fieldLink "WellMoodsModel" (162 : Nat) "WellMoodsModel" "tryLevel" "I") ∈ BIG := bmT (bt3 (List.mem_of_getElem? (i := 128) (by decide +kernel))) rfl
theorem bw_609 : (Jvm.Cond.fieldLink "WellMoodsModel" (165 : Nat) "WellMoodsModel" "tryHour" "I") ∈ BIG := bmT (bt3 (List.mem_of_getElem? (i := 129) (by decide +kernel))) rfl
theorem bw_610 : (Jvm.Cond.fieldLink "WellMoodsModel" (168 : Nat) "WellMoodsModel" "tryAhead" "I") ∈ BIG := bmT (bt3 (List.mem_of_getElem? (i := 130) (by decide +kernel))) rfl
theorem bw_611 : (Jvm.Cond.fieldLink "WellMoodsModel" (171 : Nat) "WellMoodsModel" "tryPails" "I") ∈ BIG := bmT (bt3 (List.mem_of_getElem? (i := 131) (by decide +kernel))) rfl
theorem bw_612 : (Jvm.Cond.fieldLink "WellMoodsModel" (174 : Nat) "WellMoodsModel" "trySweet" "Z") ∈ BIG := bmT (bt3 (List.mem_of_getElem? (i := 132) (by decide +kernel))) rfl
theorem bw_613 : (Jvm.Cond.fieldLink "WellMoodsModel" (47 : Nat) "WellMoodsModel" "tryFree" "[I") ∈ BIG := bmT (bt3 (List.mem_of_getElem? (i := 133) (by decide +kernel))) rfl
theorem bw_614 : (Jvm.Cond.fieldLink "WellMoodsModel" (50 : Nat) "WellMoodsModel" "row" "[I") ∈ BIG := bmT (bt3 (List.mem_of_getElem? (i := 134) (by decide +kernel))) rfl
theorem bw_615 : (Jvm.Cond.fieldLink "WellMoodsModel" (53 : Nat) "WellMoodsModel" "best" "[I") ∈ BIG := bmT (bt3 (List.mem_of_getElem? (i := 135) (by decide +kernel))) rfl
theorem bw_616 : (Jvm.Cond.fieldLink "WellMoodsModel" (236 : Nat) "WellMoodsModel" "isKept" "Z") ∈ BIG := bmT (bt3 (List.mem_of_getElem? (i := 136) (by decide +kernel))) rfl
theorem bw_617 : (Jvm.Cond.fieldLink "WellMoodsModel" (56 : Nat) "WellMoodsModel" "kept" "[I") ∈ BIG := bmT (bt3 (List.mem_of_getElem? (i := 137) (by decide +kernel))) rfl
theorem bw_618 : (Jvm.Cond.fieldLink "WellMoodsModel" (59 : Nat) "WellMoodsModel" "lanes" "[I") ∈ BIG := bmT (bt3 (List.mem_of_getElem? (i := 138) (by decide +kernel))) rfl
theorem bw_619 : (Jvm.Cond.fieldLink "WellMoodsModel" (62 : Nat) "WellMoodsModel" "rowSizes" "[I") ∈ BIG := bmT (bt3 (List.mem_of_getElem? (i := 139) (by decide +kernel))) rfl
theorem bw_620 : (Jvm.Cond.fieldLink "WellMoodsModel" (65 : Nat) "WellMoodsModel" "items" "[J") ∈ BIG := bmT (bt3 (List.mem_of_getElem? (i := 140) (by decide +kernel))) rfl
theorem bw_621 : (Jvm.Cond.fieldLink "WellMoodsModel" (69 : Nat) "WellMoodsModel" "moved" "[J") ∈ BIG := bmT (bt3 (List.mem_of_getElem? (i := 141) (by decide +kernel))) rfl
theorem bw_695 : (Jvm.Cond.methodLink "WellMoodsLaw" (17 : Nat) ({ cls := "WellMoodsModel", name := "folk", desc := "(III)I" } : Jvm.MethodName)) ∈ BIG := bmT (bt3 (List.mem_of_getElem? (i := 215) (by decide +kernel))) rfl
theorem bw_696 : (Jvm.Cond.instanceMethod ({ cls := "WellMoodsModel", name := "folk", desc := "(III)I" } : Jvm.MethodName)) ∈ BIG := bmT (bt3 (List.mem_of_getElem? (i := 216) (by decide +kernel))) rfl
theorem bw_697 : (Jvm.Cond.selects "WellMoodsModel" ({ cls := "WellMoodsModel", name := "folk", desc := "(III)I" } : Jvm.MethodName) ({ cls := "WellMoodsModel", name := "folk", desc := "(III)I" } : Jvm.MethodName)) ∈ BIG := bmT (bt3 (List.mem_of_getElem? (i := 217) (by decide +kernel))) rfl
theorem bw_698 : (Jvm.Cond.code ({ cls := "WellMoodsModel", name := "folk", desc := "(III)I" } : Jvm.MethodName) prog_8_method_7_code (4 : Nat) (Option.some Jvm.ClassFile.FieldType.int)) ∈ BIG := bmT (bt3 (List.mem_of_getElem? (i := 218) (by decide +kernel))) rfl
theorem bw_699 : (Jvm.Cond.constantLong "WellMoodsModel" (83 : Nat) (3 : Int64)) ∈ BIG := bmT (bt3 (List.mem_of_getElem? (i := 219) (by decide +kernel))) rfl
theorem bw_700 : (Jvm.Cond.methodLink "WellMoodsModel" (75 : Nat) ({ cls := "WellMoodsModel", name := "in", desc := "(JJJ)Z" } : Jvm.MethodName)) ∈ BIG := bmT (bt3 (List.mem_of_getElem? (i := 220) (by decide +kernel))) rfl
theorem bw_701 : (Jvm.Cond.static ({ cls := "WellMoodsModel", name := "in", desc := "(JJJ)Z" } : Jvm.MethodName)) ∈ BIG := bmT (bt3 (List.mem_of_getElem? (i := 221) (by decide +kernel))) rfl
theorem bw_702 : (Jvm.Cond.code ({ cls := "WellMoodsModel", name := "in", desc := "(JJJ)Z" } : Jvm.MethodName) prog_8_method_2_code (6 : Nat) (Option.some Jvm.ClassFile.FieldType.boolean)) ∈ BIG := bmT (bt3 (List.mem_of_getElem? (i := 222) (by decide +kernel))) rfl
theorem bw_703 : (Jvm.Cond.constantLong "WellMoodsModel" (85 : Nat) (-3 : Int64)) ∈ BIG := bmT (bt3 (List.mem_of_getElem? (i := 223) (by decide +kernel))) rfl
theorem bw_704 : (Jvm.Cond.constantLong "WellMoodsModel" (81 : Nat) (9 : Int64)) ∈ BIG := bmT (bt3 (List.mem_of_getElem? (i := 224) (by decide +kernel))) rfl
theorem bw_705 : (Jvm.Cond.methodLink "WellMoodsModel" (87 : Nat) ({ cls := "WellMoodsModel", name := "add", desc := "(III)V" } : Jvm.MethodName)) ∈ BIG := bmT (bt3 (List.mem_of_getElem? (i := 225) (by decide +kernel))) rfl
theorem bw_707 : (Jvm.Cond.instanceMethod ({ cls := "WellMoodsModel", name := "add", desc := "(III)V" } : Jvm.MethodName)) ∈ BIG := bmT (bt3 (List.mem_of_getElem? (i := 227) (by decide +kernel))) rfl
theorem bw_708 : (Jvm.Cond.code ({ cls := "WellMoodsModel", name := "add", desc := "(III)V" } : Jvm.MethodName) prog_8_method_6_code (4 : Nat) (Option.none : Option Jvm.ClassFile.FieldType)) ∈ BIG := bmT (bt3 (List.mem_of_getElem? (i := 228) (by decide +kernel))) rfl
theorem bw_709 : (Jvm.Cond.methodLink "WellMoodsLaw" (22 : Nat) ({ cls := "WellMoodsModel", name := "told", desc := "(II)I" } : Jvm.MethodName)) ∈ BIG := bmT (bt3 (List.mem_of_getElem? (i := 229) (by decide +kernel))) rfl
theorem bw_710 : (Jvm.Cond.instanceMethod ({ cls := "WellMoodsModel", name := "told", desc := "(II)I" } : Jvm.MethodName)) ∈ BIG := bmT (bt3 (List.mem_of_getElem? (i := 230) (by decide +kernel))) rfl
theorem bw_711 : (Jvm.Cond.selects "WellMoodsModel" ({ cls := "WellMoodsModel", name := "told", desc := "(II)I" } : Jvm.MethodName) ({ cls := "WellMoodsModel", name := "told", desc := "(II)I" } : Jvm.MethodName)) ∈ BIG := bmT (bt3 (List.mem_of_getElem? (i := 231) (by decide +kernel))) rfl
theorem bw_712 : (Jvm.Cond.code ({ cls := "WellMoodsModel", name := "told", desc := "(II)I" } : Jvm.MethodName) prog_8_method_8_code (4 : Nat) (Option.some Jvm.ClassFile.FieldType.int)) ∈ BIG := bmT (bt3 (List.mem_of_getElem? (i := 232) (by decide +kernel))) rfl
theorem bw_713 : (Jvm.Cond.methodLink "WellMoodsModel" (91 : Nat) ({ cls := "WellMoodsModel", name := "isOne", desc := "(I)Z" } : Jvm.MethodName)) ∈ BIG := bmT (bt3 (List.mem_of_getElem? (i := 233) (by decide +kernel))) rfl
theorem bw_715 : (Jvm.Cond.instanceMethod ({ cls := "WellMoodsModel", name := "isOne", desc := "(I)Z" } : Jvm.MethodName)) ∈ BIG := bmT (bt3 (List.mem_of_getElem? (i := 235) (by decide +kernel))) rfl
theorem bw_716 : (Jvm.Cond.code ({ cls := "WellMoodsModel", name := "isOne", desc := "(I)Z" } : Jvm.MethodName) prog_8_method_4_code (2 : Nat) (Option.some Jvm.ClassFile.FieldType.boolean)) ∈ BIG := bmT (bt3 (List.mem_of_getElem? (i := 236) (by decide +kernel))) rfl
theorem bw_717 : (Jvm.Cond.constantLong "WellMoodsModel" (95 : Nat) (4 : Int64)) ∈ BIG := bmT (bt3 (List.mem_of_getElem? (i := 237) (by decide +kernel))) rfl
theorem bw_718 : (Jvm.Cond.constant "WellMoodsModel" (97 : Nat) (-100001 : Int32)) ∈ BIG := bmT (bt3 (List.mem_of_getElem? (i := 238) (by decide +kernel))) rfl
theorem bw_719 : (Jvm.Cond.methodLink "WellMoodsLaw" (27 : Nat) ({ cls := "WellMoodsModel", name := "quarrel", desc := "(IIZ)I" } : Jvm.MethodName)) ∈ BIG := bmT (bt3 (List.mem_of_getElem? (i := 239) (by decide +kernel))) rfl
theorem bw_720 : (Jvm.Cond.instanceMethod ({ cls := "WellMoodsModel", name := "quarrel", desc := "(IIZ)I" } : Jvm.MethodName)) ∈ BIG := bmT (bt4 (List.mem_of_getElem? (i := 0) (by decide +kernel))) rfl
theorem bw_721 : (Jvm.Cond.selects "WellMoodsModel" ({ cls := "WellMoodsModel", name := "quarrel", desc := "(IIZ)I" } : Jvm.MethodName) ({ cls := "WellMoodsModel", name := "quarrel", desc := "(IIZ)I" } : Jvm.MethodName)) ∈ BIG := bmT (bt4 (List.mem_of_getElem? (i := 1) (by decide +kernel))) rfl
theorem bw_722 : (Jvm.Cond.code ({ cls := "WellMoodsModel", name := "quarrel", desc := "(IIZ)I" } : Jvm.MethodName) prog_8_method_10_code (5 : Nat) (Option.some Jvm.ClassFile.FieldType.int)) ∈ BIG := bmT (bt4 (List.mem_of_getElem? (i := 2) (by decide +kernel))) rfl
theorem bw_723 : (Jvm.Cond.methodLink "WellMoodsModel" (101 : Nat) ({ cls := "WellMoodsModel", name := "setQuarrel", desc := "(IIZ)V" } : Jvm.MethodName)) ∈ BIG := bmT (bt4 (List.mem_of_getElem? (i := 3) (by decide +kernel))) rfl
theorem bw_725 : (Jvm.Cond.instanceMethod ({ cls := "WellMoodsModel", name := "setQuarrel", desc := "(IIZ)V" } : Jvm.MethodName)) ∈ BIG := bmT (bt4 (List.mem_of_getElem? (i := 5) (by decide +kernel))) rfl
theorem bw_726 : (Jvm.Cond.code ({ cls := "WellMoodsModel", name := "setQuarrel", desc := "(IIZ)V" } : Jvm.MethodName) prog_8_method_9_code (4 : Nat) (Option.none : Option Jvm.ClassFile.FieldType)) ∈ BIG := bmT (bt4 (List.mem_of_getElem? (i := 6) (by decide +kernel))) rfl
theorem bw_727 : (Jvm.Cond.methodLink "WellMoodsLaw" (31 : Nat) ({ cls := "WellMoodsModel", name := "set", desc := "(II)I" } : Jvm.MethodName)) ∈ BIG := bmT (bt4 (List.mem_of_getElem? (i := 7) (by decide +kernel))) rfl
theorem bw_728 : (Jvm.Cond.instanceMethod ({ cls := "WellMoodsModel", name := "set", desc := "(II)I" } : Jvm.MethodName)) ∈ BIG := bmT (bt4 (List.mem_of_getElem? (i := 8) (by decide +kernel))) rfl
theorem bw_729 : (Jvm.Cond.selects "WellMoodsModel" ({ cls := "WellMoodsModel", name := "set", desc := "(II)I" } : Jvm.MethodName) ({ cls := "WellMoodsModel", name := "set", desc := "(II)I" } : Jvm.MethodName)) ∈ BIG := bmT (bt4 (List.mem_of_getElem? (i := 9) (by decide +kernel))) rfl
theorem bw_730 : (Jvm.Cond.code ({ cls := "WellMoodsModel", name := "set", desc := "(II)I" } : Jvm.MethodName) prog_8_method_11_code (4 : Nat) (Option.some Jvm.ClassFile.FieldType.int)) ∈ BIG := bmT (bt4 (List.mem_of_getElem? (i := 10) (by decide +kernel))) rfl
theorem bw_731 : (Jvm.Cond.constantLong "WellMoodsModel" (105 : Nat) (2 : Int64)) ∈ BIG := bmT (bt4 (List.mem_of_getElem? (i := 11) (by decide +kernel))) rfl
theorem bw_732 : (Jvm.Cond.methodLink "WellMoodsModel" (107 : Nat) ({ cls := "WellMoodsModel", name := "isMood", desc := "(I)Z" } : Jvm.MethodName)) ∈ BIG := bmT (bt4 (List.mem_of_getElem? (i := 12) (by decide +kernel))) rfl
theorem bw_733 : (Jvm.Cond.static ({ cls := "WellMoodsModel", name := "isMood", desc := "(I)Z" } : Jvm.MethodName)) ∈ BIG := bmT (bt4 (List.mem_of_getElem? (i := 13) (by decide +kernel))) rfl
theorem bw_734 : (Jvm.Cond.code ({ cls := "WellMoodsModel", name := "isMood", desc := "(I)Z" } : Jvm.MethodName) prog_8_method_5_code (1 : Nat) (Option.some Jvm.ClassFile.FieldType.boolean)) ∈ BIG := bmT (bt4 (List.mem_of_getElem? (i := 14) (by decide +kernel))) rfl
theorem bw_735 : (Jvm.Cond.constantLong "WellMoodsModel" (79 : Nat) (-9 : Int64)) ∈ BIG := bmT (bt4 (List.mem_of_getElem? (i := 15) (by decide +kernel))) rfl
theorem bw_736 : (Jvm.Cond.constantLong "WellMoodsModel" (110 : Nat) (999 : Int64)) ∈ BIG := bmT (bt4 (List.mem_of_getElem? (i := 16) (by decide +kernel))) rfl
theorem bw_737 : (Jvm.Cond.methodLink "WellMoodsLaw" (36 : Nat) ({ cls := "WellMoodsModel", name := "is", desc := "(I)I" } : Jvm.MethodName)) ∈ BIG := bmT (bt4 (List.mem_of_getElem? (i := 17) (by decide +kernel))) rfl
theorem bw_738 : (Jvm.Cond.instanceMethod ({ cls := "WellMoodsModel", name := "is", desc := "(I)I" } : Jvm.MethodName)) ∈ BIG := bmT (bt4 (List.mem_of_getElem? (i := 18) (by decide +kernel))) rfl
theorem bw_739 : (Jvm.Cond.selects "WellMoodsModel" ({ cls := "WellMoodsModel", name := "is", desc := "(I)I" } : Jvm.MethodName) ({ cls := "WellMoodsModel", name := "is", desc := "(I)I" } : Jvm.MethodName)) ∈ BIG := bmT (bt4 (List.mem_of_getElem? (i := 19) (by decide +kernel))) rfl
theorem bw_740 : (Jvm.Cond.code ({ cls := "WellMoodsModel", name := "is", desc := "(I)I" } : Jvm.MethodName) prog_8_method_12_code (2 : Nat) (Option.some Jvm.ClassFile.FieldType.int)) ∈ BIG := bmT (bt4 (List.mem_of_getElem? (i := 20) (by decide +kernel))) rfl
theorem bw_741 : (Jvm.Cond.methodLink "WellMoodsLaw" (43 : Nat) ({ cls := "WellMoodsModel", name := "type", desc := "(JI)I" } : Jvm.MethodName)) ∈ BIG := bmT (bt4 (List.mem_of_getElem? (i := 21) (by decide +kernel))) rfl
theorem bw_742 : (Jvm.Cond.instanceMethod ({ cls := "WellMoodsModel", name := "type", desc := "(JI)I" } : Jvm.MethodName)) ∈ BIG := bmT (bt4 (List.mem_of_getElem? (i := 22) (by decide +kernel))) rfl
theorem bw_743 : (Jvm.Cond.selects "WellMoodsModel" ({ cls := "WellMoodsModel", name := "type", desc := "(JI)I" } : Jvm.MethodName) ({ cls := "WellMoodsModel", name := "type", desc := "(JI)I" } : Jvm.MethodName)) ∈ BIG := bmT (bt4 (List.mem_of_getElem? (i := 23) (by decide +kernel))) rfl
theorem bw_744 : (Jvm.Cond.code ({ cls := "WellMoodsModel", name := "type", desc := "(JI)I" } : Jvm.MethodName) prog_8_method_13_code (5 : Nat) (Option.some Jvm.ClassFile.FieldType.int)) ∈ BIG := bmT (bt4 (List.mem_of_getElem? (i := 24) (by decide +kernel))) rfl
theorem bw_745 : (Jvm.Cond.constantLong "WellMoodsModel" (124 : Nat) (8 : Int64)) ∈ BIG := bmT (bt4 (List.mem_of_getElem? (i := 25) (by decide +kernel))) rfl
theorem bw_746 : (Jvm.Cond.constantLong "WellMoodsModel" (126 : Nat) (255 : Int64)) ∈ BIG := bmT (bt4 (List.mem_of_getElem? (i := 26) (by decide +kernel))) rfl
theorem bw_747 : (Jvm.Cond.constantLong "WellMoodsModel" (128 : Nat) (32 : Int64)) ∈ BIG := bmT (bt4 (List.mem_of_getElem? (i := 27) (by decide +kernel))) rfl
theorem bw_748 : (Jvm.Cond.constantLong "WellMoodsModel" (130 : Nat) (126 : Int64)) ∈ BIG := bmT (bt4 (List.mem_of_getElem? (i := 28) (by decide +kernel))) rfl
theorem bw_749 : (Jvm.Cond.methodLink "WellMoodsLaw" (48 : Nat) ({ cls := "WellMoodsModel", name := "village", desc := "()I" } : Jvm.MethodName)) ∈ BIG := bmT (bt4 (List.mem_of_getElem? (i := 29) (by decide +kernel))) rfl
theorem bw_750 : (Jvm.Cond.instanceMethod ({ cls := "WellMoodsModel", name := "village", desc := "()I" } : Jvm.MethodName)) ∈ BIG := bmT (bt4 (List.mem_of_getElem? (i := 30) (by decide +kernel))) rfl
theorem bw_751 : (Jvm.Cond.selects "WellMoodsModel" ({ cls := "WellMoodsModel", name := "village", desc := "()I" } : Jvm.MethodName) ({ cls := "WellMoodsModel", name := "village", desc := "()I" } : Jvm.MethodName)) ∈ BIG := bmT (bt4 (List.mem_of_getElem? (i := 31) (by decide +kernel))) rfl
theorem bw_752 : (Jvm.Cond.code ({ cls := "WellMoodsModel", name := "village", desc := "()I" } : Jvm.MethodName) prog_8_method_18_code (3 : Nat) (Option.some Jvm.ClassFile.FieldType.int)) ∈ BIG := bmT (bt4 (List.mem_of_getElem? (i := 32) (by decide +kernel))) rfl
theorem bw_753 : (Jvm.Cond.methodLink "WellMoodsModel" (152 : Nat) ({ cls := "WellMoodsModel", name := "readVillage", desc := "()Z" } : Jvm.MethodName)) ∈ BIG := bmT (bt4 (List.mem_of_getElem? (i := 33) (by decide +kernel))) rfl
theorem bw_755 : (Jvm.Cond.instanceMethod ({ cls := "WellMoodsModel", name := "readVillage", desc := "()Z" } : Jvm.MethodName)) ∈ BIG := bmT (bt4 (List.mem_of_getElem? (i := 35) (by decide +kernel))) rfl
theorem bw_756 : (Jvm.Cond.code ({ cls := "WellMoodsModel", name := "readVillage", desc := "()Z" } : Jvm.MethodName) prog_8_method_17_code (3 : Nat) (Option.some Jvm.ClassFile.FieldType.boolean)) ∈ BIG := bmT (bt4 (List.mem_of_getElem? (i := 36) (by decide +kernel))) rfl
theorem bw_757 : (Jvm.Cond.methodLink "WellMoodsModel" (146 : Nat) ({ cls := "WellMoodsModel", name := "readOne", desc := "(I)Z" } : Jvm.MethodName)) ∈ BIG := bmT (bt4 (List.mem_of_getElem? (i := 37) (by decide +kernel))) rfl
theorem bw_759 : (Jvm.Cond.instanceMethod ({ cls := "WellMoodsModel", name := "readOne", desc := "(I)Z" } : Jvm.MethodName)) ∈ BIG := bmT (bt4 (List.mem_of_getElem? (i := 39) (by decide +kernel))) rfl
theorem bw_760 : (Jvm.Cond.code ({ cls := "WellMoodsModel", name := "readOne", desc := "(I)Z" } : Jvm.MethodName) prog_8_method_16_code (5 : Nat) (Option.some Jvm.ClassFile.FieldType.boolean)) ∈ BIG := bmT (bt4 (List.mem_of_getElem? (i := 40) (by decide +kernel))) rfl
theorem bw_761 : (Jvm.Cond.methodLink "WellMoodsModel" (138 : Nat) ({ cls := "WellMoodsModel", name := "nextByte", desc := "()I" } : Jvm.MethodName)) ∈ BIG := bmT (bt4 (List.mem_of_getElem? (i := 41) (by decide +kernel))) rfl
theorem bw_763 : (Jvm.Cond.instanceMethod ({ cls := "WellMoodsModel", name := "nextByte", desc := "()I" } : Jvm.MethodName)) ∈ BIG := bmT (bt4 (List.mem_of_getElem? (i := 43) (by decide +kernel))) rfl
theorem bw_764 : (Jvm.Cond.code ({ cls := "WellMoodsModel", name := "nextByte", desc := "()I" } : Jvm.MethodName) prog_8_method_14_code (1 : Nat) (Option.some Jvm.ClassFile.FieldType.int)) ∈ BIG := bmT (bt4 (List.mem_of_getElem? (i := 44) (by decide +kernel))) rfl
theorem bw_765 : (Jvm.Cond.methodLink "WellMoodsModel" (142 : Nat) ({ cls := "WellMoodsModel", name := "readDigit", desc := "(II)I" } : Jvm.MethodName)) ∈ BIG := bmT (bt4 (List.mem_of_getElem? (i := 45) (by decide +kernel))) rfl
theorem bw_767 : (Jvm.Cond.instanceMethod ({ cls := "WellMoodsModel", name := "readDigit", desc := "(II)I" } : Jvm.MethodName)) ∈ BIG := bmT (bt4 (List.mem_of_getElem? (i := 47) (by decide +kernel))) rfl
theorem bw_768 : (Jvm.Cond.code ({ cls := "WellMoodsModel", name := "readDigit", desc := "(II)I" } : Jvm.MethodName) prog_8_method_15_code (4 : Nat) (Option.some Jvm.ClassFile.FieldType.int)) ∈ BIG := bmT (bt4 (List.mem_of_getElem? (i := 48) (by decide +kernel))) rfl
theorem bw_769 : (Jvm.Cond.methodLink "WellMoodsLaw" (52 : Nat) ({ cls := "WellMoodsModel", name := "plan", desc := "()I" } : Jvm.MethodName)) ∈ BIG := bmT (bt4 (List.mem_of_getElem? (i := 49) (by decide +kernel))) rfl
theorem bw_770 : (Jvm.Cond.instanceMethod ({ cls := "WellMoodsModel", name := "plan", desc := "()I" } : Jvm.MethodName)) ∈ BIG := bmT (bt4 (List.mem_of_getElem? (i := 50) (by decide +kernel))) rfl
theorem bw_771 : (Jvm.Cond.selects "WellMoodsModel" ({ cls := "WellMoodsModel", name := "plan", desc := "()I" } : Jvm.MethodName) ({ cls := "WellMoodsModel", name := "plan", desc := "()I" } : Jvm.MethodName)) ∈ BIG := bmT (bt4 (List.mem_of_getElem? (i := 51) (by decide +kernel))) rfl
theorem bw_772 : (Jvm.Cond.code ({ cls := "WellMoodsModel", name := "plan", desc := "()I" } : Jvm.MethodName) prog_8_method_20_code (3 : Nat) (Option.some Jvm.ClassFile.FieldType.int)) ∈ BIG := bmT (bt4 (List.mem_of_getElem? (i := 52) (by decide +kernel))) rfl
theorem bw_773 : (Jvm.Cond.methodLink "WellMoodsModel" (156 : Nat) ({ cls := "WellMoodsModel", name := "readPlan", desc := "()Z" } : Jvm.MethodName)) ∈ BIG := bmT (bt4 (List.mem_of_getElem? (i := 53) (by decide +kernel))) rfl
theorem bw_775 : (Jvm.Cond.instanceMethod ({ cls := "WellMoodsModel", name := "readPlan", desc := "()Z" } : Jvm.MethodName)) ∈ BIG := bmT (bt4 (List.mem_of_getElem? (i := 55) (by decide +kernel))) rfl
theorem bw_776 : (Jvm.Cond.code ({ cls := "WellMoodsModel", name := "readPlan", desc := "()Z" } : Jvm.MethodName) prog_8_method_19_code (2 : Nat) (Option.some Jvm.ClassFile.FieldType.boolean)) ∈ BIG := bmT (bt4 (List.mem_of_getElem? (i := 56) (by decide +kernel))) rfl
theorem bw_777 : (Jvm.Cond.methodLink "WellMoodsLaw" (56 : Nat) ({ cls := "WellMoodsModel", name := "may", desc := "()I" } : Jvm.MethodName)) ∈ BIG := bmT (bt4 (List.mem_of_getElem? (i := 57) (by decide +kernel))) rfl
theorem bw_778 : (Jvm.Cond.instanceMethod ({ cls := "WellMoodsModel", name := "may", desc := "()I" } : Jvm.MethodName)) ∈ BIG := bmT (bt4 (List.mem_of_getElem? (i := 58) (by decide +kernel))) rfl
theorem bw_779 : (Jvm.Cond.selects "WellMoodsModel" ({ cls := "WellMoodsModel", name := "may", desc := "()I" } : Jvm.MethodName) ({ cls := "WellMoodsModel", name := "may", desc := "()I" } : Jvm.MethodName)) ∈ BIG := bmT (bt4 (List.mem_of_getElem? (i := 59) (by decide +kernel))) rfl
theorem bw_780 : (Jvm.Cond.code ({ cls := "WellMoodsModel", name := "may", desc := "()I" } : Jvm.MethodName) prog_8_method_30_code (3 : Nat) (Option.some Jvm.ClassFile.FieldType.int)) ∈ BIG := bmT (bt4 (List.mem_of_getElem? (i := 60) (by decide +kernel))) rfl
theorem bw_781 : (Jvm.Cond.methodLink "WellMoodsLaw" (60 : Nat) ({ cls := "WellMoodsModel", name := "draw", desc := "(I)I" } : Jvm.MethodName)) ∈ BIG := bmT (bt4 (List.mem_of_getElem? (i := 61) (by decide +kernel))) rfl
theorem bw_782 : (Jvm.Cond.instanceMethod ({ cls := "WellMoodsModel", name := "draw", desc := "(I)I" } : Jvm.MethodName)) ∈ BIG := bmT (bt4 (List.mem_of_getElem? (i := 62) (by decide +kernel))) rfl
theorem bw_783 : (Jvm.Cond.selects "WellMoodsModel" ({ cls := "WellMoodsModel", name := "draw", desc := "(I)I" } : Jvm.MethodName) ({ cls := "WellMoodsModel", name := "draw", desc := "(I)I" } : Jvm.MethodName)) ∈ BIG := bmT (bt4 (List.mem_of_getElem? (i := 63) (by decide +kernel))) rfl
theorem bw_784 : (Jvm.Cond.code ({ cls := "WellMoodsModel", name := "draw", desc := "(I)I" } : Jvm.MethodName) prog_8_method_31_code (2 : Nat) (Option.some Jvm.ClassFile.FieldType.int)) ∈ BIG := bmT (bt4 (List.mem_of_getElem? (i := 64) (by decide +kernel))) rfl
theorem bw_785 : (Jvm.Cond.methodLink "WellMoodsModel" (207 : Nat) ({ cls := "WellMoodsModel", name := "goOn", desc := "(I)I" } : Jvm.MethodName)) ∈ BIG := bmT (bt4 (List.mem_of_getElem? (i := 65) (by decide +kernel))) rfl
theorem bw_787 : (Jvm.Cond.instanceMethod ({ cls := "WellMoodsModel", name := "goOn", desc := "(I)I" } : Jvm.MethodName)) ∈ BIG := bmT (bt4 (List.mem_of_getElem? (i := 67) (by decide +kernel))) rfl
theorem bw_788 : (Jvm.Cond.code ({ cls := "WellMoodsModel", name := "goOn", desc := "(I)I" } : Jvm.MethodName) prog_8_method_29_code (2 : Nat) (Option.some Jvm.ClassFile.FieldType.int)) ∈ BIG := bmT (bt4 (List.mem_of_getElem? (i := 68) (by decide +kernel))) rfl
theorem bw_789 : (Jvm.Cond.methodLink "WellMoodsModel" (198 : Nat) ({ cls := "WellMoodsModel", name := "begin", desc := "()V" } : Jvm.MethodName)) ∈ BIG := bmT (bt4 (List.mem_of_getElem? (i := 69) (by decide +kernel))) rfl
theorem bw_791 : (Jvm.Cond.instanceMethod ({ cls := "WellMoodsModel", name := "begin", desc := "()V" } : Jvm.MethodName)) ∈ BIG := bmT (bt4 (List.mem_of_getElem? (i := 71) (by decide +kernel))) rfl
theorem bw_792 : (Jvm.Cond.code ({ cls := "WellMoodsModel", name := "begin", desc := "()V" } : Jvm.MethodName) prog_8_method_26_code (2 : Nat) (Option.none : Option Jvm.ClassFile.FieldType)) ∈ BIG := bmT (bt4 (List.mem_of_getElem? (i := 72) (by decide +kernel))) rfl
theorem bw_793 : (Jvm.Cond.methodLink "WellMoodsModel" (201 : Nat) ({ cls := "WellMoodsModel", name := "tryOne", desc := "(I)Z" } : Jvm.MethodName)) ∈ BIG := bmT (bt4 (List.mem_of_getElem? (i := 73) (by decide +kernel))) rfl
theorem bw_795 : (Jvm.Cond.instanceMethod ({ cls := "WellMoodsModel", name := "tryOne", desc := "(I)Z" } : Jvm.MethodName)) ∈ BIG := bmT (bt4 (List.mem_of_getElem? (i := 75) (by decide +kernel))) rfl
theorem bw_796 : (Jvm.Cond.code ({ cls := "WellMoodsModel", name := "tryOne", desc := "(I)Z" } : Jvm.MethodName) prog_8_method_27_code (4 : Nat) (Option.some Jvm.ClassFile.FieldType.boolean)) ∈ BIG := bmT (bt4 (List.mem_of_getElem? (i := 76) (by decide +kernel))) rfl
theorem bw_797 : (Jvm.Cond.methodLink "WellMoodsModel" (178 : Nat) ({ cls := "WellMoodsModel", name := "has", desc := "(II)Z" } : Jvm.MethodName)) ∈ BIG := bmT (bt4 (List.mem_of_getElem? (i := 77) (by decide +kernel))) rfl
theorem bw_798 : (Jvm.Cond.static ({ cls := "WellMoodsModel", name := "has", desc := "(II)Z" } : Jvm.MethodName)) ∈ BIG := bmT (bt4 (List.mem_of_getElem? (i := 78) (by decide +kernel))) rfl
theorem bw_799 : (Jvm.Cond.code ({ cls := "WellMoodsModel", name := "has", desc := "(II)Z" } : Jvm.MethodName) prog_8_method_3_code (2 : Nat) (Option.some Jvm.ClassFile.FieldType.boolean)) ∈ BIG := bmT (bt4 (List.mem_of_getElem? (i := 79) (by decide +kernel))) rfl
theorem bw_800 : (Jvm.Cond.methodLink "WellMoodsModel" (182 : Nat) ({ cls := "WellMoodsModel", name := "pailsOf", desc := "(II)I" } : Jvm.MethodName)) ∈ BIG := bmT (bt4 (List.mem_of_getElem? (i := 80) (by decide +kernel))) rfl
theorem bw_801 : (Jvm.Cond.static ({ cls := "WellMoodsModel", name := "pailsOf", desc := "(II)I" } : Jvm.MethodName)) ∈ BIG := bmT (bt4 (List.mem_of_getElem? (i := 81) (by decide +kernel))) rfl
theorem bw_802 : (Jvm.Cond.code ({ cls := "WellMoodsModel", name := "pailsOf", desc := "(II)I" } : Jvm.MethodName) prog_8_method_21_code (3 : Nat) (Option.some Jvm.ClassFile.FieldType.int)) ∈ BIG := bmT (bt4 (List.mem_of_getElem? (i := 82) (by decide +kernel))) rfl
theorem bw_803 : (Jvm.Cond.methodLink "WellMoodsModel" (185 : Nat) ({ cls := "WellMoodsModel", name := "isSweet", desc := "(II)Z" } : Jvm.MethodName)) ∈ BIG := bmT (bt4 (List.mem_of_getElem? (i := 83) (by decide +kernel))) rfl
theorem bw_804 : (Jvm.Cond.static ({ cls := "WellMoodsModel", name := "isSweet", desc := "(II)Z" } : Jvm.MethodName)) ∈ BIG := bmT (bt4 (List.mem_of_getElem? (i := 84) (by decide +kernel))) rfl
theorem bw_805 : (Jvm.Cond.code ({ cls := "WellMoodsModel", name := "isSweet", desc := "(II)Z" } : Jvm.MethodName) prog_8_method_22_code (2 : Nat) (Option.some Jvm.ClassFile.FieldType.boolean)) ∈ BIG := bmT (bt4 (List.mem_of_getElem? (i := 85) (by decide +kernel))) rfl
theorem bw_806 : (Jvm.Cond.methodLink "WellMoodsModel" (188 : Nat) ({ cls := "WellMoodsModel", name := "feltBy", desc := "(I)I" } : Jvm.MethodName)) ∈ BIG := bmT (bt4 (List.mem_of_getElem? (i := 86) (by decide +kernel))) rfl
theorem bw_808 : (Jvm.Cond.instanceMethod ({ cls := "WellMoodsModel", name := "feltBy", desc := "(I)I" } : Jvm.MethodName)) ∈ BIG := bmT (bt4 (List.mem_of_getElem? (i := 88) (by decide +kernel))) rfl
theorem bw_809 : (Jvm.Cond.code ({ cls := "WellMoodsModel", name := "feltBy", desc := "(I)I" } : Jvm.MethodName) prog_8_method_25_code (2 : Nat) (Option.some Jvm.ClassFile.FieldType.int)) ∈ BIG := bmT (bt4 (List.mem_of_getElem? (i := 89) (by decide +kernel))) rfl
theorem bw_810 : (Jvm.Cond.methodLink "WellMoodsModel" (192 : Nat) ({ cls := "WellMoodsModel", name := "most9", desc := "(I)I" } : Jvm.MethodName)) ∈ BIG := bmT (bt4 (List.mem_of_getElem? (i := 90) (by decide +kernel))) rfl
theorem bw_811 : (Jvm.Cond.static ({ cls := "WellMoodsModel", name := "most9", desc := "(I)I" } : Jvm.MethodName)) ∈ BIG := bmT (bt4 (List.mem_of_getElem? (i := 91) (by decide +kernel))) rfl
theorem bw_812 : (Jvm.Cond.code ({ cls := "WellMoodsModel", name := "most9", desc := "(I)I" } : Jvm.MethodName) prog_8_method_23_code (1 : Nat) (Option.some Jvm.ClassFile.FieldType.int)) ∈ BIG := bmT (bt4 (List.mem_of_getElem? (i := 92) (by decide +kernel))) rfl
theorem bw_813 : (Jvm.Cond.methodLink "WellMoodsModel" (195 : Nat) ({ cls := "WellMoodsModel", name := "wane", desc := "(I)I" } : Jvm.MethodName)) ∈ BIG := bmT (bt4 (List.mem_of_getElem? (i := 93) (by decide +kernel))) rfl
theorem bw_814 : (Jvm.Cond.static ({ cls := "WellMoodsModel", name := "wane", desc := "(I)I" } : Jvm.MethodName)) ∈ BIG := bmT (bt4 (List.mem_of_getElem? (i := 94) (by decide +kernel))) rfl
theorem bw_815 : (Jvm.Cond.code ({ cls := "WellMoodsModel", name := "wane", desc := "(I)I" } : Jvm.MethodName) prog_8_method_24_code (1 : Nat) (Option.some Jvm.ClassFile.FieldType.int)) ∈ BIG := bmT (bt4 (List.mem_of_getElem? (i := 95) (by decide +kernel))) rfl
theorem bw_816 : (Jvm.Cond.methodLink "WellMoodsModel" (204 : Nat) ({ cls := "WellMoodsModel", name := "keep", desc := "()V" } : Jvm.MethodName)) ∈ BIG := bmT (bt4 (List.mem_of_getElem? (i := 96) (by decide +kernel))) rfl
theorem bw_818 : (Jvm.Cond.instanceMethod ({ cls := "WellMoodsModel", name := "keep", desc := "()V" } : Jvm.MethodName)) ∈ BIG := bmT (bt4 (List.mem_of_getElem? (i := 98) (by decide +kernel))) rfl
theorem bw_819 : (Jvm.Cond.code ({ cls := "WellMoodsModel", name := "keep", desc := "()V" } : Jvm.MethodName) prog_8_method_28_code (2 : Nat) (Option.none : Option Jvm.ClassFile.FieldType)) ∈ BIG := bmT (bt4 (List.mem_of_getElem? (i := 99) (by decide +kernel))) rfl
theorem bw_820 : (Jvm.Cond.methodLink "WellMoodsLaw" (64 : Nat) ({ cls := "WellMoodsModel", name := "pass", desc := "(I)I" } : Jvm.MethodName)) ∈ BIG := bmT (bt4 (List.mem_of_getElem? (i := 100) (by decide +kernel))) rfl
theorem bw_821 : (Jvm.Cond.instanceMethod ({ cls := "WellMoodsModel", name := "pass", desc := "(I)I" } : Jvm.MethodName)) ∈ BIG := bmT (bt4 (List.mem_of_getElem? (i := 101) (by decide +kernel))) rfl
theorem bw_822 : (Jvm.Cond.selects "WellMoodsModel" ({ cls := "WellMoodsModel", name := "pass", desc := "(I)I" } : Jvm.MethodName) ({ cls := "WellMoodsModel", name := "pass", desc := "(I)I" } : Jvm.MethodName)) ∈ BIG := bmT (bt4 (List.mem_of_getElem? (i := 102) (by decide +kernel))) rfl
theorem bw_823 : (Jvm.Cond.code ({ cls := "WellMoodsModel", name := "pass", desc := "(I)I" } : Jvm.MethodName) prog_8_method_32_code (3 : Nat) (Option.some Jvm.ClassFile.FieldType.int)) ∈ BIG := bmT (bt4 (List.mem_of_getElem? (i := 103) (by decide +kernel))) rfl
theorem bw_824 : (Jvm.Cond.constantLong "WellMoodsModel" (210 : Nat) (60 : Int64)) ∈ BIG := bmT (bt4 (List.mem_of_getElem? (i := 104) (by decide +kernel))) rfl
theorem bw_825 : (Jvm.Cond.methodLink "WellMoodsLaw" (68 : Nat) ({ cls := "WellMoodsModel", name := "run", desc := "()I" } : Jvm.MethodName)) ∈ BIG := bmT (bt4 (List.mem_of_getElem? (i := 105) (by decide +kernel))) rfl
theorem bw_826 : (Jvm.Cond.instanceMethod ({ cls := "WellMoodsModel", name := "run", desc := "()I" } : Jvm.MethodName)) ∈ BIG := bmT (bt4 (List.mem_of_getElem? (i := 106) (by decide +kernel))) rfl
theorem bw_827 : (Jvm.Cond.selects "WellMoodsModel" ({ cls := "WellMoodsModel", name := "run", desc := "()I" } : Jvm.MethodName) ({ cls := "WellMoodsModel", name := "run", desc := "()I" } : Jvm.MethodName)) ∈ BIG := bmT (bt4 (List.mem_of_getElem? (i := 107) (by decide +kernel))) rfl
theorem bw_828 : (Jvm.Cond.code ({ cls := "WellMoodsModel", name := "run", desc := "()I" } : Jvm.MethodName) prog_8_method_33_code (2 : Nat) (Option.some Jvm.ClassFile.FieldType.int)) ∈ BIG := bmT (bt4 (List.mem_of_getElem? (i := 108) (by decide +kernel))) rfl
theorem bw_829 : (Jvm.Cond.methodLink "WellMoodsLaw" (72 : Nat) ({ cls := "WellMoodsModel", name := "most", desc := "(I)I" } : Jvm.MethodName)) ∈ BIG := bmT (bt4 (List.mem_of_getElem? (i := 109) (by decide +kernel))) rfl
theorem bw_830 : (Jvm.Cond.instanceMethod ({ cls := "WellMoodsModel", name := "most", desc := "(I)I" } : Jvm.MethodName)) ∈ BIG := bmT (bt4 (List.mem_of_getElem? (i := 110) (by decide +kernel))) rfl
theorem bw_831 : (Jvm.Cond.selects "WellMoodsModel" ({ cls := "WellMoodsModel", name := "most", desc := "(I)I" } : Jvm.MethodName) ({ cls := "WellMoodsModel", name := "most", desc := "(I)I" } : Jvm.MethodName)) ∈ BIG := bmT (bt4 (List.mem_of_getElem? (i := 111) (by decide +kernel))) rfl
theorem bw_832 : (Jvm.Cond.code ({ cls := "WellMoodsModel", name := "most", desc := "(I)I" } : Jvm.MethodName) prog_8_method_36_code (2 : Nat) (Option.some Jvm.ClassFile.FieldType.int)) ∈ BIG := bmT (bt4 (List.mem_of_getElem? (i := 112) (by decide +kernel))) rfl
theorem bw_833 : (Jvm.Cond.constantLong "WellMoodsModel" (215 : Nat) (5 : Int64)) ∈ BIG := bmT (bt4 (List.mem_of_getElem? (i := 113) (by decide +kernel))) rfl
theorem bw_834 : (Jvm.Cond.methodLink "WellMoodsModel" (217 : Nat) ({ cls := "WellMoodsModel", name := "findMost", desc := "(II)I" } : Jvm.MethodName)) ∈ BIG := bmT (bt4 (List.mem_of_getElem? (i := 114) (by decide +kernel))) rfl
theorem bw_836 : (Jvm.Cond.instanceMethod ({ cls := "WellMoodsModel", name := "findMost", desc := "(II)I" } : Jvm.MethodName)) ∈ BIG := bmT (bt4 (List.mem_of_getElem? (i := 116) (by decide +kernel))) rfl
theorem bw_837 : (Jvm.Cond.code ({ cls := "WellMoodsModel", name := "findMost", desc := "(II)I" } : Jvm.MethodName) prog_8_method_35_code (8 : Nat) (Option.some Jvm.ClassFile.FieldType.int)) ∈ BIG := bmT (bt4 (List.mem_of_getElem? (i := 117) (by decide +kernel))) rfl
theorem bw_838 : (Jvm.Cond.methodLink "WellMoodsModel" (212 : Nat) ({ cls := "WellMoodsModel", name := "nextRow", desc := "(I)Z" } : Jvm.MethodName)) ∈ BIG := bmT (bt4 (List.mem_of_getElem? (i := 118) (by decide +kernel))) rfl
theorem bw_840 : (Jvm.Cond.instanceMethod ({ cls := "WellMoodsModel", name := "nextRow", desc := "(I)Z" } : Jvm.MethodName)) ∈ BIG := bmT (bt4 (List.mem_of_getElem? (i := 120) (by decide +kernel))) rfl
theorem bw_841 : (Jvm.Cond.code ({ cls := "WellMoodsModel", name := "nextRow", desc := "(I)Z" } : Jvm.MethodName) prog_8_method_34_code (3 : Nat) (Option.some Jvm.ClassFile.FieldType.boolean)) ∈ BIG := bmT (bt4 (List.mem_of_getElem? (i := 121) (by decide +kernel))) rfl
theorem bw_842 : (Jvm.Cond.methodLink "WellMoodsLaw" (76 : Nat) ({ cls := "WellMoodsModel", name := "row", desc := "(II)I" } : Jvm.MethodName)) ∈ BIG := bmT (bt4 (List.mem_of_getElem? (i := 122) (by decide +kernel))) rfl
theorem bw_843 : (Jvm.Cond.instanceMethod ({ cls := "WellMoodsModel", name := "row", desc := "(II)I" } : Jvm.MethodName)) ∈ BIG := bmT (bt4 (List.mem_of_getElem? (i := 123) (by decide +kernel))) rfl
theorem bw_844 : (Jvm.Cond.selects "WellMoodsModel" ({ cls := "WellMoodsModel", name := "row", desc := "(II)I" } : Jvm.MethodName) ({ cls := "WellMoodsModel", name := "row", desc := "(II)I" } : Jvm.MethodName)) ∈ BIG := bmT (bt4 (List.mem_of_getElem? (i := 124) (by decide +kernel))) rfl
theorem bw_845 : (Jvm.Cond.code ({ cls := "WellMoodsModel", name := "row", desc := "(II)I" } : Jvm.MethodName) prog_8_method_37_code (3 : Nat) (Option.some Jvm.ClassFile.FieldType.int)) ∈ BIG := bmT (bt4 (List.mem_of_getElem? (i := 125) (by decide +kernel))) rfl
theorem bw_846 : (Jvm.Cond.methodLink "WellMoodsLaw" (80 : Nat) ({ cls := "WellMoodsModel", name := "fewest", desc := "(I)I" } : Jvm.MethodName)) ∈ BIG := bmT (bt4 (List.mem_of_getElem? (i := 126) (by decide +kernel))) rfl
theorem bw_847 : (Jvm.Cond.instanceMethod ({ cls := "WellMoodsModel", name := "fewest", desc := "(I)I" } : Jvm.MethodName)) ∈ BIG := bmT (bt4 (List.mem_of_getElem? (i := 127) (by decide +kernel))) rfl
theorem bw_848 : (Jvm.Cond.selects "WellMoodsModel" ({ cls := "WellMoodsModel", name := "fewest", desc := "(I)I" } : Jvm.MethodName) ({ cls := "WellMoodsModel", name := "fewest", desc := "(I)I" } : Jvm.MethodName)) ∈ BIG := bmT (bt4 (List.mem_of_getElem? (i := 128) (by decide +kernel))) rfl
theorem bw_849 : (Jvm.Cond.code ({ cls := "WellMoodsModel", name := "fewest", desc := "(I)I" } : Jvm.MethodName) prog_8_method_38_code (3 : Nat) (Option.some Jvm.ClassFile.FieldType.int)) ∈ BIG := bmT (bt4 (List.mem_of_getElem? (i := 129) (by decide +kernel))) rfl
theorem bw_850 : (Jvm.Cond.constantLong "WellMoodsModel" (220 : Nat) (99 : Int64)) ∈ BIG := bmT (bt4 (List.mem_of_getElem? (i := 130) (by decide +kernel))) rfl
theorem bw_851 : (Jvm.Cond.methodLink "WellMoodsLaw" (84 : Nat) ({ cls := "WellMoodsModel", name := "peace", desc := "()I" } : Jvm.MethodName)) ∈ BIG := bmT (bt4 (List.mem_of_getElem? (i := 131) (by decide +kernel))) rfl
theorem bw_852 : (Jvm.Cond.instanceMethod ({ cls := "WellMoodsModel", name := "peace", desc := "()I" } : Jvm.MethodName)) ∈ BIG := bmT (bt4 (List.mem_of_getElem? (i := 132) (by decide +kernel))) rfl
theorem bw_853 : (Jvm.Cond.selects "WellMoodsModel" ({ cls := "WellMoodsModel", name := "peace", desc := "()I" } : Jvm.MethodName) ({ cls := "WellMoodsModel", name := "peace", desc := "()I" } : Jvm.MethodName)) ∈ BIG := bmT (bt4 (List.mem_of_getElem? (i := 133) (by decide +kernel))) rfl
theorem bw_854 : (Jvm.Cond.code ({ cls := "WellMoodsModel", name := "peace", desc := "()I" } : Jvm.MethodName) prog_8_method_39_code (7 : Nat) (Option.some Jvm.ClassFile.FieldType.int)) ∈ BIG := bmT (bt4 (List.mem_of_getElem? (i := 134) (by decide +kernel))) rfl
theorem bw_855 : (Jvm.Cond.methodLink "WellMoodsLaw" (101 : Nat) ({ cls := "WellMoodsModel", name := "other", desc := "(I)I" } : Jvm.MethodName)) ∈ BIG := bmT (bt4 (List.mem_of_getElem? (i := 135) (by decide +kernel))) rfl
theorem bw_856 : (Jvm.Cond.instanceMethod ({ cls := "WellMoodsModel", name := "other", desc := "(I)I" } : Jvm.MethodName)) ∈ BIG := bmT (bt4 (List.mem_of_getElem? (i := 136) (by decide +kernel))) rfl
theorem bw_857 : (Jvm.Cond.selects "WellMoodsModel" ({ cls := "WellMoodsModel", name := "other", desc := "(I)I" } : Jvm.MethodName) ({ cls := "WellMoodsModel", name := "other", desc := "(I)I" } : Jvm.MethodName)) ∈ BIG := bmT (bt4 (List.mem_of_getElem? (i := 137) (by decide +kernel))) rfl
theorem bw_858 : (Jvm.Cond.code ({ cls := "WellMoodsModel", name := "other", desc := "(I)I" } : Jvm.MethodName) prog_8_method_40_code (2 : Nat) (Option.some Jvm.ClassFile.FieldType.int)) ∈ BIG := bmT (bt4 (List.mem_of_getElem? (i := 138) (by decide +kernel))) rfl
theorem bw_859 : (Jvm.Cond.methodLink "WellMoodsLaw" (88 : Nat) ({ cls := "WellMoodsModel", name := "gives", desc := "(II)I" } : Jvm.MethodName)) ∈ BIG := bmT (bt4 (List.mem_of_getElem? (i := 139) (by decide +kernel))) rfl
theorem bw_860 : (Jvm.Cond.instanceMethod ({ cls := "WellMoodsModel", name := "gives", desc := "(II)I" } : Jvm.MethodName)) ∈ BIG := bmT (bt4 (List.mem_of_getElem? (i := 140) (by decide +kernel))) rfl
theorem bw_861 : (Jvm.Cond.selects "WellMoodsModel" ({ cls := "WellMoodsModel", name := "gives", desc := "(II)I" } : Jvm.MethodName) ({ cls := "WellMoodsModel", name := "gives", desc := "(II)I" } : Jvm.MethodName)) ∈ BIG := bmT (bt4 (List.mem_of_getElem? (i := 141) (by decide +kernel))) rfl
theorem bw_862 : (Jvm.Cond.code ({ cls := "WellMoodsModel", name := "gives", desc := "(II)I" } : Jvm.MethodName) prog_8_method_42_code (3 : Nat) (Option.some Jvm.ClassFile.FieldType.int)) ∈ BIG := bmT (bt4 (List.mem_of_getElem? (i := 142) (by decide +kernel))) rfl
theorem bw_863 : (Jvm.Cond.methodLink "WellMoodsModel" (222 : Nat) ({ cls := "WellMoodsModel", name := "givesOf", desc := "(II)I" } : Jvm.MethodName)) ∈ BIG := bmT (bt4 (List.mem_of_getElem? (i := 143) (by decide +kernel))) rfl
theorem bw_865 : (Jvm.Cond.instanceMethod ({ cls := "WellMoodsModel", name := "givesOf", desc := "(II)I" } : Jvm.MethodName)) ∈ BIG := bmT (bt4 (List.mem_of_getElem? (i := 145) (by decide +kernel))) rfl
theorem bw_866 : (Jvm.Cond.code ({ cls := "WellMoodsModel", name := "givesOf", desc := "(II)I" } : Jvm.MethodName) prog_8_method_41_code (4 : Nat) (Option.some Jvm.ClassFile.FieldType.int)) ∈ BIG := bmT (bt4 (List.mem_of_getElem? (i := 146) (by decide +kernel))) rfl
theorem bw_867 : (Jvm.Cond.methodLink "WellMoodsLaw" (92 : Nat) ({ cls := "WellMoodsModel", name := "stranger", desc := "(III)I" } : Jvm.MethodName)) ∈ BIG := bmT (bt4 (List.mem_of_getElem? (i := 147) (by decide +kernel))) rfl
theorem bw_868 : (Jvm.Cond.instanceMethod ({ cls := "WellMoodsModel", name := "stranger", desc := "(III)I" } : Jvm.MethodName)) ∈ BIG := bmT (bt4 (List.mem_of_getElem? (i := 148) (by decide +kernel))) rfl
theorem bw_869 : (Jvm.Cond.selects "WellMoodsModel" ({ cls := "WellMoodsModel", name := "stranger", desc := "(III)I" } : Jvm.MethodName) ({ cls := "WellMoodsModel", name := "stranger", desc := "(III)I" } : Jvm.MethodName)) ∈ BIG := bmT (bt4 (List.mem_of_getElem? (i := 149) (by decide +kernel))) rfl
theorem bw_870 : (Jvm.Cond.code ({ cls := "WellMoodsModel", name := "stranger", desc := "(III)I" } : Jvm.MethodName) prog_8_method_43_code (6 : Nat) (Option.some Jvm.ClassFile.FieldType.int)) ∈ BIG := bmT (bt4 (List.mem_of_getElem? (i := 150) (by decide +kernel))) rfl
theorem bw_871 : (Jvm.Cond.methodLink "WellMoodsLaw" (97 : Nat) ({ cls := "WellMoodsModel", name := "liar", desc := "(IIIIII)I" } : Jvm.MethodName)) ∈ BIG := bmT (bt4 (List.mem_of_getElem? (i := 151) (by decide +kernel))) rfl
theorem bw_872 : (Jvm.Cond.instanceMethod ({ cls := "WellMoodsModel", name := "liar", desc := "(IIIIII)I" } : Jvm.MethodName)) ∈ BIG := bmT (bt4 (List.mem_of_getElem? (i := 152) (by decide +kernel))) rfl
theorem bw_873 : (Jvm.Cond.selects "WellMoodsModel" ({ cls := "WellMoodsModel", name := "liar", desc := "(IIIIII)I" } : Jvm.MethodName) ({ cls := "WellMoodsModel", name := "liar", desc := "(IIIIII)I" } : Jvm.MethodName)) ∈ BIG := bmT (bt4 (List.mem_of_getElem? (i := 153) (by decide +kernel))) rfl
theorem bw_874 : (Jvm.Cond.code ({ cls := "WellMoodsModel", name := "liar", desc := "(IIIIII)I" } : Jvm.MethodName) prog_8_method_44_code (7 : Nat) (Option.some Jvm.ClassFile.FieldType.int)) ∈ BIG := bmT (bt4 (List.mem_of_getElem? (i := 154) (by decide +kernel))) rfl
theorem bw_875 : (Jvm.Cond.methodLink "WellMoodsLaw" (105 : Nat) ({ cls := "WellMoodsModel", name := "drawn", desc := "(I)I" } : Jvm.MethodName)) ∈ BIG := bmT (bt4 (List.mem_of_getElem? (i := 155) (by decide +kernel))) rfl
theorem bw_876 : (Jvm.Cond.instanceMethod ({ cls := "WellMoodsModel", name := "drawn", desc := "(I)I" } : Jvm.MethodName)) ∈ BIG := bmT (bt4 (List.mem_of_getElem? (i := 156) (by decide +kernel))) rfl
theorem bw_877 : (Jvm.Cond.selects "WellMoodsModel" ({ cls := "WellMoodsModel", name := "drawn", desc := "(I)I" } : Jvm.MethodName) ({ cls := "WellMoodsModel", name := "drawn", desc := "(I)I" } : Jvm.MethodName)) ∈ BIG := bmT (bt4 (List.mem_of_getElem? (i := 157) (by decide +kernel))) rfl
theorem bw_878 : (Jvm.Cond.code ({ cls := "WellMoodsModel", name := "drawn", desc := "(I)I" } : Jvm.MethodName) prog_8_method_45_code (5 : Nat) (Option.some Jvm.ClassFile.FieldType.int)) ∈ BIG := bmT (bt4 (List.mem_of_getElem? (i := 158) (by decide +kernel))) rfl
theorem bw_879 : (Jvm.Cond.constantLong "WellMoodsModel" (225 : Nat) (1103515245 : Int64)) ∈ BIG := bmT (bt4 (List.mem_of_getElem? (i := 159) (by decide +kernel))) rfl
theorem bw_880 : (Jvm.Cond.constantLong "WellMoodsModel" (227 : Nat) (12345 : Int64)) ∈ BIG := bmT (bt4 (List.mem_of_getElem? (i := 160) (by decide +kernel))) rfl
theorem bw_881 : (Jvm.Cond.constantLong "WellMoodsModel" (229 : Nat) (2147483647 : Int64)) ∈ BIG := bmT (bt4 (List.mem_of_getElem? (i := 161) (by decide +kernel))) rfl
theorem bw_882 : (Jvm.Cond.constant "WellMoodsModel" (231 : Nat) (65536 : Int32)) ∈ BIG := bmT (bt4 (List.mem_of_getElem? (i := 162) (by decide +kernel))) rfl
theorem bw_883 : (Jvm.Cond.methodLink "WellMoodsLaw" (109 : Nat) ({ cls := "WellMoodsModel", name := "seed", desc := "(I)I" } : Jvm.MethodName)) ∈ BIG := bmT (bt4 (List.mem_of_getElem? (i := 163) (by decide +kernel))) rfl
theorem bw_884 : (Jvm.Cond.instanceMethod ({ cls := "WellMoodsModel", name := "seed", desc := "(I)I" } : Jvm.MethodName)) ∈ BIG := bmT (bt4 (List.mem_of_getElem? (i := 164) (by decide +kernel))) rfl
theorem bw_885 : (Jvm.Cond.selects "WellMoodsModel" ({ cls := "WellMoodsModel", name := "seed", desc := "(I)I" } : Jvm.MethodName) ({ cls := "WellMoodsModel", name := "seed", desc := "(I)I" } : Jvm.MethodName)) ∈ BIG := bmT (bt4 (List.mem_of_getElem? (i := 165) (by decide +kernel))) rfl
theorem bw_886 : (Jvm.Cond.code ({ cls := "WellMoodsModel", name := "seed", desc := "(I)I" } : Jvm.MethodName) prog_8_method_46_code (3 : Nat) (Option.some Jvm.ClassFile.FieldType.int)) ∈ BIG := bmT (bt4 (List.mem_of_getElem? (i := 166) (by decide +kernel))) rfl
theorem bw_887 : (Jvm.Cond.methodLink "WellMoodsLaw" (113 : Nat) ({ cls := "WellMoodsModel", name := "image", desc := "()I" } : Jvm.MethodName)) ∈ BIG := bmT (bt4 (List.mem_of_getElem? (i := 167) (by decide +kernel))) rfl
theorem bw_888 : (Jvm.Cond.instanceMethod ({ cls := "WellMoodsModel", name := "image", desc := "()I" } : Jvm.MethodName)) ∈ BIG := bmT (bt4 (List.mem_of_getElem? (i := 168) (by decide +kernel))) rfl
theorem bw_889 : (Jvm.Cond.selects "WellMoodsModel" ({ cls := "WellMoodsModel", name := "image", desc := "()I" } : Jvm.MethodName) ({ cls := "WellMoodsModel", name := "image", desc := "()I" } : Jvm.MethodName)) ∈ BIG := bmT (bt4 (List.mem_of_getElem? (i := 169) (by decide +kernel))) rfl
theorem bw_890 : (Jvm.Cond.code ({ cls := "WellMoodsModel", name := "image", desc := "()I" } : Jvm.MethodName) prog_8_method_48_code (2 : Nat) (Option.some Jvm.ClassFile.FieldType.int)) ∈ BIG := bmT (bt4 (List.mem_of_getElem? (i := 170) (by decide +kernel))) rfl
theorem bw_891 : (Jvm.Cond.methodLink "WellMoodsModel" (232 : Nat) ({ cls := "WellMoodsModel", name := "carried", desc := "(IIZ)I" } : Jvm.MethodName)) ∈ BIG := bmT (bt4 (List.mem_of_getElem? (i := 171) (by decide +kernel))) rfl
theorem bw_893 : (Jvm.Cond.instanceMethod ({ cls := "WellMoodsModel", name := "carried", desc := "(IIZ)I" } : Jvm.MethodName)) ∈ BIG := bmT (bt4 (List.mem_of_getElem? (i := 173) (by decide +kernel))) rfl
theorem bw_894 : (Jvm.Cond.code ({ cls := "WellMoodsModel", name := "carried", desc := "(IIZ)I" } : Jvm.MethodName) prog_8_method_47_code (6 : Nat) (Option.some Jvm.ClassFile.FieldType.int)) ∈ BIG := bmT (bt4 (List.mem_of_getElem? (i := 174) (by decide +kernel))) rfl
theorem bw_895 : (Jvm.Cond.methodLink "WellMoodsLaw" (117 : Nat) ({ cls := "WellMoodsModel", name := "restore", desc := "()I" } : Jvm.MethodName)) ∈ BIG := bmT (bt4 (List.mem_of_getElem? (i := 175) (by decide +kernel))) rfl
theorem bw_896 : (Jvm.Cond.instanceMethod ({ cls := "WellMoodsModel", name := "restore", desc := "()I" } : Jvm.MethodName)) ∈ BIG := bmT (bt4 (List.mem_of_getElem? (i := 176) (by decide +kernel))) rfl
theorem bw_897 : (Jvm.Cond.selects "WellMoodsModel" ({ cls := "WellMoodsModel", name := "restore", desc := "()I" } : Jvm.MethodName) ({ cls := "WellMoodsModel", name := "restore", desc := "()I" } : Jvm.MethodName)) ∈ BIG := bmT (bt4 (List.mem_of_getElem? (i := 177) (by decide +kernel))) rfl
theorem bw_898 : (Jvm.Cond.code ({ cls := "WellMoodsModel", name := "restore", desc := "()I" } : Jvm.MethodName) prog_8_method_49_code (2 : Nat) (Option.some Jvm.ClassFile.FieldType.int)) ∈ BIG := bmT (bt4 (List.mem_of_getElem? (i := 178) (by decide +kernel))) rfl
theorem bw_899 : (Jvm.Cond.methodLink "WellMoodsLaw" (130 : Nat) ({ cls := "WellMoodsModel", name := "sheet", desc := "(III)I" } : Jvm.MethodName)) ∈ BIG := bmT (bt4 (List.mem_of_getElem? (i := 179) (by decide +kernel))) rfl
theorem bw_900 : (Jvm.Cond.instanceMethod ({ cls := "WellMoodsModel", name := "sheet", desc := "(III)I" } : Jvm.MethodName)) ∈ BIG := bmT (bt4 (List.mem_of_getElem? (i := 180) (by decide +kernel))) rfl
theorem bw_901 : (Jvm.Cond.selects "WellMoodsModel" ({ cls := "WellMoodsModel", name := "sheet", desc := "(III)I" } : Jvm.MethodName) ({ cls := "WellMoodsModel", name := "sheet", desc := "(III)I" } : Jvm.MethodName)) ∈ BIG := bmT (bt4 (List.mem_of_getElem? (i := 181) (by decide +kernel))) rfl
theorem bw_902 : (Jvm.Cond.code ({ cls := "WellMoodsModel", name := "sheet", desc := "(III)I" } : Jvm.MethodName) prog_8_method_52_code (5 : Nat) (Option.some Jvm.ClassFile.FieldType.int)) ∈ BIG := bmT (bt4 (List.mem_of_getElem? (i := 182) (by decide +kernel))) rfl
theorem bw_903 : (Jvm.Cond.methodLink "WellMoodsModel" (239 : Nat) ({ cls := "WellMoodsModel", name := "isSheet", desc := "(II)Z" } : Jvm.MethodName)) ∈ BIG := bmT (bt4 (List.mem_of_getElem? (i := 183) (by decide +kernel))) rfl
theorem bw_904 : (Jvm.Cond.static ({ cls := "WellMoodsModel", name := "isSheet", desc := "(II)Z" } : Jvm.MethodName)) ∈ BIG := bmT (bt4 (List.mem_of_getElem? (i := 184) (by decide +kernel))) rfl
theorem bw_905 : (Jvm.Cond.code ({ cls := "WellMoodsModel", name := "isSheet", desc := "(II)Z" } : Jvm.MethodName) prog_8_method_50_code (2 : Nat) (Option.some Jvm.ClassFile.FieldType.boolean)) ∈ BIG := bmT (bt4 (List.mem_of_getElem? (i := 185) (by decide +kernel))) rfl
theorem bw_906 : (Jvm.Cond.methodLink "WellMoodsLaw" (134 : Nat) ({ cls := "WellMoodsModel", name := "drop", desc := "(I)I" } : Jvm.MethodName)) ∈ BIG := bmT (bt4 (List.mem_of_getElem? (i := 186) (by decide +kernel))) rfl
theorem bw_907 : (Jvm.Cond.instanceMethod ({ cls := "WellMoodsModel", name := "drop", desc := "(I)I" } : Jvm.MethodName)) ∈ BIG := bmT (bt4 (List.mem_of_getElem? (i := 187) (by decide +kernel))) rfl
theorem bw_908 : (Jvm.Cond.selects "WellMoodsModel" ({ cls := "WellMoodsModel", name := "drop", desc := "(I)I" } : Jvm.MethodName) ({ cls := "WellMoodsModel", name := "drop", desc := "(I)I" } : Jvm.MethodName)) ∈ BIG := bmT (bt4 (List.mem_of_getElem? (i := 188) (by decide +kernel))) rfl
theorem bw_909 : (Jvm.Cond.code ({ cls := "WellMoodsModel", name := "drop", desc := "(I)I" } : Jvm.MethodName) prog_8_method_53_code (2 : Nat) (Option.some Jvm.ClassFile.FieldType.int)) ∈ BIG := bmT (bt4 (List.mem_of_getElem? (i := 189) (by decide +kernel))) rfl
theorem bw_910 : (Jvm.Cond.methodLink "WellMoodsLaw" (139 : Nat) ({ cls := "WellMoodsModel", name := "item", desc := "(IIIJ)I" } : Jvm.MethodName)) ∈ BIG := bmT (bt4 (List.mem_of_getElem? (i := 190) (by decide +kernel))) rfl
theorem bw_911 : (Jvm.Cond.instanceMethod ({ cls := "WellMoodsModel", name := "item", desc := "(IIIJ)I" } : Jvm.MethodName)) ∈ BIG := bmT (bt4 (List.mem_of_getElem? (i := 191) (by decide +kernel))) rfl
theorem bw_912 : (Jvm.Cond.selects "WellMoodsModel" ({ cls := "WellMoodsModel", name := "item", desc := "(IIIJ)I" } : Jvm.MethodName) ({ cls := "WellMoodsModel", name := "item", desc := "(IIIJ)I" } : Jvm.MethodName)) ∈ BIG := bmT (bt4 (List.mem_of_getElem? (i := 192) (by decide +kernel))) rfl
theorem bw_913 : (Jvm.Cond.code ({ cls := "WellMoodsModel", name := "item", desc := "(IIIJ)I" } : Jvm.MethodName) prog_8_method_55_code (7 : Nat) (Option.some Jvm.ClassFile.FieldType.int)) ∈ BIG := bmT (bt4 (List.mem_of_getElem? (i := 193) (by decide +kernel))) rfl
theorem bw_914 : (Jvm.Cond.methodLink "WellMoodsModel" (242 : Nat) ({ cls := "WellMoodsModel", name := "lacksRow", desc := "(IIII)I" } : Jvm.MethodName)) ∈ BIG := bmT (bt4 (List.mem_of_getElem? (i := 194) (by decide +kernel))) rfl
theorem bw_916 : (Jvm.Cond.instanceMethod ({ cls := "WellMoodsModel", name := "lacksRow", desc := "(IIII)I" } : Jvm.MethodName)) ∈ BIG := bmT (bt4 (List.mem_of_getElem? (i := 196) (by decide +kernel))) rfl
theorem bw_917 : (Jvm.Cond.code ({ cls := "WellMoodsModel", name := "lacksRow", desc := "(IIII)I" } : Jvm.MethodName) prog_8_method_54_code (5 : Nat) (Option.some Jvm.ClassFile.FieldType.int)) ∈ BIG := bmT (bt4 (List.mem_of_getElem? (i := 197) (by decide +kernel))) rfl
theorem bw_918 : (Jvm.Cond.methodLink "WellMoodsModel" (246 : Nat) ({ cls := "WellMoodsModel", name := "asLane", desc := "(IJ)J" } : Jvm.MethodName)) ∈ BIG := bmT (bt4 (List.mem_of_getElem? (i := 198) (by decide +kernel))) rfl
theorem bw_919 : (Jvm.Cond.static ({ cls := "WellMoodsModel", name := "asLane", desc := "(IJ)J" } : Jvm.MethodName)) ∈ BIG := bmT (bt4 (List.mem_of_getElem? (i := 199) (by decide +kernel))) rfl
theorem bw_920 : (Jvm.Cond.code ({ cls := "WellMoodsModel", name := "asLane", desc := "(IJ)J" } : Jvm.MethodName) prog_8_method_51_code (3 : Nat) (Option.some Jvm.ClassFile.FieldType.long)) ∈ BIG := bmT (bt4 (List.mem_of_getElem? (i := 200) (by decide +kernel))) rfl
theorem bw_921 : (Jvm.Cond.methodLink "WellMoodsLaw" (122 : Nat) ({ cls := "WellMoodsModel", name := "fit", desc := "(IIII)I" } : Jvm.MethodName)) ∈ BIG := bmT (bt4 (List.mem_of_getElem? (i := 201) (by decide +kernel))) rfl
theorem bw_922 : (Jvm.Cond.instanceMethod ({ cls := "WellMoodsModel", name := "fit", desc := "(IIII)I" } : Jvm.MethodName)) ∈ BIG := bmT (bt4 (List.mem_of_getElem? (i := 202) (by decide +kernel))) rfl
theorem bw_923 : (Jvm.Cond.selects "WellMoodsModel" ({ cls := "WellMoodsModel", name := "fit", desc := "(IIII)I" } : Jvm.MethodName) ({ cls := "WellMoodsModel", name := "fit", desc := "(IIII)I" } : Jvm.MethodName)) ∈ BIG := bmT (bt4 (List.mem_of_getElem? (i := 203) (by decide +kernel))) rfl
theorem bw_924 : (Jvm.Cond.code ({ cls := "WellMoodsModel", name := "fit", desc := "(IIII)I" } : Jvm.MethodName) prog_8_method_57_code (9 : Nat) (Option.some Jvm.ClassFile.FieldType.int)) ∈ BIG := bmT (bt4 (List.mem_of_getElem? (i := 204) (by decide +kernel))) rfl
theorem bw_925 : (Jvm.Cond.methodLink "WellMoodsModel" (250 : Nat) ({ cls := "WellMoodsModel", name := "fits", desc := "(III)Z" } : Jvm.MethodName)) ∈ BIG := bmT (bt4 (List.mem_of_getElem? (i := 205) (by decide +kernel))) rfl
theorem bw_927 : (Jvm.Cond.instanceMethod ({ cls := "WellMoodsModel", name := "fits", desc := "(III)Z" } : Jvm.MethodName)) ∈ BIG := bmT (bt4 (List.mem_of_getElem? (i := 207) (by decide +kernel))) rfl
theorem bw_928 : (Jvm.Cond.code ({ cls := "WellMoodsModel", name := "fits", desc := "(III)Z" } : Jvm.MethodName) prog_8_method_56_code (8 : Nat) (Option.some Jvm.ClassFile.FieldType.boolean)) ∈ BIG := bmT (bt4 (List.mem_of_getElem? (i := 208) (by decide +kernel))) rfl
theorem bw_929 : (Jvm.Cond.methodLink "WellMoodsLaw" (126 : Nat) ({ cls := "WellMoodsModel", name := "film", desc := "(IIII)I" } : Jvm.MethodName)) ∈ BIG := bmT (bt4 (List.mem_of_getElem? (i := 209) (by decide +kernel))) rfl
theorem bw_930 : (Jvm.Cond.instanceMethod ({ cls := "WellMoodsModel", name := "film", desc := "(IIII)I" } : Jvm.MethodName)) ∈ BIG := bmT (bt4 (List.mem_of_getElem? (i := 210) (by decide +kernel))) rfl
theorem bw_931 : (Jvm.Cond.selects "WellMoodsModel" ({ cls := "WellMoodsModel", name := "film", desc := "(IIII)I" } : Jvm.MethodName) ({ cls := "WellMoodsModel", name := "film", desc := "(IIII)I" } : Jvm.MethodName)) ∈ BIG := bmT (bt4 (List.mem_of_getElem? (i := 211) (by decide +kernel))) rfl
theorem bw_932 : (Jvm.Cond.code ({ cls := "WellMoodsModel", name := "film", desc := "(IIII)I" } : Jvm.MethodName) prog_8_method_58_code (7 : Nat) (Option.some Jvm.ClassFile.FieldType.int)) ∈ BIG := bmT (bt4 (List.mem_of_getElem? (i := 212) (by decide +kernel))) rfl
theorem bw_933 : (Jvm.Cond.methodLink "WellMoodsLaw" (144 : Nat) ({ cls := "WellMoodsModel", name := "copy", desc := "(IIIII)I" } : Jvm.MethodName)) ∈ BIG := bmT (bt4 (List.mem_of_getElem? (i := 213) (by decide +kernel))) rfl
theorem bw_934 : (Jvm.Cond.instanceMethod ({ cls := "WellMoodsModel", name := "copy", desc := "(IIIII)I" } : Jvm.MethodName)) ∈ BIG := bmT (bt4 (List.mem_of_getElem? (i := 214) (by decide +kernel))) rfl
theorem bw_935 : (Jvm.Cond.selects "WellMoodsModel" ({ cls := "WellMoodsModel", name := "copy", desc := "(IIIII)I" } : Jvm.MethodName) ({ cls := "WellMoodsModel", name := "copy", desc := "(IIIII)I" } : Jvm.MethodName)) ∈ BIG := bmT (bt4 (List.mem_of_getElem? (i := 215) (by decide +kernel))) rfl
theorem bw_936 : (Jvm.Cond.code ({ cls := "WellMoodsModel", name := "copy", desc := "(IIIII)I" } : Jvm.MethodName) prog_8_method_59_code (7 : Nat) (Option.some Jvm.ClassFile.FieldType.int)) ∈ BIG := bmT (bt4 (List.mem_of_getElem? (i := 216) (by decide +kernel))) rfl
theorem bw_937 : (Jvm.Cond.constantLong "WellMoodsLaw" (37 : Nat) (4294967295 : Int64)) ∈ BIG := bmT (bt4 (List.mem_of_getElem? (i := 217) (by decide +kernel))) rfl
theorem bs_0 : (Jvm.Cond.selects "WellMoods$Folk" (⟨"WellMoods$Folk", "add", "(III)I"⟩ : MethodName) (⟨"WellMoods$Folk", "add", "(III)I"⟩ : MethodName)) ∈ BIG := bmS (List.mem_of_getElem? (i := 0) (by decide +kernel)) rfl
theorem bs_1 : (Jvm.Cond.selects "WellMoods$Folk" (⟨"WellMoods$Folk", "has", "(I)Z"⟩ : MethodName) (⟨"WellMoods$Folk", "has", "(I)Z"⟩ : MethodName)) ∈ BIG := bmS (List.mem_of_getElem? (i := 1) (by decide +kernel)) rfl
theorem bs_2 : (Jvm.Cond.selects "WellMoods$Folk" (⟨"WellMoods$Folk", "areFoes", "(II)Z"⟩ : MethodName) (⟨"WellMoods$Folk", "areFoes", "(II)Z"⟩ : MethodName)) ∈ BIG := bmS (List.mem_of_getElem? (i := 2) (by decide +kernel)) rfl
theorem bs_3 : (Jvm.Cond.selects "WellMoods$Folk" (⟨"WellMoods$Folk", "makeFoes", "(IIZ)V"⟩ : MethodName) (⟨"WellMoods$Folk", "makeFoes", "(IIZ)V"⟩ : MethodName)) ∈ BIG := bmS (List.mem_of_getElem? (i := 3) (by decide +kernel)) rfl
theorem bs_4 : (Jvm.Cond.selects "WellMoods$Tape" (⟨"WellMoods$Tape", "append", "(I)V"⟩ : MethodName) (⟨"WellMoods$Tape", "append", "(I)V"⟩ : MethodName)) ∈ BIG := bmS (List.mem_of_getElem? (i := 4) (by decide +kernel)) rfl
theorem bs_5 : (Jvm.Cond.selects "WellMoods$Tape" (⟨"WellMoods$Tape", "readFolk", "(LWellMoods$Folk;)I"⟩ : MethodName) (⟨"WellMoods$Tape", "readFolk", "(LWellMoods$Folk;)I"⟩ : MethodName)) ∈ BIG := bmS (List.mem_of_getElem? (i := 5) (by decide +kernel)) rfl
theorem bs_6 : (Jvm.Cond.selects "WellMoods$Tape" (⟨"WellMoods$Tape", "readOne", "(LWellMoods$Folk;)Z"⟩ : MethodName) (⟨"WellMoods$Tape", "readOne", "(LWellMoods$Folk;)Z"⟩ : MethodName)) ∈ BIG := bmS (List.mem_of_getElem? (i := 6) (by decide +kernel)) rfl
theorem bs_7 : (Jvm.Cond.selects "WellMoods$Tape" (⟨"WellMoods$Tape", "next", "()I"⟩ : MethodName) (⟨"WellMoods$Tape", "next", "()I"⟩ : MethodName)) ∈ BIG := bmS (List.mem_of_getElem? (i := 7) (by decide +kernel)) rfl
theorem bs_8 : (Jvm.Cond.selects "WellMoods$Tape" (⟨"WellMoods$Tape", "readDigit", "(II)I"⟩ : MethodName) (⟨"WellMoods$Tape", "readDigit", "(II)I"⟩ : MethodName)) ∈ BIG := bmS (List.mem_of_getElem? (i := 8) (by decide +kernel)) rfl
theorem bs_9 : (Jvm.Cond.selects "WellMoods$Tape" (⟨"WellMoods$Tape", "fault", "()I"⟩ : MethodName) (⟨"WellMoods$Tape", "fault", "()I"⟩ : MethodName)) ∈ BIG := bmS (List.mem_of_getElem? (i := 9) (by decide +kernel)) rfl
theorem bs_10 : (Jvm.Cond.selects "WellMoods$Well" (⟨"WellMoods$Well", "settle", "(LWellMoods$Folk;)V"⟩ : MethodName) (⟨"WellMoods$Well", "settle", "(LWellMoods$Folk;)V"⟩ : MethodName)) ∈ BIG := bmS (List.mem_of_getElem? (i := 10) (by decide +kernel)) rfl
theorem bs_11 : (Jvm.Cond.selects "WellMoods$Folk" (⟨"WellMoods$Folk", "become", "(LWellMoods$Folk;)V"⟩ : MethodName) (⟨"WellMoods$Folk", "become", "(LWellMoods$Folk;)V"⟩ : MethodName)) ∈ BIG := bmS (List.mem_of_getElem? (i := 11) (by decide +kernel)) rfl
theorem bs_12 : (Jvm.Cond.selects "WellMoods$Tape" (⟨"WellMoods$Tape", "readPlan", "([ILWellMoods$Folk;)I"⟩ : MethodName) (⟨"WellMoods$Tape", "readPlan", "([ILWellMoods$Folk;)I"⟩ : MethodName)) ∈ BIG := bmS (List.mem_of_getElem? (i := 12) (by decide +kernel)) rfl
theorem bs_13 : (Jvm.Cond.selects "WellMoods$Well" (⟨"WellMoods$Well", "adopt", "([II)V"⟩ : MethodName) (⟨"WellMoods$Well", "adopt", "([II)V"⟩ : MethodName)) ∈ BIG := bmS (List.mem_of_getElem? (i := 13) (by decide +kernel)) rfl
theorem bs_14 : (Jvm.Cond.selects "WellMoods$Well" (⟨"WellMoods$Well", "mayDraw", "(I)Z"⟩ : MethodName) (⟨"WellMoods$Well", "mayDraw", "(I)Z"⟩ : MethodName)) ∈ BIG := bmS (List.mem_of_getElem? (i := 14) (by decide +kernel)) rfl
theorem bs_15 : (Jvm.Cond.selects "WellMoods$Well" (⟨"WellMoods$Well", "hasHours", "(I)Z"⟩ : MethodName) (⟨"WellMoods$Well", "hasHours", "(I)Z"⟩ : MethodName)) ∈ BIG := bmS (List.mem_of_getElem? (i := 15) (by decide +kernel)) rfl
theorem bs_16 : (Jvm.Cond.selects "WellMoods$Well" (⟨"WellMoods$Well", "passHour", "(I)I"⟩ : MethodName) (⟨"WellMoods$Well", "passHour", "(I)I"⟩ : MethodName)) ∈ BIG := bmS (List.mem_of_getElem? (i := 16) (by decide +kernel)) rfl
theorem bs_17 : (Jvm.Cond.selects "WellMoods$Well" (⟨"WellMoods$Well", "drawBy", "(I)I"⟩ : MethodName) (⟨"WellMoods$Well", "drawBy", "(I)I"⟩ : MethodName)) ∈ BIG := bmS (List.mem_of_getElem? (i := 17) (by decide +kernel)) rfl
theorem bs_18 : (Jvm.Cond.selects "WellMoods$Folk" (⟨"WellMoods$Folk", "pailsBehind", "(IIII)I"⟩ : MethodName) (⟨"WellMoods$Folk", "pailsBehind", "(IIII)I"⟩ : MethodName)) ∈ BIG := bmS (List.mem_of_getElem? (i := 18) (by decide +kernel)) rfl
theorem bs_19 : (Jvm.Cond.selects "WellMoods$Folk" (⟨"WellMoods$Folk", "pailsAt", "(II)I"⟩ : MethodName) (⟨"WellMoods$Folk", "pailsAt", "(II)I"⟩ : MethodName)) ∈ BIG := bmS (List.mem_of_getElem? (i := 19) (by decide +kernel)) rfl
theorem bs_20 : (Jvm.Cond.selects "WellMoods$Folk" (⟨"WellMoods$Folk", "isSweet", "(II)Z"⟩ : MethodName) (⟨"WellMoods$Folk", "isSweet", "(II)Z"⟩ : MethodName)) ∈ BIG := bmS (List.mem_of_getElem? (i := 20) (by decide +kernel)) rfl
theorem bs_21 : (Jvm.Cond.selects "WellMoods$Folk" (⟨"WellMoods$Folk", "moodBehind", "(II)I"⟩ : MethodName) (⟨"WellMoods$Folk", "moodBehind", "(II)I"⟩ : MethodName)) ∈ BIG := bmS (List.mem_of_getElem? (i := 21) (by decide +kernel)) rfl
theorem bs_22 : (Jvm.Cond.selects "WellMoods$Well" (⟨"WellMoods$Well", "endHour", "()V"⟩ : MethodName) (⟨"WellMoods$Well", "endHour", "()V"⟩ : MethodName)) ∈ BIG := bmS (List.mem_of_getElem? (i := 22) (by decide +kernel)) rfl
theorem bs_23 : (Jvm.Cond.selects "WellMoods$Well" (⟨"WellMoods$Well", "followPlan", "()I"⟩ : MethodName) (⟨"WellMoods$Well", "followPlan", "()I"⟩ : MethodName)) ∈ BIG := bmS (List.mem_of_getElem? (i := 23) (by decide +kernel)) rfl
theorem bs_24 : (Jvm.Cond.selects "WellMoods" (⟨"WellMoods", "mostFrom", "(II)I"⟩ : MethodName) (⟨"WellMoods", "mostFrom", "(II)I"⟩ : MethodName)) ∈ BIG := bmS (List.mem_of_getElem? (i := 24) (by decide +kernel)) rfl
theorem bs_25 : (Jvm.Cond.selects "WellMoods$Search" (⟨"WellMoods$Search", "observe", "(LWellMoods$Well;)V"⟩ : MethodName) (⟨"WellMoods$Search", "observe", "(LWellMoods$Well;)V"⟩ : MethodName)) ∈ BIG := bmS (List.mem_of_getElem? (i := 25) (by decide +kernel)) rfl
theorem bs_26 : (Jvm.Cond.selects "WellMoods$Search" (⟨"WellMoods$Search", "mostIn", "(II)I"⟩ : MethodName) (⟨"WellMoods$Search", "mostIn", "(II)I"⟩ : MethodName)) ∈ BIG := bmS (List.mem_of_getElem? (i := 26) (by decide +kernel)) rfl
theorem bs_27 : (Jvm.Cond.selects "WellMoods$Search" (⟨"WellMoods$Search", "tryHour", "(IIIII)V"⟩ : MethodName) (⟨"WellMoods$Search", "tryHour", "(IIIII)V"⟩ : MethodName)) ∈ BIG := bmS (List.mem_of_getElem? (i := 27) (by decide +kernel)) rfl
theorem bs_28 : (Jvm.Cond.selects "WellMoods$Search" (⟨"WellMoods$Search", "keep", "(I)V"⟩ : MethodName) (⟨"WellMoods$Search", "keep", "(I)V"⟩ : MethodName)) ∈ BIG := bmS (List.mem_of_getElem? (i := 28) (by decide +kernel)) rfl
theorem bs_29 : (Jvm.Cond.selects "WellMoods$Search" (⟨"WellMoods$Search", "tryDrawing", "(IIIIII)V"⟩ : MethodName) (⟨"WellMoods$Search", "tryDrawing", "(IIIIII)V"⟩ : MethodName)) ∈ BIG := bmS (List.mem_of_getElem? (i := 29) (by decide +kernel)) rfl
theorem bs_30 : (Jvm.Cond.selects "WellMoods" (⟨"WellMoods", "mostInPeace", "(II)I"⟩ : MethodName) (⟨"WellMoods", "mostInPeace", "(II)I"⟩ : MethodName)) ∈ BIG := bmS (List.mem_of_getElem? (i := 30) (by decide +kernel)) rfl
theorem bs_31 : (Jvm.Cond.selects "WellMoods$Well" (⟨"WellMoods$Well", "givesAt", "(II)I"⟩ : MethodName) (⟨"WellMoods$Well", "givesAt", "(II)I"⟩ : MethodName)) ∈ BIG := bmS (List.mem_of_getElem? (i := 31) (by decide +kernel)) rfl
theorem bs_32 : (Jvm.Cond.selects "WellMoods" (⟨"WellMoods", "isTale", "(III)Z"⟩ : MethodName) (⟨"WellMoods", "isTale", "(III)Z"⟩ : MethodName)) ∈ BIG := bmS (List.mem_of_getElem? (i := 32) (by decide +kernel)) rfl
theorem bs_33 : (Jvm.Cond.selects "WellMoods$Well" (⟨"WellMoods$Well", "lot", "()I"⟩ : MethodName) (⟨"WellMoods$Well", "lot", "()I"⟩ : MethodName)) ∈ BIG := bmS (List.mem_of_getElem? (i := 33) (by decide +kernel)) rfl
theorem bs_34 : (Jvm.Cond.selects "WellMoods$Well" (⟨"WellMoods$Well", "become", "(LWellMoods$Well;)V"⟩ : MethodName) (⟨"WellMoods$Well", "become", "(LWellMoods$Well;)V"⟩ : MethodName)) ∈ BIG := bmS (List.mem_of_getElem? (i := 34) (by decide +kernel)) rfl
theorem bs_35 : (Jvm.Cond.selects "WellMoods" (⟨"WellMoods", "refusal", "(IIII)I"⟩ : MethodName) (⟨"WellMoods", "refusal", "(IIII)I"⟩ : MethodName)) ∈ BIG := bmS (List.mem_of_getElem? (i := 35) (by decide +kernel)) rfl
theorem bs_36 : (Jvm.Cond.selects "WellMoods$Sheet" (⟨"WellMoods$Sheet", "hasSpan", "(II)Z"⟩ : MethodName) (⟨"WellMoods$Sheet", "hasSpan", "(II)Z"⟩ : MethodName)) ∈ BIG := bmS (List.mem_of_getElem? (i := 36) (by decide +kernel)) rfl
theorem bs_37 : (Jvm.Cond.selects "WellMoods" (⟨"WellMoods", "areDrawings", "(LWellMoods$Sheet;II)Z"⟩ : MethodName) (⟨"WellMoods", "areDrawings", "(LWellMoods$Sheet;II)Z"⟩ : MethodName)) ∈ BIG := bmS (List.mem_of_getElem? (i := 37) (by decide +kernel)) rfl
theorem bs_38 : (Jvm.Cond.selects "WellMoods" (⟨"WellMoods", "fitsFrom", "(ILWellMoods$Sheet;II)Z"⟩ : MethodName) (⟨"WellMoods", "fitsFrom", "(ILWellMoods$Sheet;II)Z"⟩ : MethodName)) ∈ BIG := bmS (List.mem_of_getElem? (i := 38) (by decide +kernel)) rfl
theorem bs_39 : (Jvm.Cond.selects "WellMoods$Sheet" (⟨"WellMoods$Sheet", "put", "(IJ)V"⟩ : MethodName) (⟨"WellMoods$Sheet", "put", "(IJ)V"⟩ : MethodName)) ∈ BIG := bmS (List.mem_of_getElem? (i := 39) (by decide +kernel)) rfl
theorem bs_40 : (Jvm.Cond.selects "WellMoods$Sheet" (⟨"WellMoods$Sheet", "begin", "(II)V"⟩ : MethodName) (⟨"WellMoods$Sheet", "begin", "(II)V"⟩ : MethodName)) ∈ BIG := bmS (List.mem_of_getElem? (i := 40) (by decide +kernel)) rfl
theorem bs_41 : (Jvm.Cond.selects "WellMoodsModel" (⟨"WellMoodsModel", "add", "(III)V"⟩ : MethodName) (⟨"WellMoodsModel", "add", "(III)V"⟩ : MethodName)) ∈ BIG := bmS (List.mem_of_getElem? (i := 41) (by decide +kernel)) rfl
theorem bs_42 : (Jvm.Cond.selects "WellMoodsModel" (⟨"WellMoodsModel", "isOne", "(I)Z"⟩ : MethodName) (⟨"WellMoodsModel", "isOne", "(I)Z"⟩ : MethodName)) ∈ BIG := bmS (List.mem_of_getElem? (i := 42) (by decide +kernel)) rfl
theorem bs_43 : (Jvm.Cond.selects "WellMoodsModel" (⟨"WellMoodsModel", "setQuarrel", "(IIZ)V"⟩ : MethodName) (⟨"WellMoodsModel", "setQuarrel", "(IIZ)V"⟩ : MethodName)) ∈ BIG := bmS (List.mem_of_getElem? (i := 43) (by decide +kernel)) rfl
theorem bs_44 : (Jvm.Cond.selects "WellMoodsModel" (⟨"WellMoodsModel", "readVillage", "()Z"⟩ : MethodName) (⟨"WellMoodsModel", "readVillage", "()Z"⟩ : MethodName)) ∈ BIG := bmS (List.mem_of_getElem? (i := 44) (by decide +kernel)) rfl
theorem bs_45 : (Jvm.Cond.selects "WellMoodsModel" (⟨"WellMoodsModel", "readOne", "(I)Z"⟩ : MethodName) (⟨"WellMoodsModel", "readOne", "(I)Z"⟩ : MethodName)) ∈ BIG := bmS (List.mem_of_getElem? (i := 45) (by decide +kernel)) rfl
theorem bs_46 : (Jvm.Cond.selects "WellMoodsModel" (⟨"WellMoodsModel", "nextByte", "()I"⟩ : MethodName) (⟨"WellMoodsModel", "nextByte", "()I"⟩ : MethodName)) ∈ BIG := bmS (List.mem_of_getElem? (i := 46) (by decide +kernel)) rfl
theorem bs_47 : (Jvm.Cond.selects "WellMoodsModel" (⟨"WellMoodsModel", "readDigit", "(II)I"⟩ : MethodName) (⟨"WellMoodsModel", "readDigit", "(II)I"⟩ : MethodName)) ∈ BIG := bmS (List.mem_of_getElem? (i := 47) (by decide +kernel)) rfl
theorem bs_48 : (Jvm.Cond.selects "WellMoodsModel" (⟨"WellMoodsModel", "readPlan", "()Z"⟩ : MethodName) (⟨"WellMoodsModel", "readPlan", "()Z"⟩ : MethodName)) ∈ BIG := bmS (List.mem_of_getElem? (i := 48) (by decide +kernel)) rfl
theorem bs_49 : (Jvm.Cond.selects "WellMoodsModel" (⟨"WellMoodsModel", "goOn", "(I)I"⟩ : MethodName) (⟨"WellMoodsModel", "goOn", "(I)I"⟩ : MethodName)) ∈ BIG := bmS (List.mem_of_getElem? (i := 49) (by decide +kernel)) rfl
theorem bs_50 : (Jvm.Cond.selects "WellMoodsModel" (⟨"WellMoodsModel", "begin", "()V"⟩ : MethodName) (⟨"WellMoodsModel", "begin", "()V"⟩ : MethodName)) ∈ BIG := bmS (List.mem_of_getElem? (i := 50) (by decide +kernel)) rfl
theorem bs_51 : (Jvm.Cond.selects "WellMoodsModel" (⟨"WellMoodsModel", "tryOne", "(I)Z"⟩ : MethodName) (⟨"WellMoodsModel", "tryOne", "(I)Z"⟩ : MethodName)) ∈ BIG := bmS (List.mem_of_getElem? (i := 51) (by decide +kernel)) rfl
theorem bs_52 : (Jvm.Cond.selects "WellMoodsModel" (⟨"WellMoodsModel", "feltBy", "(I)I"⟩ : MethodName) (⟨"WellMoodsModel", "feltBy", "(I)I"⟩ : MethodName)) ∈ BIG := bmS (List.mem_of_getElem? (i := 52) (by decide +kernel)) rfl
theorem bs_53 : (Jvm.Cond.selects "WellMoodsModel" (⟨"WellMoodsModel", "keep", "()V"⟩ : MethodName) (⟨"WellMoodsModel", "keep", "()V"⟩ : MethodName)) ∈ BIG := bmS (List.mem_of_getElem? (i := 53) (by decide +kernel)) rfl
theorem bs_54 : (Jvm.Cond.selects "WellMoodsModel" (⟨"WellMoodsModel", "findMost", "(II)I"⟩ : MethodName) (⟨"WellMoodsModel", "findMost", "(II)I"⟩ : MethodName)) ∈ BIG := bmS (List.mem_of_getElem? (i := 54) (by decide +kernel)) rfl
theorem bs_55 : (Jvm.Cond.selects "WellMoodsModel" (⟨"WellMoodsModel", "nextRow", "(I)Z"⟩ : MethodName) (⟨"WellMoodsModel", "nextRow", "(I)Z"⟩ : MethodName)) ∈ BIG := bmS (List.mem_of_getElem? (i := 55) (by decide +kernel)) rfl
theorem bs_56 : (Jvm.Cond.selects "WellMoodsModel" (⟨"WellMoodsModel", "givesOf", "(II)I"⟩ : MethodName) (⟨"WellMoodsModel", "givesOf", "(II)I"⟩ : MethodName)) ∈ BIG := bmS (List.mem_of_getElem? (i := 56) (by decide +kernel)) rfl
theorem bs_57 : (Jvm.Cond.selects "WellMoodsModel" (⟨"WellMoodsModel", "carried", "(IIZ)I"⟩ : MethodName) (⟨"WellMoodsModel", "carried", "(IIZ)I"⟩ : MethodName)) ∈ BIG := bmS (List.mem_of_getElem? (i := 57) (by decide +kernel)) rfl
theorem bs_58 : (Jvm.Cond.selects "WellMoodsModel" (⟨"WellMoodsModel", "lacksRow", "(IIII)I"⟩ : MethodName) (⟨"WellMoodsModel", "lacksRow", "(IIII)I"⟩ : MethodName)) ∈ BIG := bmS (List.mem_of_getElem? (i := 58) (by decide +kernel)) rfl
theorem bs_59 : (Jvm.Cond.selects "WellMoodsModel" (⟨"WellMoodsModel", "fits", "(III)Z"⟩ : MethodName) (⟨"WellMoodsModel", "fits", "(III)Z"⟩ : MethodName)) ∈ BIG := bmS (List.mem_of_getElem? (i := 59) (by decide +kernel)) rfl
end
section
/-! ===== states: a cell list's numbers, by their slots ===== -/
abbrev wSt : Type := (Nat → Int32) × (Nat → Nat → Int32) × (Nat → Nat → Int64)
def w_i (x : wSt) (k : Nat) : Int32 := x.1 k
def w_a (x : wSt) (k : Nat) : Nat → Int32 := x.2.1 k
def w_l (x : wSt) (k : Nat) : Nat → Int64 := x.2.2 k
def w_si (x : wSt) (k : Nat) (v : Int32) : wSt := (vf_upd x.1 k v, x.2)
def w_sa (x : wSt) (k : Nat) (v : Nat → Int32) : wSt := (x.1, vf_upd x.2.1 k v, x.2.2)
def w_sl (x : wSt) (k : Nat) (v : Nat → Int64) : wSt := (x.1, x.2.1, vf_upd x.2.2 k v)
/-- two of them: a Well or a Search, and its Folk -/
abbrev wP2 : Type := wSt × wSt
def w_o (x : wP2) : wSt := x.1
def w_f (x : wP2) : wSt := x.2
def w_so (x : wP2) (v : wSt) : wP2 := (v, x.2)
def w_sf (x : wP2) (v : wSt) : wP2 := (x.1, v)
/-- the whole of a WellMoods: own, well, kept, tape, newcomers, search, sheets -/
abbrev wXS : Type := wSt × wP2 × wP2 × wSt × wSt × wP2 × (Nat → wSt)
def x_o (x : wXS) : wSt := x.1
def x_w (x : wXS) : wP2 := x.2.1
def x_k (x : wXS) : wP2 := x.2.2.1
def x_t (x : wXS) : wSt := x.2.2.2.1
def x_n (x : wXS) : wSt := x.2.2.2.2.1
def x_s (x : wXS) : wP2 := x.2.2.2.2.2.1
def x_h (x : wXS) : Nat → wSt := x.2.2.2.2.2.2
def x_so (x : wXS) (v : wSt) : wXS := (v, x.2)
def x_sw (x : wXS) (v : wP2) : wXS := (x.1, v, x.2.2)
def x_sk (x : wXS) (v : wP2) : wXS := (x.1, x.2.1, v, x.2.2.2)
def x_st (x : wXS) (v : wSt) : wXS := (x.1, x.2.1, x.2.2.1, v, x.2.2.2.2)
def x_sn (x : wXS) (v : wSt) : wXS := (x.1, x.2.1, x.2.2.1, x.2.2.2.1, v, x.2.2.2.2.2)
def x_ss (x : wXS) (v : wP2) : wXS := (x.1, x.2.1, x.2.2.1, x.2.2.2.1, x.2.2.2.2.1, v, x.2.2.2.2.2.2)
def x_sh (x : wXS) (n : Nat) (v : wSt) : wXS := (x.1, x.2.1, x.2.2.1, x.2.2.2.1, x.2.2.2.2.1, x.2.2.2.2.2.1, vf_upd x.2.2.2.2.2.2 n v)
/-! ===== worlds ===== -/
/-- the tables' numbers: of the classes, and of the rows of ints, bytes, longs, sheets -/
abbrev wG : Type := va_G × ClassId × ClassId × ClassId × ClassId
abbrev xtys (G : wG) : List (ClassId × FieldType) := [(G.2.1, .int), (G.2.2.1, .byte), (G.2.2.2.1, .long), (G.2.2.2.2, .object "WellMoods$Sheet")]
abbrev sh (h : Nat → Nat) (k : Nat) : Nat → Nat := fun i => h (k + i)
def wsFolk (G : wG) (h : Nat → Nat) (f : wSt) : va_W :=
  [(h 0, .inr (0, [.ref (h 1), .ref (h 2), .ref (h 3), .ref (h 4), .int (w_i f 4)])), (h 1, .inl (G.2.1, 6, .inl (w_a f 0))), (h 2, .inl (G.2.1, 6, .inl (w_a f 1))), (h 3, .inl (G.2.1, 6, .inl (w_a f 2))), (h 4, .inl (G.2.1, 6, .inl (w_a f 3)))]
def wsWell (G : wG) (h : Nat → Nat) (w : wP2) : va_W :=
  (h 0, .inr (4, [.ref (h 3), .ref (h 1), .ref (h 2), .int (w_i (w_o w) 3), .int (w_i (w_o w) 4), .int (w_i (w_o w) 5), .int (w_i (w_o w) 6), .int (w_i (w_o w) 7), .int (w_i (w_o w) 8), .int (w_i (w_o w) 9), .int (w_i (w_o w) 10), .int (w_i (w_o w) 11)])) :: (h 1, .inl (G.2.1, 6, .inl (w_a (w_o w) 1))) :: (h 2, .inl (G.2.1, 24, .inl (w_a (w_o w) 2))) :: wsFolk G (sh h 3) (w_f w)
def wsSearch (G : wG) (h : Nat → Nat) (w : wP2) : va_W :=
  (h 0, .inr (1, [.ref (h 4), .ref (h 1), .ref (h 2), .ref (h 3), .int (w_i (w_o w) 4), .int (w_i (w_o w) 5), .int (w_i (w_o w) 6), .int (w_i (w_o w) 7), .int (w_i (w_o w) 8)])) :: (h 1, .inl (G.2.1, 6, .inl (w_a (w_o w) 1))) :: (h 2, .inl (G.2.1, 5, .inl (w_a (w_o w) 2))) :: (h 3, .inl (G.2.1, 5, .inl (w_a (w_o w) 3))) :: wsFolk G (sh h 4) (w_f w)
def wsTape (G : wG) (h : Nat → Nat) (t : wSt) : va_W :=
  [(h 0, .inr (3, [.ref (h 1), .int (w_i t 1), .int (w_i t 2)])), (h 1, .inl (G.2.2.1, 60, .inl (w_a t 0)))]
def wsSheet (G : wG) (h : Nat → Nat) (t : wSt) : va_W :=
  [(h 0, .inr (2, [.ref (h 1), .int (w_i t 1), .int (w_i t 2), .int (w_i t 3)])), (h 1, .inl (G.2.2.2.1, 24, .inr (.inl (w_l t 0))))]
def wsArr (G : wG) (h : Nat → Nat) (n : Nat) (f : Nat → Int32) : va_W := [(h 0, .inl (G.2.1, n, .inl f))]
def wsX (G : wG) (h : Nat → Nat) (x : wXS) : va_W :=
  (h 0, .inr (5, [.ref (h 1), .ref (h 9), .int (w_i (x_o x) 2), .ref (h 17), .ref (h 19), .ref (h 24), .ref (h 25), .ref (h 34)])) :: (wsWell G (sh h 1) (x_w x) ++ (wsWell G (sh h 9) (x_k x) ++ (wsTape G (sh h 17) (x_t x) ++ (wsFolk G (sh h 19) (x_n x) ++ ((h 24, .inl (G.2.1, 24, .inl (w_a (x_o x) 5))) :: (wsSearch G (sh h 25) (x_s x) ++ ((h 34, .inl (G.2.2.2.2, 4, .inr (.inr (.inr (.inr (fun j => some (h (35 + 2 * j)))))))) :: (wsSheet G (sh h 35) (x_h x 0) ++ (wsSheet G (sh h 37) (x_h x 1) ++ (wsSheet G (sh h 39) (x_h x 2) ++ wsSheet G (sh h 41) (x_h x 3)))))))))))
def wsM (G : wG) (h : Nat → Nat) (f : wSt) : va_W :=
  [(h 0, .inr (6, [.ref (h 1), .ref (h 2), .ref (h 3), .ref (h 4), .ref (h 5), .int (w_i f 5), .int (w_i f 6), .int (w_i f 7), .int (w_i f 8), .int (w_i f 9), .int (w_i f 10), .int (w_i f 11), .int (w_i f 12), .ref (h 6), .int (w_i f 14), .int (w_i f 15), .ref (h 7), .int (w_i f 17), .int (w_i f 18), .int (w_i f 19), .ref (h 8), .int (w_i f 21), .int (w_i f 22), .int (w_i f 23), .int (w_i f 24), .int (w_i f 25), .int (w_i f 26), .ref (h 9), .ref (h 10), .ref (h 11), .int (w_i f 30), .ref (h 12), .ref (h 13), .ref (h 14), .ref (h 15), .ref (h 16)])),
   (h 1, .inl (G.2.1, 6, .inl (w_a f 0))), (h 2, .inl (G.2.1, 6, .inl (w_a f 1))), (h 3, .inl (G.2.1, 6, .inl (w_a f 2))), (h 4, .inl (G.2.1, 6, .inl (w_a f 3))), (h 5, .inl (G.2.1, 6, .inl (w_a f 4))),
   (h 6, .inl (G.2.1, 24, .inl (w_a f 13))), (h 7, .inl (G.2.1, 60, .inl (w_a f 16))), (h 8, .inl (G.2.1, 24, .inl (w_a f 20))), (h 9, .inl (G.2.1, 6, .inl (w_a f 27))), (h 10, .inl (G.2.1, 5, .inl (w_a f 28))), (h 11, .inl (G.2.1, 5, .inl (w_a f 29))),
   (h 12, .inl (G.2.1, 64, .inl (w_a f 31))), (h 13, .inl (G.2.1, 4, .inl (w_a f 32))), (h 14, .inl (G.2.1, 4, .inl (w_a f 33))), (h 15, .inl (G.2.2.2.1, 96, .inr (.inl (w_l f 34)))), (h 16, .inl (G.2.2.2.1, 24, .inr (.inl (w_l f 35))))]
/-! ===== what the tables know ===== -/
theorem big_good : ∀ w ∈ BIG, goodWord w = true := fun _ h => (List.mem_filter.mp h).2
theorem big_tbl : ∀ w ∈ BIG, w ∈ lw_tbl := fun _ h => (List.mem_filter.mp h).1
theorem gIn {l : List Cond} (h : ∀ w ∈ l, w ∈ BIG) : GoodIn BIG l := fun w hw => ⟨h w hw, good_of_word (big_good w (h w hw))⟩
def wNW (U : State) : Prop := ∀ w ∈ NWL, va_Nw w U
theorem nest_tab {w : Cond} (h : isNest w = true) : w.onTables = true := by
  cases w <;> first | rfl | (simp [isNest] at h; done)
theorem wNW.warm {s U : State} (hW : s.WarmedH U.vm) (h : wNW s) : wNW U := by
  intro w hw
  have hn : isNest w = true := (List.mem_filter.mp hw).2
  have hz := h w hw
  cases w <;> first | (simp [isNest] at hn; done) | exact va_Nw.warmF hW hz | exact va_Nw.warmM hW hz
theorem wNW.same {u U : State} (e : u.vm = U.vm) (h : wNW u) : wNW U := fun w hw => va_Nw.same (nest_tab (List.mem_filter.mp hw).2) e (h w hw)
theorem wNW.at {w : Cond} {args : Array Value} {U : State} (h : wNW U) (hw : w ∈ NWL) : w.before args U = true := va_Nw.use (nest_tab (List.mem_filter.mp hw).2) (h w hw)
def wKK (G : wG) (U : State) : Prop := va_K G.1 vwCl (xtys G) U ∧ wNW U
theorem wKK.warm {G : wG} {s U : State} (hW : s.WarmedH U.vm) (h : wKK G s) : wKK G U := ⟨va_K.moved hW.alike h.1, h.2.warm hW⟩
theorem wKK.same {G : wG} {u U : State} (e : u.vm = U.vm) (h : wKK G u) : wKK G U := ⟨va_K.moved (by rw [e]; exact Vm.Alike.refl _) h.1, h.2.same e⟩
/-! ===== contracts: what a method finds, what it leaves ===== -/
abbrev xPw (G : wG) (av : List Value) (ws : va_W) (sz : Nat) : Array Value → State → Prop := va_Pc av (fun U => U.heap.size = sz ∧ va_P G.1 vwCl ws U.heap ∧ wKK G U ∧ va_D (fun _ => True) ws)
abbrev xPr (G : wG) (av : List Value) (ws : va_W) : Array Value → State → Prop := va_Pc av (fun U => va_P G.1 vwCl ws U.heap ∧ wKK G U)
abbrev xQi {S : Type} (G : wG) (post : Int32 → S → Prop) (w1 : S → va_W) (A : Nat → Prop) : Array Value → State → Outcome → State → Prop := va_Qi post (fun u t => va_P G.1 vwCl (w1 u) t.heap ∧ va_D A (w1 u)) A
abbrev xQv {S : Type} (G : wG) (post : S → Prop) (w1 : S → va_W) (A : Nat → Prop) : Array Value → State → Outcome → State → Prop := va_Qv post (fun u t => va_P G.1 vwCl (w1 u) t.heap ∧ va_D A (w1 u)) A
theorem xPw_blind {G : wG} {av : List Value} {ws : va_W} {sz : Nat} : FrameBlind (xPw G av ws sz) := fun a U g mk q => by
  obtain ⟨q0, q1, qP, qK, qD⟩ := q
  exact ⟨q0, q1, qP, wKK.same (u := U) (U := U.calling g mk a) rfl qK, qD⟩
theorem xPr_blind {G : wG} {av : List Value} {ws : va_W} : FrameBlind (xPr G av ws) := fun a U g mk q => by
  obtain ⟨q0, qP, qK⟩ := q
  exact ⟨q0, qP, wKK.same (u := U) (U := U.calling g mk a) rfl qK⟩
theorem xm_w {l : Launch} {y : MethodName} {cc : ByteArray} {maxL : Nat} {ret : Option FieldType} {rm : Room} {G : wG} {av : List Value} {ws : va_W} {sz : Nat} {Qf : (Nat → Prop) → Array Value → State → Outcome → State → Prop} (hy : plainName y.cls = true) (hn : (lg_sl av).length ≤ maxL)
    (body : ∀ (p : Program) (e : Env) (s : State) (m : MethodId) (below : List Frame) (meth : Method) (c : Code) (A : Nat → Prop) (ls : Array Slot), CallFix p m c cc maxL s av.toArray BIG y.cls → meth.sig.returnType = ret → meth.locks = false → meth.name = y.name → wKK G s → (∀ q, s.heap.size ≤ q → A q) → va_P G.1 vwCl ws s.heap → va_D A ws → va_S A s.heap s.heap [] → lv_has ls maxL (lv_args 0 av) →
      W p l e rm s m av.toArray below meth c s.heap [] 0 0 (MQ below (Qf A) av.toArray s rm.cells rm.slots A) (F0 m 0 ls [])) :
    Met l y (.code y cc maxL ret :: BIG) rm (xPw G av ws sz) (Qf (va_A ws sz)) rm.cells rm.slots (va_A ws sz) := by
  refine Met.ofW (cc := cc) (maxL := maxL) (ret := ret) hy rfl ?_
  intro p e s m args below meth c s₁ B hml hv
  obtain ⟨rfl, hsz, hP, hK, hD0⟩ := hv
  have hts := atoms_spec (ws := .code y cc maxL ret :: BIG) B.pre
  subst hsz
  have hl := lv_entry av (n := maxL) hn
  rw [lg_entry_eq]
  exact body p e s m below meth c _ _ ⟨B.exec, B.bytes, hml, findClass_of_methodNamed B.named, fun w h => hts w (List.mem_cons_of_mem _ h)⟩ B.returns B.notSynchronized (name_of_methodNamed B.named B.method).1 hK (fun q h => Or.inr h) hP (hD0.self (sz := s.heap.size)) va_S.rf hl
theorem xm_r {l : Launch} {y : MethodName} {cc : ByteArray} {maxL : Nat} {ret : Option FieldType} {rm : Room} {G : wG} {av : List Value} {ws : va_W} {Qc : Array Value → State → Outcome → State → Prop} (hy : plainName y.cls = true) (hn : (lg_sl av).length ≤ maxL)
    (body : ∀ (p : Program) (e : Env) (s : State) (m : MethodId) (below : List Frame) (meth : Method) (c : Code) (ls : Array Slot), CallFix p m c cc maxL s av.toArray BIG y.cls → meth.sig.returnType = ret → meth.locks = false → wKK G s → va_P G.1 vwCl ws s.heap → lv_has ls maxL (lv_args 0 av) →
      W p l e rm s m av.toArray below meth c s.heap [] 0 0 (MQ below Qc av.toArray s 0 0 (fun _ => False)) (F0 m 0 ls [])) :
    Met l y (.code y cc maxL ret :: BIG) rm (xPr G av ws) Qc 0 0 (fun _ => False) := by
  refine Met.ofW (cc := cc) (maxL := maxL) (ret := ret) hy rfl ?_
  intro p e s m args below meth c s₁ B hml hv
  obtain ⟨rfl, hP, hK⟩ := hv
  have hts := atoms_spec (ws := .code y cc maxL ret :: BIG) B.pre
  have hl := lv_entry av (n := maxL) hn
  rw [lg_entry_eq]
  exact body p e s m below meth c _ ⟨B.exec, B.bytes, hml, findClass_of_methodNamed B.named, fun w h => hts w (List.mem_cons_of_mem _ h)⟩ B.returns B.notSynchronized hK hP hl
/-! ===== a method's end ===== -/
section XE
variable {p : Program} {l : Launch} {e : Env} {R : Room} {s : State} {m : MethodId} {args : Array Value} {below : List Frame} {meth : Method} {c : Code} {H : Heap} {locs : List Loc} {cells slots : Nat}
variable {cc : ByteArray} {nL : Nat} {own : String} {pc : Nat} {ls : Array Slot} {A : Nat → Prop} {G : wG}
theorem xe_wi {S : Type} {post : Int32 → S → Prop} {w1 : S → va_W} {v : Int32} {u : S} (hC : CallFix p m c cc nL s args BIG own) (hr : meth.sig.returnType = some .int) (hlk : meth.locks = false) (hw : post v u) (hP : va_P G.1 vwCl (w1 u) H) (hD : va_D A (w1 u)) (hS : va_S A s.heap H locs) (hdg : decode cc pc = .ok (.ireturn, 1)) : W p l e R s m args below meth c H locs cells slots (MQ below (xQi G post w1 A) args s cells slots A) (F0 m pc ls [.int v]) :=
  W.iret hC.1 hC.2.1 hr (fun t ht hW => ⟨⟨v, u, rfl, hw, by rw [ht]; exact hP, hD⟩, hS.F ht⟩) hS.2.2 hdg hlk
theorem xe_wz {S : Type} {post : Int32 → S → Prop} {w1 : S → va_W} {v : Int32} {u : S} (hC : CallFix p m c cc nL s args BIG own) (hr : meth.sig.returnType = some .boolean) (hlk : meth.locks = false) (hn : narrow .boolean (.int v) = .int v) (hw : post v u) (hP : va_P G.1 vwCl (w1 u) H) (hD : va_D A (w1 u)) (hS : va_S A s.heap H locs) (hdg : decode cc pc = .ok (.ireturn, 1)) : W p l e R s m args below meth c H locs cells slots (MQ below (xQi G post w1 A) args s cells slots A) (F0 m pc ls [.int v]) :=
  W.zret hC.1 hC.2.1 hr hn (fun t ht hW => ⟨⟨v, u, rfl, hw, by rw [ht]; exact hP, hD⟩, hS.F ht⟩) hS.2.2 hdg hlk
theorem xe_wv {S : Type} {post : S → Prop} {w1 : S → va_W} {u : S} (hC : CallFix p m c cc nL s args BIG own) (hr : meth.sig.returnType = none) (hlk : meth.locks = false) (hw : post u) (hP : va_P G.1 vwCl (w1 u) H) (hD : va_D A (w1 u)) (hS : va_S A s.heap H locs) (hdg : decode cc pc = .ok (.return_, 1)) : W p l e R s m args below meth c H locs cells slots (MQ below (xQv G post w1 A) args s cells slots A) (F0 m pc ls []) :=
  W.vret hC.1 hC.2.1 hr (fun t ht hW => ⟨⟨u, rfl, hw, by rw [ht]; exact hP, hD⟩, hS.F ht⟩) hS.2.2 hdg hlk
theorem xe_ri {post : Int32 → Prop} {v : Int32} (hC : CallFix p m c cc nL s args BIG own) (hr : meth.sig.returnType = some .int) (hlk : meth.locks = false) (hw : post v) (hdg : decode cc pc = .ok (.ireturn, 1)) : W p l e R s m args below meth c s.heap [] 0 0 (MQ below (vp_Si post) args s 0 0 (fun _ => False)) (F0 m pc ls [.int v]) :=
  W.iret hC.1 hC.2.1 hr (fun t ht hW => ⟨v, rfl, hw, ht⟩) (fun _ h => by cases h) hdg hlk
theorem xe_rz {post : Int32 → Prop} {v : Int32} (hC : CallFix p m c cc nL s args BIG own) (hr : meth.sig.returnType = some .boolean) (hlk : meth.locks = false) (hn : narrow .boolean (.int v) = .int v) (hw : post v) (hdg : decode cc pc = .ok (.ireturn, 1)) : W p l e R s m args below meth c s.heap [] 0 0 (MQ below (vp_Si post) args s 0 0 (fun _ => False)) (F0 m pc ls [.int v]) :=
  W.zret hC.1 hC.2.1 hr hn (fun t ht hW => ⟨v, rfl, hw, ht⟩) (fun _ h => by cases h) hdg hlk
theorem xe_rl {post : Int64 → Prop} {v : Int64} (hC : CallFix p m c cc nL s args BIG own) (hr : meth.sig.returnType = some .long) (hlk : meth.locks = false) (hw : post v) (hdg : decode cc pc = .ok (.lreturn, 1)) : W p l e R s m args below meth c s.heap [] 0 0 (MQ below (vp_Sl post) args s 0 0 (fun _ => False)) (F0 m pc ls [.long v]) :=
  W.lret hC.1 hC.2.1 hr (fun t ht hW => ⟨v, rfl, hw, ht⟩) (fun _ h => by cases h) hdg hlk
end XE
/-! ===== calls ===== -/
def xCalV (y : MethodName) (bytes : ByteArray) (maxL : Nat) (ret : Option FieldType) (n : Nat) : Prop := Cond.instanceMethod y ∈ BIG ∧ Cond.selects y.cls y y ∈ BIG ∧ Cond.initialized y.cls ∈ BIG ∧ Cond.code y bytes maxL ret ∈ BIG ∧ y.cls ≠ "java/lang/invoke/MethodHandle" ∧ y.cls ≠ "java/lang/invoke/VarHandle" ∧ (parseMethodDescriptor y.desc).map (fun d => d.parameters.length) = some n
def xCalS (y : MethodName) (bytes : ByteArray) (maxL : Nat) (ret : Option FieldType) (n : Nat) : Prop := Cond.static y ∈ BIG ∧ Cond.initialized y.cls ∈ BIG ∧ Cond.code y bytes maxL ret ∈ BIG ∧ y.cls ≠ "java/lang/invoke/MethodHandle" ∧ y.cls ≠ "java/lang/invoke/VarHandle" ∧ (parseMethodDescriptor y.desc).map (fun d => d.parameters.length) = some n
section XR
variable {p : Program} {l : Launch} {e : Env} {R : Room} {s : State} {m : MethodId} {args : Array Value} {below : List Frame} {meth : Method} {c : Code} {H : Heap} {locs : List Loc} {cells slots : Nat}
variable {cc bytes : ByteArray} {nL maxL n index : Nat} {own host : String} {y : MethodName} {ret : Option FieldType} {rm : Room} {pc : Nat} {ls : Array Slot} {st0 : List Value} {G : wG} {mc ms : Nat}
variable {Pc : Array Value → State → Prop} {Qc : Array Value → State → Outcome → State → Prop} {free : Addr → Prop} {lv : List (Nat × Value)}
theorem xr_V (hC : CallFix p m c cc nL s args BIG own) (hM : Met l y (.code y bytes maxL ret :: BIG) rm Pc Qc mc ms free) (hrm : rm.cells = mc ∧ rm.slots = ms) (hk : Cond.methodLink own index y ∈ BIG) (ca : xCalV y bytes maxL ret n) (hR : rm.frames + 1 ≤ R.frames ∧ 8 + (maxL + 11) + rm.locals ≤ R.locals) {b : Addr} {As rest : List Value} (hp : PreV s H y.cls b Pc As) (hn : As.length = n) (hl : lv_has ls nL lv) (hst : st0 = As.reverse ++ .ref b :: rest) (hW : (rest.map fun v => v.category).sum ≤ 8) (hdg : decode cc pc = .ok (.invokevirtual index, 3)) (hf : cells + mc ≤ R.cells ∧ slots + ms ≤ R.slots) : va_Run p l e R s m args below meth c H locs cells slots mc ms (F0 m pc ls st0) rest (Qc (Value.ref b :: As).toArray) free := by
  obtain ⟨a1, a2, a3, a4, a5, a6, a7⟩ := ca
  refine va_runV hC hM (cwV n hC.2.2.2.2 (gIn ?_) rfl hrm.1 hrm.2 ⟨rfl, a5, a6, a7⟩ hR) hp rfl hn hl.1 hst (lv_room hW) hdg hf
  intro w hw
  rcases List.mem_append.mp hw with h | h
  · simp only [List.mem_cons, List.not_mem_nil, or_false] at h
    rcases h with rfl | rfl | rfl | rfl <;> assumption
  · rcases List.mem_cons.mp h with rfl | h <;> assumption
theorem xr_VN (hC : CallFix p m c cc nL s args BIG own) (hN : wNW s) (hM : Met l y (.code y bytes maxL ret :: BIG) rm Pc Qc mc ms free) (hrm : rm.cells = mc ∧ rm.slots = ms) (hk : Cond.methodLinkNest own index y host ∈ NWL) (ca : xCalV y bytes maxL ret n) (hR : rm.frames + 1 ≤ R.frames ∧ 8 + (maxL + 11) + rm.locals ≤ R.locals) {b : Addr} {As rest : List Value} (hp : PreV s H y.cls b Pc As) (hn : As.length = n) (hl : lv_has ls nL lv) (hst : st0 = As.reverse ++ .ref b :: rest) (hW : (rest.map fun v => v.category).sum ≤ 8) (hdg : decode cc pc = .ok (.invokevirtual index, 3)) (hf : cells + mc ≤ R.cells ∧ slots + ms ≤ R.slots) : va_Run p l e R s m args below meth c H locs cells slots mc ms (F0 m pc ls st0) rest (Qc (Value.ref b :: As).toArray) free := by
  obtain ⟨a1, a2, a3, a4, a5, a6, a7⟩ := ca
  have hB := hC.2.2.2.2
  refine va_runVN hC hM ⟨va_cnB n hB (gIn ?_) rfl hrm.1 hrm.2 (hN _ hk) (hB _ a3) ⟨a5, a6, a7⟩ hR, hB _ a1, hB _ a2⟩ hp rfl hn hl.1 hst (lv_room hW) hdg hf
  intro w hw
  rcases List.mem_cons.mp hw with rfl | h <;> assumption
theorem xr_S (hC : CallFix p m c cc nL s args BIG own) (hM : Met l y (.code y bytes maxL ret :: BIG) rm Pc Qc mc ms free) (hrm : rm.cells = mc ∧ rm.slots = ms) (hk : Cond.methodLink own index y ∈ BIG) (ca : xCalS y bytes maxL ret n) (hR : rm.frames + 1 ≤ R.frames ∧ 8 + (maxL + 11) + rm.locals ≤ R.locals) {As rest : List Value} (hp : PreS s H Pc As) (hn : As.length = n) (hl : lv_has ls nL lv) (hst : st0 = As.reverse ++ rest) (hW : (rest.map fun v => v.category).sum ≤ 8) (hdg : decode cc pc = .ok (.invokestatic index, 3)) (hf : cells + mc ≤ R.cells ∧ slots + ms ≤ R.slots) : va_Run p l e R s m args below meth c H locs cells slots mc ms (F0 m pc ls st0) rest (Qc As.toArray) free := by
  obtain ⟨a1, a3, a4, a5, a6, a7⟩ := ca
  refine va_runS hC hM (va_cwS n hC.2.2.2.2 (gIn ?_) rfl hrm.1 hrm.2 ⟨a5, a6, a7⟩ hR) hp rfl hn hl.1 hst (lv_room hW) hdg hf
  intro w hw
  rcases List.mem_append.mp hw with h | h
  · simp only [List.mem_cons, List.not_mem_nil, or_false] at h
    rcases h with rfl | rfl | rfl <;> assumption
  · rcases List.mem_cons.mp h with rfl | h <;> assumption
theorem xr_SN (hC : CallFix p m c cc nL s args BIG own) (hN : wNW s) (hM : Met l y (.code y bytes maxL ret :: BIG) rm Pc Qc mc ms free) (hrm : rm.cells = mc ∧ rm.slots = ms) (hk : Cond.methodLinkNest own index y host ∈ NWL) (ca : xCalS y bytes maxL ret n) (hR : rm.frames + 1 ≤ R.frames ∧ 8 + (maxL + 11) + rm.locals ≤ R.locals) {As rest : List Value} (hp : PreS s H Pc As) (hn : As.length = n) (hl : lv_has ls nL lv) (hst : st0 = As.reverse ++ rest) (hW : (rest.map fun v => v.category).sum ≤ 8) (hdg : decode cc pc = .ok (.invokestatic index, 3)) (hf : cells + mc ≤ R.cells ∧ slots + ms ≤ R.slots) : va_Run p l e R s m args below meth c H locs cells slots mc ms (F0 m pc ls st0) rest (Qc As.toArray) free := by
  obtain ⟨a1, a3, a4, a5, a6, a7⟩ := ca
  have hB := hC.2.2.2.2
  refine va_runSN hC hM ⟨va_cnB n hB (gIn ?_) rfl hrm.1 hrm.2 (hN _ hk) (hB _ a3) ⟨a5, a6, a7⟩ hR, hB _ a1, trivial⟩ hp rfl hn hl.1 hst (lv_room hW) hdg hf
  intro w hw
  rcases List.mem_cons.mp hw with rfl | h <;> assumption
theorem xro {rest : List Value} {Qa : State → Outcome → State → Prop} {g : JFrame} (h : va_Run p l e R s m args below meth c H locs cells slots mc ms g rest Qa free) : CallRun p l e R s m args below meth c H locs cells slots mc ms g rest Qa free := by
  intro T hT X
  obtain ⟨v, st₀, t, T', L, a1, a2, a3, a4, a5, a6, a7⟩ := h T hT X
  exact ⟨v, st₀, t, T', L, a1, a2, a3, a4, a6, a7⟩
end XR
/-! ===== a cut of a world: the callee's cells, the rest, and how they come together again ===== -/
def xCut {S : Type} (ws wc : va_W) (w1 ws1 : S → va_W) : Prop := ∃ (isC isR ps : List Nat) (wr : va_W), isC.map (fun i => ws[i]?) = wc.map some ∧ isR.map (fun i => ws[i]?) = wr.map some ∧ va_nd isC = true ∧ va_nd isR = true ∧ (∀ i ∈ isR, i ∉ isC) ∧ va_nd ps = true ∧ ∀ u, ps.map (fun i => (wr ++ w1 u)[i]?) = (ws1 u).map some
theorem xsub {D : va_G} {cl : List vw_C} {ws wc : va_W} {H : Heap} (is : List Nat) (hs : is.map (fun i => ws[i]?) = wc.map some) (h : va_P D cl ws H) : va_P D cl wc H := by
  intro k q hq
  obtain ⟨i, -, hi⟩ := va_in_of is hs hq
  exact h i q hi
section XCUT
variable {S : Type} {ws wc : va_W} {w1 ws1 : S → va_W} {D : va_G} {cl : List vw_C} {A : Nat → Prop} {H H1 H0 : Heap} {locs : List Loc}
theorem xCut.P (hc : xCut ws wc w1 ws1) (h : va_P D cl ws H) : va_P D cl wc H := by
  obtain ⟨isC, isR, ps, wr, h1, -⟩ := hc
  exact xsub isC h1 h
theorem xCut.Dd (hc : xCut ws wc w1 ws1) (h : va_D A ws) : va_D (fun _ => True) wc := by
  obtain ⟨isC, isR, ps, wr, h1, -, h3, -⟩ := hc
  exact (h.sub isC h3 h1).weaken (fun _ _ _ _ => trivial)
theorem xCut.F (hc : xCut ws wc w1 ws1) (hD : va_D A ws) (hS : va_S A H0 H locs) (hA : ∀ q, H0.size ≤ q → A q) : ∀ q, va_A wc H.size q → A q := by
  obtain ⟨isC, isR, ps, wr, h1, -⟩ := hc
  exact va_free hD hS hA isC h1
theorem xCut.J (hc : xCut ws wc w1 ws1) (hP : va_P D cl ws H) (hD : va_D A ws) (hk : ∀ q : Nat, q < H.size → ¬ va_A wc H.size q → H1[q]? = H[q]?) (hF : ∀ q, va_A wc H.size q → A q) (u : S) (hP1 : va_P D cl (w1 u) H1) (hD1 : va_D (va_A wc H.size) (w1 u)) : va_P D cl (ws1 u) H1 ∧ va_D A (ws1 u) := by
  obtain ⟨isC, isR, ps, wr, h1, h2, h3, h4, h5, h6, h7⟩ := hc
  obtain ⟨hP2, hD2⟩ := va_join hP hD isC isR h1 h2 h4 h5 hk hF hP1 hD1
  exact ⟨xsub ps (h7 u) hP2, hD2.sub ps h6 (h7 u)⟩
/-- the whole world goes along -/
theorem xCut.all {f : S → va_W} {u0 : S} (n : Nat) (h : ∀ u : S, (List.range n).map (fun i => (f u)[i]?) = (f u).map some) (hn : va_nd (List.range n) = true) : xCut (f u0) (f u0) f f :=
  ⟨List.range n, [], List.range n, [], h u0, rfl, hn, rfl, fun _ h => absurd h List.not_mem_nil, hn, fun u => by rw [List.nil_append]; exact h u⟩
end XCUT
section XCALL
variable {p : Program} {l : Launch} {e : Env} {R : Room} {s : State} {m : MethodId} {args : Array Value} {below : List Frame} {meth : Method} {c : Code} {H : Heap} {locs : List Loc} {cells slots : Nat} {Q : State → Prop}
variable {pc : Nat} {ls : Array Slot} {rest st0 : List Value} {a : Array Value} {A : Nat → Prop} {G : wG} {mc ms : Nat}
theorem xc_wi {S : Type} {post : Int32 → S → Prop} {w1 : S → va_W} {Z : Type} {f : S → Z} {wsz : Z → va_W} {ws wc : va_W} (hr : va_Run p l e R s m args below meth c H locs cells slots mc ms (F0 m pc ls st0) rest (xQi G post w1 (va_A wc H.size) a) (va_A wc H.size)) (hc : xCut ws wc w1 (fun u => wsz (f u))) (hP : va_P G.1 vwCl ws H) (hD : va_D A ws) (hS : va_S A s.heap H locs) (hA : ∀ q, s.heap.size ≤ q → A q)
    (kk : ∀ (r : Int32) (u : S) (z1 : Z) (H1 : Heap) (locs1 : List Loc), z1 = f u → post r u → va_P G.1 vwCl (wsz z1) H1 → va_D A (wsz z1) → va_S A s.heap H1 locs1 → W p l e R s m args below meth c H1 locs1 (cells + mc) (slots + ms) Q (F0 m (pc + 3) ls (.int r :: rest))) : W p l e R s m args below meth c H locs cells slots Q (F0 m pc ls st0) := by
  have hF := hc.F hD hS hA
  refine va_calli hr hS (fun q _ h => hF q h) hF (fun r u t H1 locs1 ht hvm hw hB hz1 hk1 hS1 => ?_)
  subst ht
  obtain ⟨hP1, hD1⟩ := hc.J hP hD hk1 hF u hB.1 hB.2
  exact kk r u _ _ locs1 rfl hw hP1 hD1 hS1
theorem xc_wv {S : Type} {post : S → Prop} {w1 : S → va_W} {Z : Type} {f : S → Z} {wsz : Z → va_W} {ws wc : va_W} (hr : va_Run p l e R s m args below meth c H locs cells slots mc ms (F0 m pc ls st0) rest (xQv G post w1 (va_A wc H.size) a) (va_A wc H.size)) (hc : xCut ws wc w1 (fun u => wsz (f u))) (hP : va_P G.1 vwCl ws H) (hD : va_D A ws) (hS : va_S A s.heap H locs) (hA : ∀ q, s.heap.size ≤ q → A q)
    (kk : ∀ (u : S) (z1 : Z) (H1 : Heap) (locs1 : List Loc), z1 = f u → post u → va_P G.1 vwCl (wsz z1) H1 → va_D A (wsz z1) → va_S A s.heap H1 locs1 → W p l e R s m args below meth c H1 locs1 (cells + mc) (slots + ms) Q (F0 m (pc + 3) ls rest)) : W p l e R s m args below meth c H locs cells slots Q (F0 m pc ls st0) := by
  have hF := hc.F hD hS hA
  refine va_callv hr hS (fun q _ h => hF q h) hF (fun u t H1 locs1 ht hvm hw hB hz1 hk1 hS1 => ?_)
  subst ht
  obtain ⟨hP1, hD1⟩ := hc.J hP hD hk1 hF u hB.1 hB.2
  exact kk u _ _ locs1 rfl hw hP1 hD1 hS1
/-- what a call that writes finds -/
theorem xpV {S : Type} {w1 ws1 : S → va_W} {ws wc : va_W} {C : String} {T : u_T} {N ci : Nat} {b : Addr} {fs As : List Value} (hK : wKK G s) (hc : xCut ws wc w1 ws1) (hP : va_P G.1 vwCl ws H) (hD : va_D A ws) (he : wc[0]? = some (b, .inr (ci, fs))) (hci : vwCl[ci]? = some (C, T, N)) : PreV s H C b (xPw G (.ref b :: As) wc H.size) As :=
  ⟨xPw_blind, va_recv hK.1 (hc.P hP) hci he, fun U hU hW => ⟨rfl, by rw [hU], by rw [hU]; exact hc.P hP, hK.warm hW, hc.Dd hD⟩⟩
/-- what a call that only reads finds -/
theorem xpR {wc : va_W} {C : String} {T : u_T} {N ci : Nat} {b : Addr} {fs As : List Value} (hK : wKK G s) (hP : va_P G.1 vwCl wc H) (he : wc[0]? = some (b, .inr (ci, fs))) (hci : vwCl[ci]? = some (C, T, N)) : PreV s H C b (xPr G (.ref b :: As) wc) As :=
  ⟨xPr_blind, va_recv hK.1 hP hci he, fun U hU hW => ⟨rfl, by rw [hU]; exact hP, hK.warm hW⟩⟩
theorem xpS {As : List Value} (hK : wKK G s) : PreS s H (xPr G As []) As :=
  ⟨xPr_blind, fun U hU hW => ⟨rfl, fun k q h => by simp at h, hK.warm hW⟩⟩
end XCALL
/-! ===== switches ===== -/
theorem x_tsw (x : Int32) (n : Nat) (hn : n < 2 ^ 31) : (x.toInt < 0 ∨ (n : Int) - 1 < x.toInt) ∨ ∃ j : Nat, j < n ∧ x = Int32.ofNat j := by
  by_cases h : x.toInt < 0 ∨ (n : Int) - 1 < x.toInt
  · exact Or.inl h
  · refine Or.inr ⟨x.toInt.toNat, by omega, ?_⟩
    apply Int32.toInt_inj.mp
    have h1 : (Int32.ofNat x.toInt.toNat).toInt = ((x.toInt.toNat : Nat) : Int) := nI_toInt (n := x.toInt.toNat) (by omega)
    rw [h1]
    omega
theorem x_tswL (x : Int32) (lo n : Nat) (hn : lo + n < 2 ^ 31) : (x.toInt < (lo : Int) ∨ (lo : Int) + (n : Int) - 1 < x.toInt) ∨ ∃ j : Nat, j < n ∧ x = Int32.ofNat (lo + j) := by
  by_cases h : x.toInt < (lo : Int) ∨ (lo : Int) + (n : Int) - 1 < x.toInt
  · exact Or.inl h
  · refine Or.inr ⟨x.toInt.toNat - lo, by omega, ?_⟩
    apply Int32.toInt_inj.mp
    have h1 : (Int32.ofNat (lo + (x.toInt.toNat - lo))).toInt = ((lo + (x.toInt.toNat - lo) : Nat) : Int) := nI_toInt (n := lo + (x.toInt.toNat - lo)) (by omega)
    rw [h1]
    omega
/-- a number that a boolean field keeps -/
def w_zb (v : Int32) : Prop := narrow .boolean (.int v) = .int v ∧ fits .boolean (.int v) = true
theorem inX0 : ∀ w ∈ wsX00, w ∈ BIG := fun w h => bmT ((by decide +kernel : ∀ w ∈ wsX00, w ∈ tables_1) w h) ((by decide +kernel : ∀ w ∈ wsX00, goodWord w = true) w h)
theorem inX1 : ∀ w ∈ wsX10, w ∈ BIG := fun w h => bmT ((by decide +kernel : ∀ w ∈ wsX10, w ∈ tables_1) w h) ((by decide +kernel : ∀ w ∈ wsX10, goodWord w = true) w h)
theorem inX2 : ∀ w ∈ wsX20, w ∈ BIG := fun w h => bmT ((by decide +kernel : ∀ w ∈ wsX20, w ∈ tables_1) w h) ((by decide +kernel : ∀ w ∈ wsX20, goodWord w = true) w h)
theorem inX3 : ∀ w ∈ wsX30, w ∈ BIG := fun w h => bmT ((by decide +kernel : ∀ w ∈ wsX30, w ∈ tables_1) w h) ((by decide +kernel : ∀ w ∈ wsX30, goodWord w = true) w h)
theorem inX4 : ∀ w ∈ wsX40, w ∈ BIG := fun w h => bmT ((by decide +kernel : ∀ w ∈ wsX40, w ∈ tables_1) w h) ((by decide +kernel : ∀ w ∈ wsX40, goodWord w = true) w h)
theorem inX5 : ∀ w ∈ wsX50, w ∈ BIG := fun w h => bmT ((by decide +kernel : ∀ w ∈ wsX50, w ∈ tables_1) w h) ((by decide +kernel : ∀ w ∈ wsX50, goodWord w = true) w h)
theorem inX6 : ∀ w ∈ wsX60, w ∈ BIG := fun w h => bmT ((by decide +kernel : ∀ w ∈ wsX60, w ∈ tables_1) w h) ((by decide +kernel : ∀ w ∈ wsX60, goodWord w = true) w h)
/-! ===== the sheets of a WellMoods, by their number ===== -/
theorem wsX_h {G : wG} {h : Nat → Nat} {x : wXS} {n : Nat} (hn : n < 4) : (wsX G h x)[35 + 2 * n]? = some (h (35 + 2 * n), .inr (2, [.ref (h (36 + 2 * n)), .int (w_i (x_h x n) 1), .int (w_i (x_h x n) 2), .int (w_i (x_h x n) 3)])) ∧ (wsX G h x)[36 + 2 * n]? = some (h (36 + 2 * n), .inl (G.2.2.2.1, 24, .inr (.inl (w_l (x_h x n) 0)))) := by
  rcases (show n = 0 ∨ n = 1 ∨ n = 2 ∨ n = 3 by omega) with rfl | rfl | rfl | rfl <;> exact ⟨rfl, rfl⟩
theorem wsX_hp1 {G : wG} {h : Nat → Nat} {x : wXS} {n : Nat} (hn : n < 4) (v : Int32) : (wsX G h x).set (35 + 2 * n) (h (35 + 2 * n), .inr (2, [Value.ref (h (36 + 2 * n)), .int (w_i (x_h x n) 1), .int (w_i (x_h x n) 2), .int (w_i (x_h x n) 3)].set 1 (.int v))) = wsX G h (x_sh x n (w_si (x_h x n) 1 v)) := by
  rcases (show n = 0 ∨ n = 1 ∨ n = 2 ∨ n = 3 by omega) with rfl | rfl | rfl | rfl <;> rfl
theorem wsX_hs {G : wG} {h : Nat → Nat} {x : wXS} {n : Nat} (hn : n < 4) (f : Nat → Int64) : (wsX G h x).set (36 + 2 * n) (h (36 + 2 * n), .inl (G.2.2.2.1, 24, .inr (.inl f))) = wsX G h (x_sh x n (w_sl (x_h x n) 0 f)) := by
  rcases (show n = 0 ∨ n = 1 ∨ n = 2 ∨ n = 3 by omega) with rfl | rfl | rfl | rfl <;> rfl
/-! ===== contracts by their ends ===== -/
section XM
variable {l : Launch} {y : MethodName} {cc : ByteArray} {maxL : Nat} {G : wG} {av : List Value} {ws : va_W} {sz fr lo : Nat}
theorem xm_wi {S : Type} {post : Int32 → S → Prop} {w1 : S → va_W} (hy : plainName y.cls = true) (hn : (lg_sl av).length ≤ maxL)
    (body : ∀ (p : Program) (e : Env) (s : State) (m : MethodId) (args : Array Value) (below : List Frame) (meth : Method) (c : Code) (A : Nat → Prop) (ls : Array Slot) (R : Room) (Q : State → Prop), CallFix p m c cc maxL s args BIG y.cls → wKK G s → (∀ q, s.heap.size ≤ q → A q) → va_P G.1 vwCl ws s.heap → va_D A ws → va_S A s.heap s.heap [] → lv_has ls maxL (lv_args 0 av) → fr ≤ R.frames → lo ≤ R.locals →
      (∀ (v : Int32) (u : S) (H : Heap) (locs : List Loc) (pc : Nat) (ls : Array Slot), post v u → va_P G.1 vwCl (w1 u) H → va_D A (w1 u) → va_S A s.heap H locs → decode cc pc = .ok (.ireturn, 1) → W p l e R s m args below meth c H locs 0 0 Q (F0 m pc ls [.int v])) →
      W p l e R s m args below meth c s.heap [] 0 0 Q (F0 m 0 ls [])) :
    Met l y (.code y cc maxL (some .int) :: BIG) { frames := fr, cells := 0, slots := 0, locals := lo } (xPw G av ws sz) (xQi G post w1 (va_A ws sz)) 0 0 (va_A ws sz) :=
  xm_w (rm := { frames := fr, cells := 0, slots := 0, locals := lo }) (Qf := fun A => xQi G post w1 A) hy hn (fun p e s m below meth c A ls hC hr hlk _ hK hA hP hD hS hl => body p e s m av.toArray below meth c A ls _ _ hC hK hA hP hD hS hl (Nat.le_refl _) (Nat.le_refl _) (fun v u H locs pc ls hw hP hD hS hdg => xe_wi hC hr hlk hw hP hD hS hdg))
theorem xm_wz {S : Type} {post : Int32 → S → Prop} {w1 : S → va_W} (hy : plainName y.cls = true) (hn : (lg_sl av).length ≤ maxL)
    (body : ∀ (p : Program) (e : Env) (s : State) (m : MethodId) (args : Array Value) (below : List Frame) (meth : Method) (c : Code) (A : Nat → Prop) (ls : Array Slot) (R : Room) (Q : State → Prop), CallFix p m c cc maxL s args BIG y.cls → wKK G s → (∀ q, s.heap.size ≤ q → A q) → va_P G.1 vwCl ws s.heap → va_D A ws → va_S A s.heap s.heap [] → lv_has ls maxL (lv_args 0 av) → fr ≤ R.frames → lo ≤ R.locals →
      (∀ (v : Int32) (u : S) (H : Heap) (locs : List Loc) (pc : Nat) (ls : Array Slot), narrow .boolean (.int v) = .int v → post v u → va_P G.1 vwCl (w1 u) H → va_D A (w1 u) → va_S A s.heap H locs → decode cc pc = .ok (.ireturn, 1) → W p l e R s m args below meth c H locs 0 0 Q (F0 m pc ls [.int v])) →
      W p l e R s m args below meth c s.heap [] 0 0 Q (F0 m 0 ls [])) :
    Met l y (.code y cc maxL (some .boolean) :: BIG) { frames := fr, cells := 0, slots := 0, locals := lo } (xPw G av ws sz) (xQi G post w1 (va_A ws sz)) 0 0 (va_A ws sz) :=
  xm_w (rm := { frames := fr, cells := 0, slots := 0, locals := lo }) (Qf := fun A => xQi G post w1 A) hy hn (fun p e s m below meth c A ls hC hr hlk _ hK hA hP hD hS hl => body p e s m av.toArray below meth c A ls _ _ hC hK hA hP hD hS hl (Nat.le_refl _) (Nat.le_refl _) (fun v u H locs pc ls hz hw hP hD hS hdg => xe_wz hC hr hlk hz hw hP hD hS hdg))
theorem xm_wv {S : Type} {post : S → Prop} {w1 : S → va_W} (hy : plainName y.cls = true) (hn : (lg_sl av).length ≤ maxL)
    (body : ∀ (p : Program) (e : Env) (s : State) (m : MethodId) (args : Array Value) (below : List Frame) (meth : Method) (c : Code) (A : Nat → Prop) (ls : Array Slot) (R : Room) (Q : State → Prop), CallFix p m c cc maxL s args BIG y.cls → wKK G s → (∀ q, s.heap.size ≤ q → A q) → va_P G.1 vwCl ws s.heap → va_D A ws → va_S A s.heap s.heap [] → lv_has ls maxL (lv_args 0 av) → fr ≤ R.frames → lo ≤ R.locals →
      (∀ (u : S) (H : Heap) (locs : List Loc) (pc : Nat) (ls : Array Slot), post u → va_P G.1 vwCl (w1 u) H → va_D A (w1 u) → va_S A s.heap H locs → decode cc pc = .ok (.return_, 1) → W p l e R s m args below meth c H locs 0 0 Q (F0 m pc ls [])) →
      W p l e R s m args below meth c s.heap [] 0 0 Q (F0 m 0 ls [])) :
    Met l y (.code y cc maxL none :: BIG) { frames := fr, cells := 0, slots := 0, locals := lo } (xPw G av ws sz) (xQv G post w1 (va_A ws sz)) 0 0 (va_A ws sz) :=
  xm_w (rm := { frames := fr, cells := 0, slots := 0, locals := lo }) (Qf := fun A => xQv G post w1 A) hy hn (fun p e s m below meth c A ls hC hr hlk _ hK hA hP hD hS hl => body p e s m av.toArray below meth c A ls _ _ hC hK hA hP hD hS hl (Nat.le_refl _) (Nat.le_refl _) (fun u H locs pc ls hw hP hD hS hdg => xe_wv hC hr hlk hw hP hD hS hdg))
theorem xm_ri {post : Int32 → Prop} (hy : plainName y.cls = true) (hn : (lg_sl av).length ≤ maxL)
    (body : ∀ (p : Program) (e : Env) (s : State) (m : MethodId) (args : Array Value) (below : List Frame) (meth : Method) (c : Code) (ls : Array Slot) (R : Room) (Q : State → Prop), CallFix p m c cc maxL s args BIG y.cls → wKK G s → va_P G.1 vwCl ws s.heap → lv_has ls maxL (lv_args 0 av) → fr ≤ R.frames → lo ≤ R.locals →
      (∀ (v : Int32) (pc : Nat) (ls : Array Slot), post v → decode cc pc = .ok (.ireturn, 1) → W p l e R s m args below meth c s.heap [] 0 0 Q (F0 m pc ls [.int v])) →
      W p l e R s m args below meth c s.heap [] 0 0 Q (F0 m 0 ls [])) :
    Met l y (.code y cc maxL (some .int) :: BIG) { frames := fr, cells := 0, slots := 0, locals := lo } (xPr G av ws) (vp_Si post) 0 0 (fun _ => False) :=
  xm_r (rm := { frames := fr, cells := 0, slots := 0, locals := lo }) hy hn (fun p e s m below meth c ls hC hr hlk hK hP hl => body p e s m av.toArray below meth c ls _ _ hC hK hP hl (Nat.le_refl _) (Nat.le_refl _) (fun v pc ls hw hdg => xe_ri hC hr hlk hw hdg))
theorem xm_rz {post : Int32 → Prop} (hy : plainName y.cls = true) (hn : (lg_sl av).length ≤ maxL)
    (body : ∀ (p : Program) (e : Env) (s : State) (m : MethodId) (args : Array Value) (below : List Frame) (meth : Method) (c : Code) (ls : Array Slot) (R : Room) (Q : State → Prop), CallFix p m c cc maxL s args BIG y.cls → wKK G s → va_P G.1 vwCl ws s.heap → lv_has ls maxL (lv_args 0 av) → fr ≤ R.frames → lo ≤ R.locals →
      (∀ (v : Int32) (pc : Nat) (ls : Array Slot), narrow .boolean (.int v) = .int v → post v → decode cc pc = .ok (.ireturn, 1) → W p l e R s m args below meth c s.heap [] 0 0 Q (F0 m pc ls [.int v])) →
      W p l e R s m args below meth c s.heap [] 0 0 Q (F0 m 0 ls [])) :
    Met l y (.code y cc maxL (some .boolean) :: BIG) { frames := fr, cells := 0, slots := 0, locals := lo } (xPr G av ws) (vp_Si post) 0 0 (fun _ => False) :=
  xm_r (rm := { frames := fr, cells := 0, slots := 0, locals := lo }) hy hn (fun p e s m below meth c ls hC hr hlk hK hP hl => body p e s m av.toArray below meth c ls _ _ hC hK hP hl (Nat.le_refl _) (Nat.le_refl _) (fun v pc ls hz hw hdg => xe_rz hC hr hlk hz hw hdg))
theorem xm_rl {post : Int64 → Prop} (hy : plainName y.cls = true) (hn : (lg_sl av).length ≤ maxL)
    (body : ∀ (p : Program) (e : Env) (s : State) (m : MethodId) (args : Array Value) (below : List Frame) (meth : Method) (c : Code) (ls : Array Slot) (R : Room) (Q : State → Prop), CallFix p m c cc maxL s args BIG y.cls → wKK G s → va_P G.1 vwCl ws s.heap → lv_has ls maxL (lv_args 0 av) → fr ≤ R.frames → lo ≤ R.locals →
      (∀ (v : Int64) (pc : Nat) (ls : Array Slot), post v → decode cc pc = .ok (.lreturn, 1) → W p l e R s m args below meth c s.heap [] 0 0 Q (F0 m pc ls [.long v])) →
      W p l e R s m args below meth c s.heap [] 0 0 Q (F0 m 0 ls [])) :
    Met l y (.code y cc maxL (some .long) :: BIG) { frames := fr, cells := 0, slots := 0, locals := lo } (xPr G av ws) (vp_Sl post) 0 0 (fun _ => False) :=
  xm_r (rm := { frames := fr, cells := 0, slots := 0, locals := lo }) hy hn (fun p e s m below meth c ls hC hr hlk hK hP hl => body p e s m av.toArray below meth c ls _ _ hC hK hP hl (Nat.le_refl _) (Nat.le_refl _) (fun v pc ls hw hdg => xe_rl hC hr hlk hw hdg))
end XM
end
section
section XROWS
variable {p : Program} {l : Launch} {e : Env} {R : Room} {s : State} {m : MethodId} {args : Array Value} {below : List Frame} {meth : Method} {c : Code} {H : Heap} {locs : List Loc} {cells slots : Nat} {Q : State → Prop}
variable {cc : ByteArray} {nL : Nat} {own : String} {pc : Nat} {ls : Array Slot} {rest : List Value} {A : Nat → Prop} {G : wG} {h g k : Nat → Nat}
theorem bw_code_max : Cond.code Lib.Math.max.name Lib.Math.max.code 2 (some .int) ∈ BIG := bmT (bt2 (List.mem_of_getElem? (i := 131) (by decide +kernel))) rfl
theorem bw_code_min : Cond.code Lib.Math.min.name Lib.Math.min.code 2 (some .int) ∈ BIG := bmT (bt2 (List.mem_of_getElem? (i := 89) (by decide +kernel))) rfl
theorem w_n4 {i : Int32} (h : vp_in i 4) : i.toNatClampNeg < 4 := Nat.not_le.mp fun q => h (Or.inr q)
theorem rx_ald {z : wXS} {i : Int32} (hC : CallFix p m c cc nL s args BIG own) (hK : wKK G s) (hP : va_P G.1 vwCl (wsX G h z) H) (hin : vp_in i 4) (hdg : decode cc pc = .ok (.aaload, 1)) (kk : W p l e R s m args below meth c H locs cells slots Q (F0 m (pc + 1) ls (.ref (h (35 + 2 * i.toNatClampNeg)) :: rest))) : W p l e R s m args below meth c H locs cells slots Q (F0 m pc ls (.int i :: .ref (h 34) :: rest)) :=
  va_aldq hC.1 hC.2.1 hK.1 hP 34 3 rfl rfl hin hdg kk
theorem rg_F_X0_0_4 {z : wSt} (hC : CallFix p m c cc nL s args BIG RX0) (hK : wKK G s) (hP : va_P G.1 vwCl (wsFolk G h z) H) (hdg : decode cc pc = .ok (.getfield 24, 3)) (kk : W p l e R s m args below meth c H locs cells slots Q (F0 m (pc + 3) ls (.int (w_i z 4) :: rest))) : W p l e R s m args below meth c H locs cells slots Q (F0 m pc ls (.ref (h 0) :: rest)) :=
  va_get hC.1 hC.2.1 hC.2.2.2.2 inX0 hC.2.2.2.1 hK.1 hP 0 rfl rfl 4 (by decide) (hC.2.2.2.2 _ bw_41) (fun _ h9 => h9) rfl hdg kk
theorem rg_F_X0_0_0 {z : wSt} (hC : CallFix p m c cc nL s args BIG RX0) (hK : wKK G s) (hP : va_P G.1 vwCl (wsFolk G h z) H) (hdg : decode cc pc = .ok (.getfield 9, 3)) (kk : W p l e R s m args below meth c H locs cells slots Q (F0 m (pc + 3) ls (.ref (h 1) :: rest))) : W p l e R s m args below meth c H locs cells slots Q (F0 m pc ls (.ref (h 0) :: rest)) :=
  va_get hC.1 hC.2.1 hC.2.2.2.2 inX0 hC.2.2.2.1 hK.1 hP 0 rfl rfl 0 (by decide) (hC.2.2.2.2 _ bw_31) (fun _ h9 => h9) rfl hdg kk
theorem rs_F_1 {z : wSt} {i : Int32} {v : Int32} (hC : CallFix p m c cc nL s args BIG own) (hK : wKK G s) (hP : va_P G.1 vwCl (wsFolk G h z) H) (hD : va_D A (wsFolk G h z)) (hS : va_S A s.heap H locs) (hin : vp_in i 6) (hdg : decode cc pc = .ok (.iastore, 1)) (kk : ∀ (z1 : wSt) (H1 : Heap) (locs1 : List Loc), z1 = (w_sa z 0 (upd (w_a z 0) i.toNatClampNeg v)) → va_P G.1 vwCl (wsFolk G h z1) H1 → va_D A (wsFolk G h z1) → va_S A s.heap H1 locs1 → W p l e R s m args below meth c H1 locs1 cells slots Q (F0 m (pc + 1) ls rest)) : W p l e R s m args below meth c H locs cells slots Q (F0 m pc ls (.int v :: .int i :: .ref (h 1) :: rest)) :=
  va_iast hC.1 hC.2.1 hK.1 hP hD hS 1 0 rfl rfl hin hdg (fun H1 locs1 hP1 hD1 hS1 => kk (w_sa z 0 (upd (w_a z 0) i.toNatClampNeg v)) H1 locs1 rfl hP1 hD1 hS1)
theorem rg_F_X0_0_1 {z : wSt} (hC : CallFix p m c cc nL s args BIG RX0) (hK : wKK G s) (hP : va_P G.1 vwCl (wsFolk G h z) H) (hdg : decode cc pc = .ok (.getfield 15, 3)) (kk : W p l e R s m args below meth c H locs cells slots Q (F0 m (pc + 3) ls (.ref (h 2) :: rest))) : W p l e R s m args below meth c H locs cells slots Q (F0 m pc ls (.ref (h 0) :: rest)) :=
  va_get hC.1 hC.2.1 hC.2.2.2.2 inX0 hC.2.2.2.1 hK.1 hP 0 rfl rfl 1 (by decide) (hC.2.2.2.2 _ bw_33) (fun _ h9 => h9) rfl hdg kk
theorem rs_F_2 {z : wSt} {i : Int32} {v : Int32} (hC : CallFix p m c cc nL s args BIG own) (hK : wKK G s) (hP : va_P G.1 vwCl (wsFolk G h z) H) (hD : va_D A (wsFolk G h z)) (hS : va_S A s.heap H locs) (hin : vp_in i 6) (hdg : decode cc pc = .ok (.iastore, 1)) (kk : ∀ (z1 : wSt) (H1 : Heap) (locs1 : List Loc), z1 = (w_sa z 1 (upd (w_a z 1) i.toNatClampNeg v)) → va_P G.1 vwCl (wsFolk G h z1) H1 → va_D A (wsFolk G h z1) → va_S A s.heap H1 locs1 → W p l e R s m args below meth c H1 locs1 cells slots Q (F0 m (pc + 1) ls rest)) : W p l e R s m args below meth c H locs cells slots Q (F0 m pc ls (.int v :: .int i :: .ref (h 2) :: rest)) :=
  va_iast hC.1 hC.2.1 hK.1 hP hD hS 2 0 rfl rfl hin hdg (fun H1 locs1 hP1 hD1 hS1 => kk (w_sa z 1 (upd (w_a z 1) i.toNatClampNeg v)) H1 locs1 rfl hP1 hD1 hS1)
theorem rg_F_X0_0_2 {z : wSt} (hC : CallFix p m c cc nL s args BIG RX0) (hK : wKK G s) (hP : va_P G.1 vwCl (wsFolk G h z) H) (hdg : decode cc pc = .ok (.getfield 18, 3)) (kk : W p l e R s m args below meth c H locs cells slots Q (F0 m (pc + 3) ls (.ref (h 3) :: rest))) : W p l e R s m args below meth c H locs cells slots Q (F0 m pc ls (.ref (h 0) :: rest)) :=
  va_get hC.1 hC.2.1 hC.2.2.2.2 inX0 hC.2.2.2.1 hK.1 hP 0 rfl rfl 2 (by decide) (hC.2.2.2.2 _ bw_35) (fun _ h9 => h9) rfl hdg kk
theorem rs_F_3 {z : wSt} {i : Int32} {v : Int32} (hC : CallFix p m c cc nL s args BIG own) (hK : wKK G s) (hP : va_P G.1 vwCl (wsFolk G h z) H) (hD : va_D A (wsFolk G h z)) (hS : va_S A s.heap H locs) (hin : vp_in i 6) (hdg : decode cc pc = .ok (.iastore, 1)) (kk : ∀ (z1 : wSt) (H1 : Heap) (locs1 : List Loc), z1 = (w_sa z 2 (upd (w_a z 2) i.toNatClampNeg v)) → va_P G.1 vwCl (wsFolk G h z1) H1 → va_D A (wsFolk G h z1) → va_S A s.heap H1 locs1 → W p l e R s m args below meth c H1 locs1 cells slots Q (F0 m (pc + 1) ls rest)) : W p l e R s m args below meth c H locs cells slots Q (F0 m pc ls (.int v :: .int i :: .ref (h 3) :: rest)) :=
  va_iast hC.1 hC.2.1 hK.1 hP hD hS 3 0 rfl rfl hin hdg (fun H1 locs1 hP1 hD1 hS1 => kk (w_sa z 2 (upd (w_a z 2) i.toNatClampNeg v)) H1 locs1 rfl hP1 hD1 hS1)
theorem rg_F_X0_0_3 {z : wSt} (hC : CallFix p m c cc nL s args BIG RX0) (hK : wKK G s) (hP : va_P G.1 vwCl (wsFolk G h z) H) (hdg : decode cc pc = .ok (.getfield 21, 3)) (kk : W p l e R s m args below meth c H locs cells slots Q (F0 m (pc + 3) ls (.ref (h 4) :: rest))) : W p l e R s m args below meth c H locs cells slots Q (F0 m pc ls (.ref (h 0) :: rest)) :=
  va_get hC.1 hC.2.1 hC.2.2.2.2 inX0 hC.2.2.2.1 hK.1 hP 0 rfl rfl 3 (by decide) (hC.2.2.2.2 _ bw_39) (fun _ h9 => h9) rfl hdg kk
theorem rs_F_4 {z : wSt} {i : Int32} {v : Int32} (hC : CallFix p m c cc nL s args BIG own) (hK : wKK G s) (hP : va_P G.1 vwCl (wsFolk G h z) H) (hD : va_D A (wsFolk G h z)) (hS : va_S A s.heap H locs) (hin : vp_in i 6) (hdg : decode cc pc = .ok (.iastore, 1)) (kk : ∀ (z1 : wSt) (H1 : Heap) (locs1 : List Loc), z1 = (w_sa z 3 (upd (w_a z 3) i.toNatClampNeg v)) → va_P G.1 vwCl (wsFolk G h z1) H1 → va_D A (wsFolk G h z1) → va_S A s.heap H1 locs1 → W p l e R s m args below meth c H1 locs1 cells slots Q (F0 m (pc + 1) ls rest)) : W p l e R s m args below meth c H locs cells slots Q (F0 m pc ls (.int v :: .int i :: .ref (h 4) :: rest)) :=
  va_iast hC.1 hC.2.1 hK.1 hP hD hS 4 0 rfl rfl hin hdg (fun H1 locs1 hP1 hD1 hS1 => kk (w_sa z 3 (upd (w_a z 3) i.toNatClampNeg v)) H1 locs1 rfl hP1 hD1 hS1)
theorem rp_F_X0_0_4 {z : wSt} {v : Int32} (hC : CallFix p m c cc nL s args BIG RX0) (hK : wKK G s) (hP : va_P G.1 vwCl (wsFolk G h z) H) (hD : va_D A (wsFolk G h z)) (hS : va_S A s.heap H locs) (hdg : decode cc pc = .ok (.putfield 24, 3)) (kk : ∀ (z1 : wSt) (H1 : Heap) (locs1 : List Loc), z1 = (w_si z 4 v) → va_P G.1 vwCl (wsFolk G h z1) H1 → va_D A (wsFolk G h z1) → va_S A s.heap H1 locs1 → W p l e R s m args below meth c H1 locs1 cells slots Q (F0 m (pc + 3) ls rest)) : W p l e R s m args below meth c H locs cells slots Q (F0 m pc ls (.int v :: .ref (h 0) :: rest)) :=
  va_put hC.1 hC.2.1 hC.2.2.2.2 inX0 tyX0 tyX0_ok nmX0 hC.2.2.2.1 hK.1 hP hD hS 0 rfl rfl 4 (by decide) (hC.2.2.2.2 _ bw_41) (fun _ h9 => h9) rfl (ty := .int) (v := .int v) (by decide +kernel) rfl rfl (Nat.le_of_ble_eq_true rfl) hdg (fun H1 locs1 hP1 hD1 hS1 => kk (w_si z 4 v) H1 locs1 rfl hP1 hD1 hS1)
theorem rg_FF_X0_5_4 {z : wSt × wSt} (hC : CallFix p m c cc nL s args BIG RX0) (hK : wKK G s) (hP : va_P G.1 vwCl (wsFolk G h z.1 ++ wsFolk G g z.2) H) (hdg : decode cc pc = .ok (.getfield 24, 3)) (kk : W p l e R s m args below meth c H locs cells slots Q (F0 m (pc + 3) ls (.int (w_i z.2 4) :: rest))) : W p l e R s m args below meth c H locs cells slots Q (F0 m pc ls (.ref (g 0) :: rest)) :=
  va_get hC.1 hC.2.1 hC.2.2.2.2 inX0 hC.2.2.2.1 hK.1 hP 5 rfl rfl 4 (by decide) (hC.2.2.2.2 _ bw_41) (fun _ h9 => h9) rfl hdg kk
theorem rp_FF_X0_0_4 {z : wSt × wSt} {v : Int32} (hC : CallFix p m c cc nL s args BIG RX0) (hK : wKK G s) (hP : va_P G.1 vwCl (wsFolk G h z.1 ++ wsFolk G g z.2) H) (hD : va_D A (wsFolk G h z.1 ++ wsFolk G g z.2)) (hS : va_S A s.heap H locs) (hdg : decode cc pc = .ok (.putfield 24, 3)) (kk : ∀ (z1 : wSt × wSt) (H1 : Heap) (locs1 : List Loc), z1 = ((w_si z.1 4 v), z.2) → va_P G.1 vwCl (wsFolk G h z1.1 ++ wsFolk G g z1.2) H1 → va_D A (wsFolk G h z1.1 ++ wsFolk G g z1.2) → va_S A s.heap H1 locs1 → W p l e R s m args below meth c H1 locs1 cells slots Q (F0 m (pc + 3) ls rest)) : W p l e R s m args below meth c H locs cells slots Q (F0 m pc ls (.int v :: .ref (h 0) :: rest)) :=
  va_put hC.1 hC.2.1 hC.2.2.2.2 inX0 tyX0 tyX0_ok nmX0 hC.2.2.2.1 hK.1 hP hD hS 0 rfl rfl 4 (by decide) (hC.2.2.2.2 _ bw_41) (fun _ h9 => h9) rfl (ty := .int) (v := .int v) (by decide +kernel) rfl rfl (Nat.le_of_ble_eq_true rfl) hdg (fun H1 locs1 hP1 hD1 hS1 => kk ((w_si z.1 4 v), z.2) H1 locs1 rfl hP1 hD1 hS1)
theorem rg_FF_X0_0_0 {z : wSt × wSt} (hC : CallFix p m c cc nL s args BIG RX0) (hK : wKK G s) (hP : va_P G.1 vwCl (wsFolk G h z.1 ++ wsFolk G g z.2) H) (hdg : decode cc pc = .ok (.getfield 9, 3)) (kk : W p l e R s m args below meth c H locs cells slots Q (F0 m (pc + 3) ls (.ref (h 1) :: rest))) : W p l e R s m args below meth c H locs cells slots Q (F0 m pc ls (.ref (h 0) :: rest)) :=
  va_get hC.1 hC.2.1 hC.2.2.2.2 inX0 hC.2.2.2.1 hK.1 hP 0 rfl rfl 0 (by decide) (hC.2.2.2.2 _ bw_31) (fun _ h9 => h9) rfl hdg kk
theorem rg_FF_X0_5_0 {z : wSt × wSt} (hC : CallFix p m c cc nL s args BIG RX0) (hK : wKK G s) (hP : va_P G.1 vwCl (wsFolk G h z.1 ++ wsFolk G g z.2) H) (hdg : decode cc pc = .ok (.getfield 9, 3)) (kk : W p l e R s m args below meth c H locs cells slots Q (F0 m (pc + 3) ls (.ref (g 1) :: rest))) : W p l e R s m args below meth c H locs cells slots Q (F0 m pc ls (.ref (g 0) :: rest)) :=
  va_get hC.1 hC.2.1 hC.2.2.2.2 inX0 hC.2.2.2.1 hK.1 hP 5 rfl rfl 0 (by decide) (hC.2.2.2.2 _ bw_31) (fun _ h9 => h9) rfl hdg kk
theorem rl_FF_6 {z : wSt × wSt} {i : Int32} (hC : CallFix p m c cc nL s args BIG own) (hK : wKK G s) (hP : va_P G.1 vwCl (wsFolk G h z.1 ++ wsFolk G g z.2) H) (hin : vp_in i 6) (hdg : decode cc pc = .ok (.iaload, 1)) (kk : W p l e R s m args below meth c H locs cells slots Q (F0 m (pc + 1) ls (.int ((w_a z.2 0) i.toNatClampNeg) :: rest))) : W p l e R s m args below meth c H locs cells slots Q (F0 m pc ls (.int i :: .ref (g 1) :: rest)) :=
  va_iald hC.1 hC.2.1 hK.1 hP 6 0 rfl rfl hin hdg kk
theorem rs_FF_1 {z : wSt × wSt} {i : Int32} {v : Int32} (hC : CallFix p m c cc nL s args BIG own) (hK : wKK G s) (hP : va_P G.1 vwCl (wsFolk G h z.1 ++ wsFolk G g z.2) H) (hD : va_D A (wsFolk G h z.1 ++ wsFolk G g z.2)) (hS : va_S A s.heap H locs) (hin : vp_in i 6) (hdg : decode cc pc = .ok (.iastore, 1)) (kk : ∀ (z1 : wSt × wSt) (H1 : Heap) (locs1 : List Loc), z1 = ((w_sa z.1 0 (upd (w_a z.1 0) i.toNatClampNeg v)), z.2) → va_P G.1 vwCl (wsFolk G h z1.1 ++ wsFolk G g z1.2) H1 → va_D A (wsFolk G h z1.1 ++ wsFolk G g z1.2) → va_S A s.heap H1 locs1 → W p l e R s m args below meth c H1 locs1 cells slots Q (F0 m (pc + 1) ls rest)) : W p l e R s m args below meth c H locs cells slots Q (F0 m pc ls (.int v :: .int i :: .ref (h 1) :: rest)) :=
  va_iast hC.1 hC.2.1 hK.1 hP hD hS 1 0 rfl rfl hin hdg (fun H1 locs1 hP1 hD1 hS1 => kk ((w_sa z.1 0 (upd (w_a z.1 0) i.toNatClampNeg v)), z.2) H1 locs1 rfl hP1 hD1 hS1)
theorem rg_FF_X0_0_1 {z : wSt × wSt} (hC : CallFix p m c cc nL s args BIG RX0) (hK : wKK G s) (hP : va_P G.1 vwCl (wsFolk G h z.1 ++ wsFolk G g z.2) H) (hdg : decode cc pc = .ok (.getfield 15, 3)) (kk : W p l e R s m args below meth c H locs cells slots Q (F0 m (pc + 3) ls (.ref (h 2) :: rest))) : W p l e R s m args below meth c H locs cells slots Q (F0 m pc ls (.ref (h 0) :: rest)) :=
  va_get hC.1 hC.2.1 hC.2.2.2.2 inX0 hC.2.2.2.1 hK.1 hP 0 rfl rfl 1 (by decide) (hC.2.2.2.2 _ bw_33) (fun _ h9 => h9) rfl hdg kk
theorem rg_FF_X0_5_1 {z : wSt × wSt} (hC : CallFix p m c cc nL s args BIG RX0) (hK : wKK G s) (hP : va_P G.1 vwCl (wsFolk G h z.1 ++ wsFolk G g z.2) H) (hdg : decode cc pc = .ok (.getfield 15, 3)) (kk : W p l e R s m args below meth c H locs cells slots Q (F0 m (pc + 3) ls (.ref (g 2) :: rest))) : W p l e R s m args below meth c H locs cells slots Q (F0 m pc ls (.ref (g 0) :: rest)) :=
  va_get hC.1 hC.2.1 hC.2.2.2.2 inX0 hC.2.2.2.1 hK.1 hP 5 rfl rfl 1 (by decide) (hC.2.2.2.2 _ bw_33) (fun _ h9 => h9) rfl hdg kk
theorem rl_FF_7 {z : wSt × wSt} {i : Int32} (hC : CallFix p m c cc nL s args BIG own) (hK : wKK G s) (hP : va_P G.1 vwCl (wsFolk G h z.1 ++ wsFolk G g z.2) H) (hin : vp_in i 6) (hdg : decode cc pc = .ok (.iaload, 1)) (kk : W p l e R s m args below meth c H locs cells slots Q (F0 m (pc + 1) ls (.int ((w_a z.2 1) i.toNatClampNeg) :: rest))) : W p l e R s m args below meth c H locs cells slots Q (F0 m pc ls (.int i :: .ref (g 2) :: rest)) :=
  va_iald hC.1 hC.2.1 hK.1 hP 7 0 rfl rfl hin hdg kk
theorem rs_FF_2 {z : wSt × wSt} {i : Int32} {v : Int32} (hC : CallFix p m c cc nL s args BIG own) (hK : wKK G s) (hP : va_P G.1 vwCl (wsFolk G h z.1 ++ wsFolk G g z.2) H) (hD : va_D A (wsFolk G h z.1 ++ wsFolk G g z.2)) (hS : va_S A s.heap H locs) (hin : vp_in i 6) (hdg : decode cc pc = .ok (.iastore, 1)) (kk : ∀ (z1 : wSt × wSt) (H1 : Heap) (locs1 : List Loc), z1 = ((w_sa z.1 1 (upd (w_a z.1 1) i.toNatClampNeg v)), z.2) → va_P G.1 vwCl (wsFolk G h z1.1 ++ wsFolk G g z1.2) H1 → va_D A (wsFolk G h z1.1 ++ wsFolk G g z1.2) → va_S A s.heap H1 locs1 → W p l e R s m args below meth c H1 locs1 cells slots Q (F0 m (pc + 1) ls rest)) : W p l e R s m args below meth c H locs cells slots Q (F0 m pc ls (.int v :: .int i :: .ref (h 2) :: rest)) :=
  va_iast hC.1 hC.2.1 hK.1 hP hD hS 2 0 rfl rfl hin hdg (fun H1 locs1 hP1 hD1 hS1 => kk ((w_sa z.1 1 (upd (w_a z.1 1) i.toNatClampNeg v)), z.2) H1 locs1 rfl hP1 hD1 hS1)
theorem rg_FF_X0_0_2 {z : wSt × wSt} (hC : CallFix p m c cc nL s args BIG RX0) (hK : wKK G s) (hP : va_P G.1 vwCl (wsFolk G h z.1 ++ wsFolk G g z.2) H) (hdg : decode cc pc = .ok (.getfield 18, 3)) (kk : W p l e R s m args below meth c H locs cells slots Q (F0 m (pc + 3) ls (.ref (h 3) :: rest))) : W p l e R s m args below meth c H locs cells slots Q (F0 m pc ls (.ref (h 0) :: rest)) :=
  va_get hC.1 hC.2.1 hC.2.2.2.2 inX0 hC.2.2.2.1 hK.1 hP 0 rfl rfl 2 (by decide) (hC.2.2.2.2 _ bw_35) (fun _ h9 => h9) rfl hdg kk
theorem rg_FF_X0_5_2 {z : wSt × wSt} (hC : CallFix p m c cc nL s args BIG RX0) (hK : wKK G s) (hP : va_P G.1 vwCl (wsFolk G h z.1 ++ wsFolk G g z.2) H) (hdg : decode cc pc = .ok (.getfield 18, 3)) (kk : W p l e R s m args below meth c H locs cells slots Q (F0 m (pc + 3) ls (.ref (g 3) :: rest))) : W p l e R s m args below meth c H locs cells slots Q (F0 m pc ls (.ref (g 0) :: rest)) :=
  va_get hC.1 hC.2.1 hC.2.2.2.2 inX0 hC.2.2.2.1 hK.1 hP 5 rfl rfl 2 (by decide) (hC.2.2.2.2 _ bw_35) (fun _ h9 => h9) rfl hdg kk
theorem rl_FF_8 {z : wSt × wSt} {i : Int32} (hC : CallFix p m c cc nL s args BIG own) (hK : wKK G s) (hP : va_P G.1 vwCl (wsFolk G h z.1 ++ wsFolk G g z.2) H) (hin : vp_in i 6) (hdg : decode cc pc = .ok (.iaload, 1)) (kk : W p l e R s m args below meth c H locs cells slots Q (F0 m (pc + 1) ls (.int ((w_a z.2 2) i.toNatClampNeg) :: rest))) : W p l e R s m args below meth c H locs cells slots Q (F0 m pc ls (.int i :: .ref (g 3) :: rest)) :=
  va_iald hC.1 hC.2.1 hK.1 hP 8 0 rfl rfl hin hdg kk
theorem rs_FF_3 {z : wSt × wSt} {i : Int32} {v : Int32} (hC : CallFix p m c cc nL s args BIG own) (hK : wKK G s) (hP : va_P G.1 vwCl (wsFolk G h z.1 ++ wsFolk G g z.2) H) (hD : va_D A (wsFolk G h z.1 ++ wsFolk G g z.2)) (hS : va_S A s.heap H locs) (hin : vp_in i 6) (hdg : decode cc pc = .ok (.iastore, 1)) (kk : ∀ (z1 : wSt × wSt) (H1 : Heap) (locs1 : List Loc), z1 = ((w_sa z.1 2 (upd (w_a z.1 2) i.toNatClampNeg v)), z.2) → va_P G.1 vwCl (wsFolk G h z1.1 ++ wsFolk G g z1.2) H1 → va_D A (wsFolk G h z1.1 ++ wsFolk G g z1.2) → va_S A s.heap H1 locs1 → W p l e R s m args below meth c H1 locs1 cells slots Q (F0 m (pc + 1) ls rest)) : W p l e R s m args below meth c H locs cells slots Q (F0 m pc ls (.int v :: .int i :: .ref (h 3) :: rest)) :=
  va_iast hC.1 hC.2.1 hK.1 hP hD hS 3 0 rfl rfl hin hdg (fun H1 locs1 hP1 hD1 hS1 => kk ((w_sa z.1 2 (upd (w_a z.1 2) i.toNatClampNeg v)), z.2) H1 locs1 rfl hP1 hD1 hS1)
theorem rg_FF_X0_0_3 {z : wSt × wSt} (hC : CallFix p m c cc nL s args BIG RX0) (hK : wKK G s) (hP : va_P G.1 vwCl (wsFolk G h z.1 ++ wsFolk G g z.2) H) (hdg : decode cc pc = .ok (.getfield 21, 3)) (kk : W p l e R s m args below meth c H locs cells slots Q (F0 m (pc + 3) ls (.ref (h 4) :: rest))) : W p l e R s m args below meth c H locs cells slots Q (F0 m pc ls (.ref (h 0) :: rest)) :=
  va_get hC.1 hC.2.1 hC.2.2.2.2 inX0 hC.2.2.2.1 hK.1 hP 0 rfl rfl 3 (by decide) (hC.2.2.2.2 _ bw_39) (fun _ h9 => h9) rfl hdg kk
theorem rg_FF_X0_5_3 {z : wSt × wSt} (hC : CallFix p m c cc nL s args BIG RX0) (hK : wKK G s) (hP : va_P G.1 vwCl (wsFolk G h z.1 ++ wsFolk G g z.2) H) (hdg : decode cc pc = .ok (.getfield 21, 3)) (kk : W p l e R s m args below meth c H locs cells slots Q (F0 m (pc + 3) ls (.ref (g 4) :: rest))) : W p l e R s m args below meth c H locs cells slots Q (F0 m pc ls (.ref (g 0) :: rest)) :=
  va_get hC.1 hC.2.1 hC.2.2.2.2 inX0 hC.2.2.2.1 hK.1 hP 5 rfl rfl 3 (by decide) (hC.2.2.2.2 _ bw_39) (fun _ h9 => h9) rfl hdg kk
theorem rl_FF_9 {z : wSt × wSt} {i : Int32} (hC : CallFix p m c cc nL s args BIG own) (hK : wKK G s) (hP : va_P G.1 vwCl (wsFolk G h z.1 ++ wsFolk G g z.2) H) (hin : vp_in i 6) (hdg : decode cc pc = .ok (.iaload, 1)) (kk : W p l e R s m args below meth c H locs cells slots Q (F0 m (pc + 1) ls (.int ((w_a z.2 3) i.toNatClampNeg) :: rest))) : W p l e R s m args below meth c H locs cells slots Q (F0 m pc ls (.int i :: .ref (g 4) :: rest)) :=
  va_iald hC.1 hC.2.1 hK.1 hP 9 0 rfl rfl hin hdg kk
theorem rs_FF_4 {z : wSt × wSt} {i : Int32} {v : Int32} (hC : CallFix p m c cc nL s args BIG own) (hK : wKK G s) (hP : va_P G.1 vwCl (wsFolk G h z.1 ++ wsFolk G g z.2) H) (hD : va_D A (wsFolk G h z.1 ++ wsFolk G g z.2)) (hS : va_S A s.heap H locs) (hin : vp_in i 6) (hdg : decode cc pc = .ok (.iastore, 1)) (kk : ∀ (z1 : wSt × wSt) (H1 : Heap) (locs1 : List Loc), z1 = ((w_sa z.1 3 (upd (w_a z.1 3) i.toNatClampNeg v)), z.2) → va_P G.1 vwCl (wsFolk G h z1.1 ++ wsFolk G g z1.2) H1 → va_D A (wsFolk G h z1.1 ++ wsFolk G g z1.2) → va_S A s.heap H1 locs1 → W p l e R s m args below meth c H1 locs1 cells slots Q (F0 m (pc + 1) ls rest)) : W p l e R s m args below meth c H locs cells slots Q (F0 m pc ls (.int v :: .int i :: .ref (h 4) :: rest)) :=
  va_iast hC.1 hC.2.1 hK.1 hP hD hS 4 0 rfl rfl hin hdg (fun H1 locs1 hP1 hD1 hS1 => kk ((w_sa z.1 3 (upd (w_a z.1 3) i.toNatClampNeg v)), z.2) H1 locs1 rfl hP1 hD1 hS1)
theorem calX0_has : xCalV yX0_has cX0_has 2 (some .boolean) 1 := ⟨bw_236, bs_1, bw_3, bw_237, by decide +kernel, by decide +kernel, by decide +kernel⟩
theorem rl_F_4 {z : wSt} {i : Int32} (hC : CallFix p m c cc nL s args BIG own) (hK : wKK G s) (hP : va_P G.1 vwCl (wsFolk G h z) H) (hin : vp_in i 6) (hdg : decode cc pc = .ok (.iaload, 1)) (kk : W p l e R s m args below meth c H locs cells slots Q (F0 m (pc + 1) ls (.int ((w_a z 3) i.toNatClampNeg) :: rest))) : W p l e R s m args below meth c H locs cells slots Q (F0 m pc ls (.int i :: .ref (h 4) :: rest)) :=
  va_iald hC.1 hC.2.1 hK.1 hP 4 0 rfl rfl hin hdg kk
theorem rl_F_1 {z : wSt} {i : Int32} (hC : CallFix p m c cc nL s args BIG own) (hK : wKK G s) (hP : va_P G.1 vwCl (wsFolk G h z) H) (hin : vp_in i 6) (hdg : decode cc pc = .ok (.iaload, 1)) (kk : W p l e R s m args below meth c H locs cells slots Q (F0 m (pc + 1) ls (.int ((w_a z 0) i.toNatClampNeg) :: rest))) : W p l e R s m args below meth c H locs cells slots Q (F0 m pc ls (.int i :: .ref (h 1) :: rest)) :=
  va_iald hC.1 hC.2.1 hK.1 hP 1 0 rfl rfl hin hdg kk
theorem calX0_areFoes : xCalV yX0_areFoes cX0_areFoes 3 (some .boolean) 2 := ⟨bw_245, bs_2, bw_3, bw_246, by decide +kernel, by decide +kernel, by decide +kernel⟩
theorem calX0_pailsAt : xCalV yX0_pailsAt cX0_pailsAt 4 (some .int) 2 := ⟨bw_366, bs_19, bw_3, bw_367, by decide +kernel, by decide +kernel, by decide +kernel⟩
theorem rl_F_2 {z : wSt} {i : Int32} (hC : CallFix p m c cc nL s args BIG own) (hK : wKK G s) (hP : va_P G.1 vwCl (wsFolk G h z) H) (hin : vp_in i 6) (hdg : decode cc pc = .ok (.iaload, 1)) (kk : W p l e R s m args below meth c H locs cells slots Q (F0 m (pc + 1) ls (.int ((w_a z 1) i.toNatClampNeg) :: rest))) : W p l e R s m args below meth c H locs cells slots Q (F0 m pc ls (.int i :: .ref (h 2) :: rest)) :=
  va_iald hC.1 hC.2.1 hK.1 hP 2 0 rfl rfl hin hdg kk
theorem calX5_asMood : xCalS yX5_asMood cX5_asMood 1 (some .int) 1 := ⟨bw_381, bw_1, bw_382, by decide +kernel, by decide +kernel, by decide +kernel⟩
theorem rg_SW_X1_0_0 {z : wP2 × wP2} (hC : CallFix p m c cc nL s args BIG RX1) (hK : wKK G s) (hP : va_P G.1 vwCl (wsSearch G h z.1 ++ wsWell G g z.2) H) (hdg : decode cc pc = .ok (.getfield 12, 3)) (kk : W p l e R s m args below meth c H locs cells slots Q (F0 m (pc + 3) ls (.ref (h 4) :: rest))) : W p l e R s m args below meth c H locs cells slots Q (F0 m pc ls (.ref (h 0) :: rest)) :=
  va_get hC.1 hC.2.1 hC.2.2.2.2 inX1 hC.2.2.2.1 hK.1 hP 0 rfl rfl 0 (by decide) (hC.2.2.2.2 _ bw_139) (fun _ h9 => h9) rfl hdg kk
theorem rg_SW_X1_9_0 {z : wP2 × wP2} (hC : CallFix p m c cc nL s args BIG RX1) (hK : wKK G s) (hP : va_P G.1 vwCl (wsSearch G h z.1 ++ wsWell G g z.2) H) (hdg : decode cc pc = .ok (.getfield 44, 3)) (kk : W p l e R s m args below meth c H locs cells slots Q (F0 m (pc + 3) ls (.ref (g 3) :: rest))) : W p l e R s m args below meth c H locs cells slots Q (F0 m pc ls (.ref (g 0) :: rest)) :=
  va_getN hC.1 hC.2.1 hC.2.2.2.2 inX4 hC.2.2.2.1 hK.1 hP 9 rfl rfl 0 (by decide) (hK.2.at bw_59) (fun _ h9 => h9) rfl hdg kk
theorem calX0_become : xCalV yX0_become cX0_become 3 none 1 := ⟨bw_312, bs_11, bw_3, bw_313, by decide +kernel, by decide +kernel, by decide +kernel⟩
theorem rg_SW_X1_9_1 {z : wP2 × wP2} (hC : CallFix p m c cc nL s args BIG RX1) (hK : wKK G s) (hP : va_P G.1 vwCl (wsSearch G h z.1 ++ wsWell G g z.2) H) (hdg : decode cc pc = .ok (.getfield 51, 3)) (kk : W p l e R s m args below meth c H locs cells slots Q (F0 m (pc + 3) ls (.ref (g 1) :: rest))) : W p l e R s m args below meth c H locs cells slots Q (F0 m pc ls (.ref (g 0) :: rest)) :=
  va_getN hC.1 hC.2.1 hC.2.2.2.2 inX4 hC.2.2.2.1 hK.1 hP 9 rfl rfl 1 (by decide) (hK.2.at bw_62) (fun _ h9 => h9) rfl hdg kk
theorem rg_SW_X1_0_1 {z : wP2 × wP2} (hC : CallFix p m c cc nL s args BIG RX1) (hK : wKK G s) (hP : va_P G.1 vwCl (wsSearch G h z.1 ++ wsWell G g z.2) H) (hdg : decode cc pc = .ok (.getfield 18, 3)) (kk : W p l e R s m args below meth c H locs cells slots Q (F0 m (pc + 3) ls (.ref (h 1) :: rest))) : W p l e R s m args below meth c H locs cells slots Q (F0 m pc ls (.ref (h 0) :: rest)) :=
  va_get hC.1 hC.2.1 hC.2.2.2.2 inX1 hC.2.2.2.1 hK.1 hP 0 rfl rfl 1 (by decide) (hC.2.2.2.2 _ bw_141) (fun _ h9 => h9) rfl hdg kk
theorem rc_SW_10_1 {z : wP2 × wP2} {sp dp n : Int32} (hC : CallFix p m c cc nL s args BIG RX1) (hK : wKK G s) (hP : va_P G.1 vwCl (wsSearch G h z.1 ++ wsWell G g z.2) H) (hD : va_D A (wsSearch G h z.1 ++ wsWell G g z.2)) (hS : va_S A s.heap H locs) {lv : List (Nat × Value)} (hl : lv_has ls nL lv) (hF : 1 ≤ R.frames) (hL : 40 ≤ R.locals) (h1 : ¬ sp < 0) (h2 : ¬ dp < 0) (h3 : ¬ n < 0) (h4 : sp.toNatClampNeg + n.toNatClampNeg ≤ 6) (h5 : dp.toNatClampNeg + n.toNatClampNeg ≤ 6) (hdg : decode cc pc = .ok (.invokestatic 54, 3)) (kk : ∀ (z1 : wP2 × wP2) (H1 : Heap) (locs1 : List Loc), z1 = ((w_so z.1 (w_sa (w_o z.1) 1 (va_cpy (w_a (w_o z.2) 1) (w_a (w_o z.1) 1) sp.toNatClampNeg dp.toNatClampNeg n.toNatClampNeg))), z.2) → va_P G.1 vwCl (wsSearch G h z1.1 ++ wsWell G g z1.2) H1 → va_D A (wsSearch G h z1.1 ++ wsWell G g z1.2) → va_S A s.heap H1 locs1 → W p l e R s m args below meth c H1 locs1 cells slots Q (F0 m (pc + 3) ls [])) : W p l e R s m args below meth c H locs cells slots Q (F0 m pc ls [.int n, .int dp, .ref (h 1), .int sp, .ref (g 1)]) :=
  va_copyi hC.1 hC.2.1 (hC.2.2.1.trans hl.1.symm) hC.2.2.2.1 (hC.2.2.2.2 _ bw_425) (hC.2.2.2.2 _ bw_332) (hC.2.2.2.2 _ bw_331) (hC.2.2.2.2 _ bw_9) hK.1 hP hD hS 10 1 0 0 rfl rfl rfl rfl rfl h1 h2 h3 h4 h5 (fun _ _ => rfl) hF (Nat.le_trans (Nat.le_of_ble_eq_true rfl) hL) hdg (fun H1 locs1 hP1 hD1 hS1 => kk ((w_so z.1 (w_sa (w_o z.1) 1 (va_cpy (w_a (w_o z.2) 1) (w_a (w_o z.1) 1) sp.toNatClampNeg dp.toNatClampNeg n.toNatClampNeg))), z.2) H1 locs1 rfl hP1 hD1 hS1)
theorem rg_SW_X1_9_5 {z : wP2 × wP2} (hC : CallFix p m c cc nL s args BIG RX1) (hK : wKK G s) (hP : va_P G.1 vwCl (wsSearch G h z.1 ++ wsWell G g z.2) H) (hdg : decode cc pc = .ok (.getfield 60, 3)) (kk : W p l e R s m args below meth c H locs cells slots Q (F0 m (pc + 3) ls (.int (w_i (w_o z.2) 5) :: rest))) : W p l e R s m args below meth c H locs cells slots Q (F0 m pc ls (.ref (g 0) :: rest)) :=
  va_getN hC.1 hC.2.1 hC.2.2.2.2 inX4 hC.2.2.2.1 hK.1 hP 9 rfl rfl 5 (by decide) (hK.2.at bw_70) (fun _ h9 => h9) rfl hdg kk
theorem rp_SW_X1_0_4 {z : wP2 × wP2} {v : Int32} (hC : CallFix p m c cc nL s args BIG RX1) (hK : wKK G s) (hP : va_P G.1 vwCl (wsSearch G h z.1 ++ wsWell G g z.2) H) (hD : va_D A (wsSearch G h z.1 ++ wsWell G g z.2)) (hS : va_S A s.heap H locs) (hdg : decode cc pc = .ok (.putfield 28, 3)) (kk : ∀ (z1 : wP2 × wP2) (H1 : Heap) (locs1 : List Loc), z1 = ((w_so z.1 (w_si (w_o z.1) 4 v)), z.2) → va_P G.1 vwCl (wsSearch G h z1.1 ++ wsWell G g z1.2) H1 → va_D A (wsSearch G h z1.1 ++ wsWell G g z1.2) → va_S A s.heap H1 locs1 → W p l e R s m args below meth c H1 locs1 cells slots Q (F0 m (pc + 3) ls rest)) : W p l e R s m args below meth c H locs cells slots Q (F0 m pc ls (.int v :: .ref (h 0) :: rest)) :=
  va_put hC.1 hC.2.1 hC.2.2.2.2 inX1 tyX1 tyX1_ok nmX1 hC.2.2.2.1 hK.1 hP hD hS 0 rfl rfl 4 (by decide) (hC.2.2.2.2 _ bw_145) (fun _ h9 => h9) rfl (ty := .int) (v := .int v) (by decide +kernel) rfl rfl (Nat.le_of_ble_eq_true rfl) hdg (fun H1 locs1 hP1 hD1 hS1 => kk ((w_so z.1 (w_si (w_o z.1) 4 v)), z.2) H1 locs1 rfl hP1 hD1 hS1)
theorem rg_SW_X1_9_6 {z : wP2 × wP2} (hC : CallFix p m c cc nL s args BIG RX1) (hK : wKK G s) (hP : va_P G.1 vwCl (wsSearch G h z.1 ++ wsWell G g z.2) H) (hdg : decode cc pc = .ok (.getfield 61, 3)) (kk : W p l e R s m args below meth c H locs cells slots Q (F0 m (pc + 3) ls (.int (w_i (w_o z.2) 6) :: rest))) : W p l e R s m args below meth c H locs cells slots Q (F0 m pc ls (.ref (g 0) :: rest)) :=
  va_getN hC.1 hC.2.1 hC.2.2.2.2 inX4 hC.2.2.2.1 hK.1 hP 9 rfl rfl 6 (by decide) (hK.2.at bw_73) (fun _ h9 => h9) rfl hdg kk
theorem rp_SW_X1_0_5 {z : wP2 × wP2} {v : Int32} (hC : CallFix p m c cc nL s args BIG RX1) (hK : wKK G s) (hP : va_P G.1 vwCl (wsSearch G h z.1 ++ wsWell G g z.2) H) (hD : va_D A (wsSearch G h z.1 ++ wsWell G g z.2)) (hS : va_S A s.heap H locs) (hdg : decode cc pc = .ok (.putfield 32, 3)) (kk : ∀ (z1 : wP2 × wP2) (H1 : Heap) (locs1 : List Loc), z1 = ((w_so z.1 (w_si (w_o z.1) 5 v)), z.2) → va_P G.1 vwCl (wsSearch G h z1.1 ++ wsWell G g z1.2) H1 → va_D A (wsSearch G h z1.1 ++ wsWell G g z1.2) → va_S A s.heap H1 locs1 → W p l e R s m args below meth c H1 locs1 cells slots Q (F0 m (pc + 3) ls rest)) : W p l e R s m args below meth c H locs cells slots Q (F0 m pc ls (.int v :: .ref (h 0) :: rest)) :=
  va_put hC.1 hC.2.1 hC.2.2.2.2 inX1 tyX1 tyX1_ok nmX1 hC.2.2.2.1 hK.1 hP hD hS 0 rfl rfl 5 (by decide) (hC.2.2.2.2 _ bw_146) (fun _ h9 => h9) rfl (ty := .int) (v := .int v) (by decide +kernel) rfl rfl (Nat.le_of_ble_eq_true rfl) hdg (fun H1 locs1 hP1 hD1 hS1 => kk ((w_so z.1 (w_si (w_o z.1) 5 v)), z.2) H1 locs1 rfl hP1 hD1 hS1)
theorem rg_SW_X1_9_10 {z : wP2 × wP2} (hC : CallFix p m c cc nL s args BIG RX1) (hK : wKK G s) (hP : va_P G.1 vwCl (wsSearch G h z.1 ++ wsWell G g z.2) H) (hdg : decode cc pc = .ok (.getfield 62, 3)) (kk : W p l e R s m args below meth c H locs cells slots Q (F0 m (pc + 3) ls (.int (w_i (w_o z.2) 10) :: rest))) : W p l e R s m args below meth c H locs cells slots Q (F0 m pc ls (.ref (g 0) :: rest)) :=
  va_getN hC.1 hC.2.1 hC.2.2.2.2 inX4 hC.2.2.2.1 hK.1 hP 9 rfl rfl 10 (by decide) (hK.2.at bw_82) (fun _ h9 => h9) rfl hdg kk
theorem rp_SW_X1_0_6 {z : wP2 × wP2} {v : Int32} (hC : CallFix p m c cc nL s args BIG RX1) (hK : wKK G s) (hP : va_P G.1 vwCl (wsSearch G h z.1 ++ wsWell G g z.2) H) (hD : va_D A (wsSearch G h z.1 ++ wsWell G g z.2)) (hS : va_S A s.heap H locs) (hdg : decode cc pc = .ok (.putfield 35, 3)) (kk : ∀ (z1 : wP2 × wP2) (H1 : Heap) (locs1 : List Loc), z1 = ((w_so z.1 (w_si (w_o z.1) 6 v)), z.2) → va_P G.1 vwCl (wsSearch G h z1.1 ++ wsWell G g z1.2) H1 → va_D A (wsSearch G h z1.1 ++ wsWell G g z1.2) → va_S A s.heap H1 locs1 → W p l e R s m args below meth c H1 locs1 cells slots Q (F0 m (pc + 3) ls rest)) : W p l e R s m args below meth c H locs cells slots Q (F0 m pc ls (.int v :: .ref (h 0) :: rest)) :=
  va_put hC.1 hC.2.1 hC.2.2.2.2 inX1 tyX1 tyX1_ok nmX1 hC.2.2.2.1 hK.1 hP hD hS 0 rfl rfl 6 (by decide) (hC.2.2.2.2 _ bw_147) (fun _ h9 => h9) rfl (ty := .int) (v := .int v) (by decide +kernel) rfl rfl (Nat.le_of_ble_eq_true rfl) hdg (fun H1 locs1 hP1 hD1 hS1 => kk ((w_so z.1 (w_si (w_o z.1) 6 v)), z.2) H1 locs1 rfl hP1 hD1 hS1)
theorem rg_S_X1_0_8 {z : wP2} (hC : CallFix p m c cc nL s args BIG RX1) (hK : wKK G s) (hP : va_P G.1 vwCl (wsSearch G h z) H) (hdg : decode cc pc = .ok (.getfield 41, 3)) (kk : W p l e R s m args below meth c H locs cells slots Q (F0 m (pc + 3) ls (.int (w_i (w_o z) 8) :: rest))) : W p l e R s m args below meth c H locs cells slots Q (F0 m pc ls (.ref (h 0) :: rest)) :=
  va_get hC.1 hC.2.1 hC.2.2.2.2 inX1 hC.2.2.2.1 hK.1 hP 0 rfl rfl 8 (by decide) (hC.2.2.2.2 _ bw_149) (fun _ h9 => h9) rfl hdg kk
theorem rp_S_X1_0_8 {z : wP2} {v : Int32} (hC : CallFix p m c cc nL s args BIG RX1) (hK : wKK G s) (hP : va_P G.1 vwCl (wsSearch G h z) H) (hD : va_D A (wsSearch G h z)) (hS : va_S A s.heap H locs) (hdg : decode cc pc = .ok (.putfield 41, 3)) (kk : ∀ (z1 : wP2) (H1 : Heap) (locs1 : List Loc), z1 = (w_so z (w_si (w_o z) 8 v)) → va_P G.1 vwCl (wsSearch G h z1) H1 → va_D A (wsSearch G h z1) → va_S A s.heap H1 locs1 → W p l e R s m args below meth c H1 locs1 cells slots Q (F0 m (pc + 3) ls rest)) : W p l e R s m args below meth c H locs cells slots Q (F0 m pc ls (.int v :: .ref (h 0) :: rest)) :=
  va_put hC.1 hC.2.1 hC.2.2.2.2 inX1 tyX1 tyX1_ok nmX1 hC.2.2.2.1 hK.1 hP hD hS 0 rfl rfl 8 (by decide) (hC.2.2.2.2 _ bw_149) (fun _ h9 => h9) rfl (ty := .int) (v := .int v) (by decide +kernel) rfl rfl (Nat.le_of_ble_eq_true rfl) hdg (fun H1 locs1 hP1 hD1 hS1 => kk (w_so z (w_si (w_o z) 8 v)) H1 locs1 rfl hP1 hD1 hS1)
theorem rg_S_X1_0_2 {z : wP2} (hC : CallFix p m c cc nL s args BIG RX1) (hK : wKK G s) (hP : va_P G.1 vwCl (wsSearch G h z) H) (hdg : decode cc pc = .ok (.getfield 22, 3)) (kk : W p l e R s m args below meth c H locs cells slots Q (F0 m (pc + 3) ls (.ref (h 2) :: rest))) : W p l e R s m args below meth c H locs cells slots Q (F0 m pc ls (.ref (h 0) :: rest)) :=
  va_get hC.1 hC.2.1 hC.2.2.2.2 inX1 hC.2.2.2.1 hK.1 hP 0 rfl rfl 2 (by decide) (hC.2.2.2.2 _ bw_142) (fun _ h9 => h9) rfl hdg kk
theorem rg_S_X1_0_3 {z : wP2} (hC : CallFix p m c cc nL s args BIG RX1) (hK : wKK G s) (hP : va_P G.1 vwCl (wsSearch G h z) H) (hdg : decode cc pc = .ok (.getfield 25, 3)) (kk : W p l e R s m args below meth c H locs cells slots Q (F0 m (pc + 3) ls (.ref (h 3) :: rest))) : W p l e R s m args below meth c H locs cells slots Q (F0 m pc ls (.ref (h 0) :: rest)) :=
  va_get hC.1 hC.2.1 hC.2.2.2.2 inX1 hC.2.2.2.1 hK.1 hP 0 rfl rfl 3 (by decide) (hC.2.2.2.2 _ bw_143) (fun _ h9 => h9) rfl hdg kk
theorem rg_S_X1_0_7 {z : wP2} (hC : CallFix p m c cc nL s args BIG RX1) (hK : wKK G s) (hP : va_P G.1 vwCl (wsSearch G h z) H) (hdg : decode cc pc = .ok (.getfield 38, 3)) (kk : W p l e R s m args below meth c H locs cells slots Q (F0 m (pc + 3) ls (.int (w_i (w_o z) 7) :: rest))) : W p l e R s m args below meth c H locs cells slots Q (F0 m pc ls (.ref (h 0) :: rest)) :=
  va_get hC.1 hC.2.1 hC.2.2.2.2 inX1 hC.2.2.2.1 hK.1 hP 0 rfl rfl 7 (by decide) (hC.2.2.2.2 _ bw_148) (fun _ h9 => h9) rfl hdg kk
theorem rc_S_2_3 {z : wP2} {sp dp n : Int32} (hC : CallFix p m c cc nL s args BIG RX1) (hK : wKK G s) (hP : va_P G.1 vwCl (wsSearch G h z) H) (hD : va_D A (wsSearch G h z)) (hS : va_S A s.heap H locs) {lv : List (Nat × Value)} (hl : lv_has ls nL lv) (hF : 1 ≤ R.frames) (hL : 40 ≤ R.locals) (h1 : ¬ sp < 0) (h2 : ¬ dp < 0) (h3 : ¬ n < 0) (h4 : sp.toNatClampNeg + n.toNatClampNeg ≤ 5) (h5 : dp.toNatClampNeg + n.toNatClampNeg ≤ 5) (hdg : decode cc pc = .ok (.invokestatic 54, 3)) (kk : ∀ (z1 : wP2) (H1 : Heap) (locs1 : List Loc), z1 = (w_so z (w_sa (w_o z) 3 (va_cpy (w_a (w_o z) 2) (w_a (w_o z) 3) sp.toNatClampNeg dp.toNatClampNeg n.toNatClampNeg))) → va_P G.1 vwCl (wsSearch G h z1) H1 → va_D A (wsSearch G h z1) → va_S A s.heap H1 locs1 → W p l e R s m args below meth c H1 locs1 cells slots Q (F0 m (pc + 3) ls [])) : W p l e R s m args below meth c H locs cells slots Q (F0 m pc ls [.int n, .int dp, .ref (h 3), .int sp, .ref (h 2)]) :=
  va_copyi hC.1 hC.2.1 (hC.2.2.1.trans hl.1.symm) hC.2.2.2.1 (hC.2.2.2.2 _ bw_425) (hC.2.2.2.2 _ bw_332) (hC.2.2.2.2 _ bw_331) (hC.2.2.2.2 _ bw_9) hK.1 hP hD hS 2 3 0 0 rfl rfl rfl rfl rfl h1 h2 h3 h4 h5 (fun _ _ => rfl) hF (Nat.le_trans (Nat.le_of_ble_eq_true rfl) hL) hdg (fun H1 locs1 hP1 hD1 hS1 => kk (w_so z (w_sa (w_o z) 3 (va_cpy (w_a (w_o z) 2) (w_a (w_o z) 3) sp.toNatClampNeg dp.toNatClampNeg n.toNatClampNeg))) H1 locs1 rfl hP1 hD1 hS1)
theorem calJ6_compare_7cf53 : xCalS yJ6_compare_7cf53 cJ6_compare_7cf53 2 (some .int) 2 := ⟨bw_393, bw_10, bw_394, by decide +kernel, by decide +kernel, by decide +kernel⟩
theorem rp_S_X1_0_7 {z : wP2} {v : Int32} (hC : CallFix p m c cc nL s args BIG RX1) (hK : wKK G s) (hP : va_P G.1 vwCl (wsSearch G h z) H) (hD : va_D A (wsSearch G h z)) (hS : va_S A s.heap H locs) (hdg : decode cc pc = .ok (.putfield 38, 3)) (kk : ∀ (z1 : wP2) (H1 : Heap) (locs1 : List Loc), z1 = (w_so z (w_si (w_o z) 7 v)) → va_P G.1 vwCl (wsSearch G h z1) H1 → va_D A (wsSearch G h z1) → va_S A s.heap H1 locs1 → W p l e R s m args below meth c H1 locs1 cells slots Q (F0 m (pc + 3) ls rest)) : W p l e R s m args below meth c H locs cells slots Q (F0 m pc ls (.int v :: .ref (h 0) :: rest)) :=
  va_put hC.1 hC.2.1 hC.2.2.2.2 inX1 tyX1 tyX1_ok nmX1 hC.2.2.2.1 hK.1 hP hD hS 0 rfl rfl 7 (by decide) (hC.2.2.2.2 _ bw_148) (fun _ h9 => h9) rfl (ty := .int) (v := .int v) (by decide +kernel) rfl rfl (Nat.le_of_ble_eq_true rfl) hdg (fun H1 locs1 hP1 hD1 hS1 => kk (w_so z (w_si (w_o z) 7 v)) H1 locs1 rfl hP1 hD1 hS1)
theorem rg_S_X1_0_4 {z : wP2} (hC : CallFix p m c cc nL s args BIG RX1) (hK : wKK G s) (hP : va_P G.1 vwCl (wsSearch G h z) H) (hdg : decode cc pc = .ok (.getfield 28, 3)) (kk : W p l e R s m args below meth c H locs cells slots Q (F0 m (pc + 3) ls (.int (w_i (w_o z) 4) :: rest))) : W p l e R s m args below meth c H locs cells slots Q (F0 m pc ls (.ref (h 0) :: rest)) :=
  va_get hC.1 hC.2.1 hC.2.2.2.2 inX1 hC.2.2.2.1 hK.1 hP 0 rfl rfl 4 (by decide) (hC.2.2.2.2 _ bw_145) (fun _ h9 => h9) rfl hdg kk
theorem rg_S_X1_0_6 {z : wP2} (hC : CallFix p m c cc nL s args BIG RX1) (hK : wKK G s) (hP : va_P G.1 vwCl (wsSearch G h z) H) (hdg : decode cc pc = .ok (.getfield 35, 3)) (kk : W p l e R s m args below meth c H locs cells slots Q (F0 m (pc + 3) ls (.int (w_i (w_o z) 6) :: rest))) : W p l e R s m args below meth c H locs cells slots Q (F0 m pc ls (.ref (h 0) :: rest)) :=
  va_get hC.1 hC.2.1 hC.2.2.2.2 inX1 hC.2.2.2.1 hK.1 hP 0 rfl rfl 6 (by decide) (hC.2.2.2.2 _ bw_147) (fun _ h9 => h9) rfl hdg kk
theorem calX1_tryHour : xCalV yX1_tryHour cX1_tryHour 7 none 5 := ⟨bw_433, bs_27, bw_5, bw_434, by decide +kernel, by decide +kernel, by decide +kernel⟩
theorem rp_H_X2_0_1 {z : wSt} {v : Int32} (hz : w_zb v) (hC : CallFix p m c cc nL s args BIG RX2) (hK : wKK G s) (hP : va_P G.1 vwCl (wsSheet G h z) H) (hD : va_D A (wsSheet G h z)) (hS : va_S A s.heap H locs) (hdg : decode cc pc = .ok (.putfield 15, 3)) (kk : ∀ (z1 : wSt) (H1 : Heap) (locs1 : List Loc), z1 = (w_si z 1 v) → va_P G.1 vwCl (wsSheet G h z1) H1 → va_D A (wsSheet G h z1) → va_S A s.heap H1 locs1 → W p l e R s m args below meth c H1 locs1 cells slots Q (F0 m (pc + 3) ls rest)) : W p l e R s m args below meth c H locs cells slots Q (F0 m pc ls (.int v :: .ref (h 0) :: rest)) :=
  va_put hC.1 hC.2.1 hC.2.2.2.2 inX2 tyX2 tyX2_ok nmX2 hC.2.2.2.1 hK.1 hP hD hS 0 rfl rfl 1 (by decide) (hC.2.2.2.2 _ bw_178) (fun _ h9 => h9) rfl (ty := .boolean) (v := .int v) (by decide +kernel) hz.1 hz.2 (Nat.le_of_ble_eq_true rfl) hdg (fun H1 locs1 hP1 hD1 hS1 => kk (w_si z 1 v) H1 locs1 rfl hP1 hD1 hS1)
theorem rp_H_X2_0_2 {z : wSt} {v : Int32} (hC : CallFix p m c cc nL s args BIG RX2) (hK : wKK G s) (hP : va_P G.1 vwCl (wsSheet G h z) H) (hD : va_D A (wsSheet G h z)) (hS : va_S A s.heap H locs) (hdg : decode cc pc = .ok (.putfield 19, 3)) (kk : ∀ (z1 : wSt) (H1 : Heap) (locs1 : List Loc), z1 = (w_si z 2 v) → va_P G.1 vwCl (wsSheet G h z1) H1 → va_D A (wsSheet G h z1) → va_S A s.heap H1 locs1 → W p l e R s m args below meth c H1 locs1 cells slots Q (F0 m (pc + 3) ls rest)) : W p l e R s m args below meth c H locs cells slots Q (F0 m pc ls (.int v :: .ref (h 0) :: rest)) :=
  va_put hC.1 hC.2.1 hC.2.2.2.2 inX2 tyX2 tyX2_ok nmX2 hC.2.2.2.1 hK.1 hP hD hS 0 rfl rfl 2 (by decide) (hC.2.2.2.2 _ bw_180) (fun _ h9 => h9) rfl (ty := .int) (v := .int v) (by decide +kernel) rfl rfl (Nat.le_of_ble_eq_true rfl) hdg (fun H1 locs1 hP1 hD1 hS1 => kk (w_si z 2 v) H1 locs1 rfl hP1 hD1 hS1)
theorem rp_H_X2_0_3 {z : wSt} {v : Int32} (hC : CallFix p m c cc nL s args BIG RX2) (hK : wKK G s) (hP : va_P G.1 vwCl (wsSheet G h z) H) (hD : va_D A (wsSheet G h z)) (hS : va_S A s.heap H locs) (hdg : decode cc pc = .ok (.putfield 23, 3)) (kk : ∀ (z1 : wSt) (H1 : Heap) (locs1 : List Loc), z1 = (w_si z 3 v) → va_P G.1 vwCl (wsSheet G h z1) H1 → va_D A (wsSheet G h z1) → va_S A s.heap H1 locs1 → W p l e R s m args below meth c H1 locs1 cells slots Q (F0 m (pc + 3) ls rest)) : W p l e R s m args below meth c H locs cells slots Q (F0 m pc ls (.int v :: .ref (h 0) :: rest)) :=
  va_put hC.1 hC.2.1 hC.2.2.2.2 inX2 tyX2 tyX2_ok nmX2 hC.2.2.2.1 hK.1 hP hD hS 0 rfl rfl 3 (by decide) (hC.2.2.2.2 _ bw_182) (fun _ h9 => h9) rfl (ty := .int) (v := .int v) (by decide +kernel) rfl rfl (Nat.le_of_ble_eq_true rfl) hdg (fun H1 locs1 hP1 hD1 hS1 => kk (w_si z 3 v) H1 locs1 rfl hP1 hD1 hS1)
theorem rg_H_X2_0_0 {z : wSt} (hC : CallFix p m c cc nL s args BIG RX2) (hK : wKK G s) (hP : va_P G.1 vwCl (wsSheet G h z) H) (hdg : decode cc pc = .ok (.getfield 9, 3)) (kk : W p l e R s m args below meth c H locs cells slots Q (F0 m (pc + 3) ls (.ref (h 1) :: rest))) : W p l e R s m args below meth c H locs cells slots Q (F0 m pc ls (.ref (h 0) :: rest)) :=
  va_get hC.1 hC.2.1 hC.2.2.2.2 inX2 hC.2.2.2.1 hK.1 hP 0 rfl rfl 0 (by decide) (hC.2.2.2.2 _ bw_176) (fun _ h9 => h9) rfl hdg kk
theorem rs_H_1 {z : wSt} {i : Int32} {v : Int64} (hC : CallFix p m c cc nL s args BIG own) (hK : wKK G s) (hP : va_P G.1 vwCl (wsSheet G h z) H) (hD : va_D A (wsSheet G h z)) (hS : va_S A s.heap H locs) (hin : vp_in i 24) (hdg : decode cc pc = .ok (.lastore, 1)) (kk : ∀ (z1 : wSt) (H1 : Heap) (locs1 : List Loc), z1 = (w_sl z 0 (vp_updL (w_l z 0) i.toNatClampNeg v)) → va_P G.1 vwCl (wsSheet G h z1) H1 → va_D A (wsSheet G h z1) → va_S A s.heap H1 locs1 → W p l e R s m args below meth c H1 locs1 cells slots Q (F0 m (pc + 1) ls rest)) : W p l e R s m args below meth c H locs cells slots Q (F0 m pc ls (.long v :: .int i :: .ref (h 1) :: rest)) :=
  va_last hC.1 hC.2.1 hK.1 hP hD hS 1 2 rfl rfl hin hdg (fun H1 locs1 hP1 hD1 hS1 => kk (w_sl z 0 (vp_updL (w_l z 0) i.toNatClampNeg v)) H1 locs1 rfl hP1 hD1 hS1)
theorem rg_H_X2_0_3 {z : wSt} (hC : CallFix p m c cc nL s args BIG RX2) (hK : wKK G s) (hP : va_P G.1 vwCl (wsSheet G h z) H) (hdg : decode cc pc = .ok (.getfield 23, 3)) (kk : W p l e R s m args below meth c H locs cells slots Q (F0 m (pc + 3) ls (.int (w_i z 3) :: rest))) : W p l e R s m args below meth c H locs cells slots Q (F0 m pc ls (.ref (h 0) :: rest)) :=
  va_get hC.1 hC.2.1 hC.2.2.2.2 inX2 hC.2.2.2.1 hK.1 hP 0 rfl rfl 3 (by decide) (hC.2.2.2.2 _ bw_182) (fun _ h9 => h9) rfl hdg kk
theorem rg_H_X2_0_2 {z : wSt} (hC : CallFix p m c cc nL s args BIG RX2) (hK : wKK G s) (hP : va_P G.1 vwCl (wsSheet G h z) H) (hdg : decode cc pc = .ok (.getfield 19, 3)) (kk : W p l e R s m args below meth c H locs cells slots Q (F0 m (pc + 3) ls (.int (w_i z 2) :: rest))) : W p l e R s m args below meth c H locs cells slots Q (F0 m pc ls (.ref (h 0) :: rest)) :=
  va_get hC.1 hC.2.1 hC.2.2.2.2 inX2 hC.2.2.2.1 hK.1 hP 0 rfl rfl 2 (by decide) (hC.2.2.2.2 _ bw_180) (fun _ h9 => h9) rfl hdg kk
theorem rg_T_X3_0_1 {z : wSt} (hC : CallFix p m c cc nL s args BIG RX3) (hK : wKK G s) (hP : va_P G.1 vwCl (wsTape G h z) H) (hdg : decode cc pc = .ok (.getfield 15, 3)) (kk : W p l e R s m args below meth c H locs cells slots Q (F0 m (pc + 3) ls (.int (w_i z 1) :: rest))) : W p l e R s m args below meth c H locs cells slots Q (F0 m pc ls (.ref (h 0) :: rest)) :=
  va_get hC.1 hC.2.1 hC.2.2.2.2 inX3 hC.2.2.2.1 hK.1 hP 0 rfl rfl 1 (by decide) (hC.2.2.2.2 _ bw_118) (fun _ h9 => h9) rfl hdg kk
theorem rg_T_X3_0_0 {z : wSt} (hC : CallFix p m c cc nL s args BIG RX3) (hK : wKK G s) (hP : va_P G.1 vwCl (wsTape G h z) H) (hdg : decode cc pc = .ok (.getfield 9, 3)) (kk : W p l e R s m args below meth c H locs cells slots Q (F0 m (pc + 3) ls (.ref (h 1) :: rest))) : W p l e R s m args below meth c H locs cells slots Q (F0 m pc ls (.ref (h 0) :: rest)) :=
  va_get hC.1 hC.2.1 hC.2.2.2.2 inX3 hC.2.2.2.1 hK.1 hP 0 rfl rfl 0 (by decide) (hC.2.2.2.2 _ bw_117) (fun _ h9 => h9) rfl hdg kk
theorem rs_T_1 {z : wSt} {i : Int32} {v : Int32} (hC : CallFix p m c cc nL s args BIG own) (hK : wKK G s) (hP : va_P G.1 vwCl (wsTape G h z) H) (hD : va_D A (wsTape G h z)) (hS : va_S A s.heap H locs) (hin : vp_in i 60) (hdg : decode cc pc = .ok (.bastore, 1)) (kk : ∀ (z1 : wSt) (H1 : Heap) (locs1 : List Loc), z1 = (w_sa z 0 (upd (w_a z 0) i.toNatClampNeg (vp_nar .byte v))) → va_P G.1 vwCl (wsTape G h z1) H1 → va_D A (wsTape G h z1) → va_S A s.heap H1 locs1 → W p l e R s m args below meth c H1 locs1 cells slots Q (F0 m (pc + 1) ls rest)) : W p l e R s m args below meth c H locs cells slots Q (F0 m pc ls (.int v :: .int i :: .ref (h 1) :: rest)) :=
  va_bast hC.1 hC.2.1 hK.1 hP hD hS 1 1 rfl rfl hin hdg (fun H1 locs1 hP1 hD1 hS1 => kk (w_sa z 0 (upd (w_a z 0) i.toNatClampNeg (vp_nar .byte v))) H1 locs1 rfl hP1 hD1 hS1)
theorem rp_T_X3_0_1 {z : wSt} {v : Int32} (hC : CallFix p m c cc nL s args BIG RX3) (hK : wKK G s) (hP : va_P G.1 vwCl (wsTape G h z) H) (hD : va_D A (wsTape G h z)) (hS : va_S A s.heap H locs) (hdg : decode cc pc = .ok (.putfield 15, 3)) (kk : ∀ (z1 : wSt) (H1 : Heap) (locs1 : List Loc), z1 = (w_si z 1 v) → va_P G.1 vwCl (wsTape G h z1) H1 → va_D A (wsTape G h z1) → va_S A s.heap H1 locs1 → W p l e R s m args below meth c H1 locs1 cells slots Q (F0 m (pc + 3) ls rest)) : W p l e R s m args below meth c H locs cells slots Q (F0 m pc ls (.int v :: .ref (h 0) :: rest)) :=
  va_put hC.1 hC.2.1 hC.2.2.2.2 inX3 tyX3 tyX3_ok nmX3 hC.2.2.2.1 hK.1 hP hD hS 0 rfl rfl 1 (by decide) (hC.2.2.2.2 _ bw_118) (fun _ h9 => h9) rfl (ty := .int) (v := .int v) (by decide +kernel) rfl rfl (Nat.le_of_ble_eq_true rfl) hdg (fun H1 locs1 hP1 hD1 hS1 => kk (w_si z 1 v) H1 locs1 rfl hP1 hD1 hS1)
theorem rg_T_X3_0_2 {z : wSt} (hC : CallFix p m c cc nL s args BIG RX3) (hK : wKK G s) (hP : va_P G.1 vwCl (wsTape G h z) H) (hdg : decode cc pc = .ok (.getfield 19, 3)) (kk : W p l e R s m args below meth c H locs cells slots Q (F0 m (pc + 3) ls (.int (w_i z 2) :: rest))) : W p l e R s m args below meth c H locs cells slots Q (F0 m pc ls (.ref (h 0) :: rest)) :=
  va_get hC.1 hC.2.1 hC.2.2.2.2 inX3 hC.2.2.2.1 hK.1 hP 0 rfl rfl 2 (by decide) (hC.2.2.2.2 _ bw_120) (fun _ h9 => h9) rfl hdg kk
theorem rl_T_1 {z : wSt} {i : Int32} (hC : CallFix p m c cc nL s args BIG own) (hK : wKK G s) (hP : va_P G.1 vwCl (wsTape G h z) H) (hin : vp_in i 60) (hdg : decode cc pc = .ok (.baload, 1)) (kk : W p l e R s m args below meth c H locs cells slots Q (F0 m (pc + 1) ls (.int ((w_a z 0) i.toNatClampNeg) :: rest))) : W p l e R s m args below meth c H locs cells slots Q (F0 m pc ls (.int i :: .ref (h 1) :: rest)) :=
  va_bald hC.1 hC.2.1 hK.1 hP 1 1 rfl rfl hin hdg kk
theorem rp_T_X3_0_2 {z : wSt} {v : Int32} (hC : CallFix p m c cc nL s args BIG RX3) (hK : wKK G s) (hP : va_P G.1 vwCl (wsTape G h z) H) (hD : va_D A (wsTape G h z)) (hS : va_S A s.heap H locs) (hdg : decode cc pc = .ok (.putfield 19, 3)) (kk : ∀ (z1 : wSt) (H1 : Heap) (locs1 : List Loc), z1 = (w_si z 2 v) → va_P G.1 vwCl (wsTape G h z1) H1 → va_D A (wsTape G h z1) → va_S A s.heap H1 locs1 → W p l e R s m args below meth c H1 locs1 cells slots Q (F0 m (pc + 3) ls rest)) : W p l e R s m args below meth c H locs cells slots Q (F0 m pc ls (.int v :: .ref (h 0) :: rest)) :=
  va_put hC.1 hC.2.1 hC.2.2.2.2 inX3 tyX3 tyX3_ok nmX3 hC.2.2.2.1 hK.1 hP hD hS 0 rfl rfl 2 (by decide) (hC.2.2.2.2 _ bw_120) (fun _ h9 => h9) rfl (ty := .int) (v := .int v) (by decide +kernel) rfl rfl (Nat.le_of_ble_eq_true rfl) hdg (fun H1 locs1 hP1 hD1 hS1 => kk (w_si z 2 v) H1 locs1 rfl hP1 hD1 hS1)
theorem calX3_next : xCalV yX3_next cX3_next 1 (some .int) 0 := ⟨bw_291, bs_7, bw_4, bw_292, by decide +kernel, by decide +kernel, by decide +kernel⟩
theorem calX5_within : xCalS yX5_within cX5_within 3 (some .boolean) 3 := ⟨bw_224, bw_1, bw_225, by decide +kernel, by decide +kernel, by decide +kernel⟩
theorem calX3_kindBy : xCalS yX3_kindBy cX3_kindBy 1 (some .int) 1 := ⟨bw_294, bw_4, bw_295, by decide +kernel, by decide +kernel, by decide +kernel⟩
theorem rg_TF_X3_0_2 {z : wSt × wSt} (hC : CallFix p m c cc nL s args BIG RX3) (hK : wKK G s) (hP : va_P G.1 vwCl (wsTape G h z.1 ++ wsFolk G g z.2) H) (hdg : decode cc pc = .ok (.getfield 19, 3)) (kk : W p l e R s m args below meth c H locs cells slots Q (F0 m (pc + 3) ls (.int (w_i z.1 2) :: rest))) : W p l e R s m args below meth c H locs cells slots Q (F0 m pc ls (.ref (h 0) :: rest)) :=
  va_get hC.1 hC.2.1 hC.2.2.2.2 inX3 hC.2.2.2.1 hK.1 hP 0 rfl rfl 2 (by decide) (hC.2.2.2.2 _ bw_120) (fun _ h9 => h9) rfl hdg kk
theorem rp_TF_X3_0_2 {z : wSt × wSt} {v : Int32} (hC : CallFix p m c cc nL s args BIG RX3) (hK : wKK G s) (hP : va_P G.1 vwCl (wsTape G h z.1 ++ wsFolk G g z.2) H) (hD : va_D A (wsTape G h z.1 ++ wsFolk G g z.2)) (hS : va_S A s.heap H locs) (hdg : decode cc pc = .ok (.putfield 19, 3)) (kk : ∀ (z1 : wSt × wSt) (H1 : Heap) (locs1 : List Loc), z1 = ((w_si z.1 2 v), z.2) → va_P G.1 vwCl (wsTape G h z1.1 ++ wsFolk G g z1.2) H1 → va_D A (wsTape G h z1.1 ++ wsFolk G g z1.2) → va_S A s.heap H1 locs1 → W p l e R s m args below meth c H1 locs1 cells slots Q (F0 m (pc + 3) ls rest)) : W p l e R s m args below meth c H locs cells slots Q (F0 m pc ls (.int v :: .ref (h 0) :: rest)) :=
  va_put hC.1 hC.2.1 hC.2.2.2.2 inX3 tyX3 tyX3_ok nmX3 hC.2.2.2.1 hK.1 hP hD hS 0 rfl rfl 2 (by decide) (hC.2.2.2.2 _ bw_120) (fun _ h9 => h9) rfl (ty := .int) (v := .int v) (by decide +kernel) rfl rfl (Nat.le_of_ble_eq_true rfl) hdg (fun H1 locs1 hP1 hD1 hS1 => kk ((w_si z.1 2 v), z.2) H1 locs1 rfl hP1 hD1 hS1)
theorem calX3_readDigit : xCalV yX3_readDigit cX3_readDigit 4 (some .int) 2 := ⟨bw_298, bs_8, bw_4, bw_299, by decide +kernel, by decide +kernel, by decide +kernel⟩
theorem calX0_add : xCalV yX0_add cX0_add 5 (some .int) 3 := ⟨bw_228, bs_0, bw_3, bw_229, by decide +kernel, by decide +kernel, by decide +kernel⟩
theorem rp_TF_X3_2_4 {z : wSt × wSt} {v : Int32} (hC : CallFix p m c cc nL s args BIG RX3) (hK : wKK G s) (hP : va_P G.1 vwCl (wsTape G h z.1 ++ wsFolk G g z.2) H) (hD : va_D A (wsTape G h z.1 ++ wsFolk G g z.2)) (hS : va_S A s.heap H locs) (hdg : decode cc pc = .ok (.putfield 22, 3)) (kk : ∀ (z1 : wSt × wSt) (H1 : Heap) (locs1 : List Loc), z1 = (z.1, (w_si z.2 4 v)) → va_P G.1 vwCl (wsTape G h z1.1 ++ wsFolk G g z1.2) H1 → va_D A (wsTape G h z1.1 ++ wsFolk G g z1.2) → va_S A s.heap H1 locs1 → W p l e R s m args below meth c H1 locs1 cells slots Q (F0 m (pc + 3) ls rest)) : W p l e R s m args below meth c H locs cells slots Q (F0 m pc ls (.int v :: .ref (g 0) :: rest)) :=
  va_putN hC.1 hC.2.1 hC.2.2.2.2 inX0 tyX0 tyX0_ok nmX0 hC.2.2.2.1 hK.1 hP hD hS 2 rfl rfl 4 (by decide) (hK.2.at bw_44) (fun _ h9 => h9) rfl (ty := .int) (v := .int v) (by decide +kernel) rfl rfl (Nat.le_of_ble_eq_true rfl) hdg (fun H1 locs1 hP1 hD1 hS1 => kk (z.1, (w_si z.2 4 v)) H1 locs1 rfl hP1 hD1 hS1)
theorem calX3_fault : xCalV yX3_fault cX3_fault 1 (some .int) 0 := ⟨bw_304, bs_9, bw_4, bw_305, by decide +kernel, by decide +kernel, by decide +kernel⟩
theorem calX3_readOne : xCalV yX3_readOne cX3_readOne 6 (some .boolean) 1 := ⟨bw_287, bs_6, bw_4, bw_288, by decide +kernel, by decide +kernel, by decide +kernel⟩
theorem rp_TAF_X3_0_2 {z : wSt × (Nat → Int32) × wSt} {v : Int32} (hC : CallFix p m c cc nL s args BIG RX3) (hK : wKK G s) (hP : va_P G.1 vwCl (wsTape G h z.1 ++ (wsArr G g 24 z.2.1 ++ wsFolk G k z.2.2)) H) (hD : va_D A (wsTape G h z.1 ++ (wsArr G g 24 z.2.1 ++ wsFolk G k z.2.2))) (hS : va_S A s.heap H locs) (hdg : decode cc pc = .ok (.putfield 19, 3)) (kk : ∀ (z1 : wSt × (Nat → Int32) × wSt) (H1 : Heap) (locs1 : List Loc), z1 = ((w_si z.1 2 v), z.2.1, z.2.2) → va_P G.1 vwCl (wsTape G h z1.1 ++ (wsArr G g 24 z1.2.1 ++ wsFolk G k z1.2.2)) H1 → va_D A (wsTape G h z1.1 ++ (wsArr G g 24 z1.2.1 ++ wsFolk G k z1.2.2)) → va_S A s.heap H1 locs1 → W p l e R s m args below meth c H1 locs1 cells slots Q (F0 m (pc + 3) ls rest)) : W p l e R s m args below meth c H locs cells slots Q (F0 m pc ls (.int v :: .ref (h 0) :: rest)) :=
  va_put hC.1 hC.2.1 hC.2.2.2.2 inX3 tyX3 tyX3_ok nmX3 hC.2.2.2.1 hK.1 hP hD hS 0 rfl rfl 2 (by decide) (hC.2.2.2.2 _ bw_120) (fun _ h9 => h9) rfl (ty := .int) (v := .int v) (by decide +kernel) rfl rfl (Nat.le_of_ble_eq_true rfl) hdg (fun H1 locs1 hP1 hD1 hS1 => kk ((w_si z.1 2 v), z.2.1, z.2.2) H1 locs1 rfl hP1 hD1 hS1)
theorem rs_TAF_2 {z : wSt × (Nat → Int32) × wSt} {i : Int32} {v : Int32} (hC : CallFix p m c cc nL s args BIG own) (hK : wKK G s) (hP : va_P G.1 vwCl (wsTape G h z.1 ++ (wsArr G g 24 z.2.1 ++ wsFolk G k z.2.2)) H) (hD : va_D A (wsTape G h z.1 ++ (wsArr G g 24 z.2.1 ++ wsFolk G k z.2.2))) (hS : va_S A s.heap H locs) (hin : vp_in i 24) (hdg : decode cc pc = .ok (.iastore, 1)) (kk : ∀ (z1 : wSt × (Nat → Int32) × wSt) (H1 : Heap) (locs1 : List Loc), z1 = (z.1, (upd z.2.1 i.toNatClampNeg v), z.2.2) → va_P G.1 vwCl (wsTape G h z1.1 ++ (wsArr G g 24 z1.2.1 ++ wsFolk G k z1.2.2)) H1 → va_D A (wsTape G h z1.1 ++ (wsArr G g 24 z1.2.1 ++ wsFolk G k z1.2.2)) → va_S A s.heap H1 locs1 → W p l e R s m args below meth c H1 locs1 cells slots Q (F0 m (pc + 1) ls rest)) : W p l e R s m args below meth c H locs cells slots Q (F0 m pc ls (.int v :: .int i :: .ref (g 0) :: rest)) :=
  va_iast hC.1 hC.2.1 hK.1 hP hD hS 2 0 rfl rfl hin hdg (fun H1 locs1 hP1 hD1 hS1 => kk (z.1, (upd z.2.1 i.toNatClampNeg v), z.2.2) H1 locs1 rfl hP1 hD1 hS1)
theorem rg_TAF_X3_0_2 {z : wSt × (Nat → Int32) × wSt} (hC : CallFix p m c cc nL s args BIG RX3) (hK : wKK G s) (hP : va_P G.1 vwCl (wsTape G h z.1 ++ (wsArr G g 24 z.2.1 ++ wsFolk G k z.2.2)) H) (hdg : decode cc pc = .ok (.getfield 19, 3)) (kk : W p l e R s m args below meth c H locs cells slots Q (F0 m (pc + 3) ls (.int (w_i z.1 2) :: rest))) : W p l e R s m args below meth c H locs cells slots Q (F0 m pc ls (.ref (h 0) :: rest)) :=
  va_get hC.1 hC.2.1 hC.2.2.2.2 inX3 hC.2.2.2.1 hK.1 hP 0 rfl rfl 2 (by decide) (hC.2.2.2.2 _ bw_120) (fun _ h9 => h9) rfl hdg kk
theorem rg_WW_X4_0_0 {z : wP2 × wP2} (hC : CallFix p m c cc nL s args BIG RX4) (hK : wKK G s) (hP : va_P G.1 vwCl (wsWell G h z.1 ++ wsWell G g z.2) H) (hdg : decode cc pc = .ok (.getfield 12, 3)) (kk : W p l e R s m args below meth c H locs cells slots Q (F0 m (pc + 3) ls (.ref (h 3) :: rest))) : W p l e R s m args below meth c H locs cells slots Q (F0 m pc ls (.ref (h 0) :: rest)) :=
  va_get hC.1 hC.2.1 hC.2.2.2.2 inX4 hC.2.2.2.1 hK.1 hP 0 rfl rfl 0 (by decide) (hC.2.2.2.2 _ bw_58) (fun _ h9 => h9) rfl hdg kk
theorem rg_WW_X4_8_0 {z : wP2 × wP2} (hC : CallFix p m c cc nL s args BIG RX4) (hK : wKK G s) (hP : va_P G.1 vwCl (wsWell G h z.1 ++ wsWell G g z.2) H) (hdg : decode cc pc = .ok (.getfield 12, 3)) (kk : W p l e R s m args below meth c H locs cells slots Q (F0 m (pc + 3) ls (.ref (g 3) :: rest))) : W p l e R s m args below meth c H locs cells slots Q (F0 m pc ls (.ref (g 0) :: rest)) :=
  va_get hC.1 hC.2.1 hC.2.2.2.2 inX4 hC.2.2.2.1 hK.1 hP 8 rfl rfl 0 (by decide) (hC.2.2.2.2 _ bw_58) (fun _ h9 => h9) rfl hdg kk
theorem rg_WW_X4_8_1 {z : wP2 × wP2} (hC : CallFix p m c cc nL s args BIG RX4) (hK : wKK G s) (hP : va_P G.1 vwCl (wsWell G h z.1 ++ wsWell G g z.2) H) (hdg : decode cc pc = .ok (.getfield 18, 3)) (kk : W p l e R s m args below meth c H locs cells slots Q (F0 m (pc + 3) ls (.ref (g 1) :: rest))) : W p l e R s m args below meth c H locs cells slots Q (F0 m pc ls (.ref (g 0) :: rest)) :=
  va_get hC.1 hC.2.1 hC.2.2.2.2 inX4 hC.2.2.2.1 hK.1 hP 8 rfl rfl 1 (by decide) (hC.2.2.2.2 _ bw_61) (fun _ h9 => h9) rfl hdg kk
theorem rg_WW_X4_0_1 {z : wP2 × wP2} (hC : CallFix p m c cc nL s args BIG RX4) (hK : wKK G s) (hP : va_P G.1 vwCl (wsWell G h z.1 ++ wsWell G g z.2) H) (hdg : decode cc pc = .ok (.getfield 18, 3)) (kk : W p l e R s m args below meth c H locs cells slots Q (F0 m (pc + 3) ls (.ref (h 1) :: rest))) : W p l e R s m args below meth c H locs cells slots Q (F0 m pc ls (.ref (h 0) :: rest)) :=
  va_get hC.1 hC.2.1 hC.2.2.2.2 inX4 hC.2.2.2.1 hK.1 hP 0 rfl rfl 1 (by decide) (hC.2.2.2.2 _ bw_61) (fun _ h9 => h9) rfl hdg kk
theorem rc_WW_9_1 {z : wP2 × wP2} {sp dp n : Int32} (hC : CallFix p m c cc nL s args BIG RX4) (hK : wKK G s) (hP : va_P G.1 vwCl (wsWell G h z.1 ++ wsWell G g z.2) H) (hD : va_D A (wsWell G h z.1 ++ wsWell G g z.2)) (hS : va_S A s.heap H locs) {lv : List (Nat × Value)} (hl : lv_has ls nL lv) (hF : 1 ≤ R.frames) (hL : 40 ≤ R.locals) (h1 : ¬ sp < 0) (h2 : ¬ dp < 0) (h3 : ¬ n < 0) (h4 : sp.toNatClampNeg + n.toNatClampNeg ≤ 6) (h5 : dp.toNatClampNeg + n.toNatClampNeg ≤ 6) (hdg : decode cc pc = .ok (.invokestatic 57, 3)) (kk : ∀ (z1 : wP2 × wP2) (H1 : Heap) (locs1 : List Loc), z1 = ((w_so z.1 (w_sa (w_o z.1) 1 (va_cpy (w_a (w_o z.2) 1) (w_a (w_o z.1) 1) sp.toNatClampNeg dp.toNatClampNeg n.toNatClampNeg))), z.2) → va_P G.1 vwCl (wsWell G h z1.1 ++ wsWell G g z1.2) H1 → va_D A (wsWell G h z1.1 ++ wsWell G g z1.2) → va_S A s.heap H1 locs1 → W p l e R s m args below meth c H1 locs1 cells slots Q (F0 m (pc + 3) ls [])) : W p l e R s m args below meth c H locs cells slots Q (F0 m pc ls [.int n, .int dp, .ref (h 1), .int sp, .ref (g 1)]) :=
  va_copyi hC.1 hC.2.1 (hC.2.2.1.trans hl.1.symm) hC.2.2.2.1 (hC.2.2.2.2 _ bw_330) (hC.2.2.2.2 _ bw_332) (hC.2.2.2.2 _ bw_331) (hC.2.2.2.2 _ bw_9) hK.1 hP hD hS 9 1 0 0 rfl rfl rfl rfl rfl h1 h2 h3 h4 h5 (fun _ _ => rfl) hF (Nat.le_trans (Nat.le_of_ble_eq_true rfl) hL) hdg (fun H1 locs1 hP1 hD1 hS1 => kk ((w_so z.1 (w_sa (w_o z.1) 1 (va_cpy (w_a (w_o z.2) 1) (w_a (w_o z.1) 1) sp.toNatClampNeg dp.toNatClampNeg n.toNatClampNeg))), z.2) H1 locs1 rfl hP1 hD1 hS1)
theorem rg_WW_X4_8_2 {z : wP2 × wP2} (hC : CallFix p m c cc nL s args BIG RX4) (hK : wKK G s) (hP : va_P G.1 vwCl (wsWell G h z.1 ++ wsWell G g z.2) H) (hdg : decode cc pc = .ok (.getfield 22, 3)) (kk : W p l e R s m args below meth c H locs cells slots Q (F0 m (pc + 3) ls (.ref (g 2) :: rest))) : W p l e R s m args below meth c H locs cells slots Q (F0 m pc ls (.ref (g 0) :: rest)) :=
  va_get hC.1 hC.2.1 hC.2.2.2.2 inX4 hC.2.2.2.1 hK.1 hP 8 rfl rfl 2 (by decide) (hC.2.2.2.2 _ bw_64) (fun _ h9 => h9) rfl hdg kk
theorem rg_WW_X4_0_2 {z : wP2 × wP2} (hC : CallFix p m c cc nL s args BIG RX4) (hK : wKK G s) (hP : va_P G.1 vwCl (wsWell G h z.1 ++ wsWell G g z.2) H) (hdg : decode cc pc = .ok (.getfield 22, 3)) (kk : W p l e R s m args below meth c H locs cells slots Q (F0 m (pc + 3) ls (.ref (h 2) :: rest))) : W p l e R s m args below meth c H locs cells slots Q (F0 m pc ls (.ref (h 0) :: rest)) :=
  va_get hC.1 hC.2.1 hC.2.2.2.2 inX4 hC.2.2.2.1 hK.1 hP 0 rfl rfl 2 (by decide) (hC.2.2.2.2 _ bw_64) (fun _ h9 => h9) rfl hdg kk
theorem rc_WW_10_2 {z : wP2 × wP2} {sp dp n : Int32} (hC : CallFix p m c cc nL s args BIG RX4) (hK : wKK G s) (hP : va_P G.1 vwCl (wsWell G h z.1 ++ wsWell G g z.2) H) (hD : va_D A (wsWell G h z.1 ++ wsWell G g z.2)) (hS : va_S A s.heap H locs) {lv : List (Nat × Value)} (hl : lv_has ls nL lv) (hF : 1 ≤ R.frames) (hL : 40 ≤ R.locals) (h1 : ¬ sp < 0) (h2 : ¬ dp < 0) (h3 : ¬ n < 0) (h4 : sp.toNatClampNeg + n.toNatClampNeg ≤ 24) (h5 : dp.toNatClampNeg + n.toNatClampNeg ≤ 24) (hdg : decode cc pc = .ok (.invokestatic 57, 3)) (kk : ∀ (z1 : wP2 × wP2) (H1 : Heap) (locs1 : List Loc), z1 = ((w_so z.1 (w_sa (w_o z.1) 2 (va_cpy (w_a (w_o z.2) 2) (w_a (w_o z.1) 2) sp.toNatClampNeg dp.toNatClampNeg n.toNatClampNeg))), z.2) → va_P G.1 vwCl (wsWell G h z1.1 ++ wsWell G g z1.2) H1 → va_D A (wsWell G h z1.1 ++ wsWell G g z1.2) → va_S A s.heap H1 locs1 → W p l e R s m args below meth c H1 locs1 cells slots Q (F0 m (pc + 3) ls [])) : W p l e R s m args below meth c H locs cells slots Q (F0 m pc ls [.int n, .int dp, .ref (h 2), .int sp, .ref (g 2)]) :=
  va_copyi hC.1 hC.2.1 (hC.2.2.1.trans hl.1.symm) hC.2.2.2.1 (hC.2.2.2.2 _ bw_330) (hC.2.2.2.2 _ bw_332) (hC.2.2.2.2 _ bw_331) (hC.2.2.2.2 _ bw_9) hK.1 hP hD hS 10 2 0 0 rfl rfl rfl rfl rfl h1 h2 h3 h4 h5 (fun _ _ => rfl) hF (Nat.le_trans (Nat.le_of_ble_eq_true rfl) hL) hdg (fun H1 locs1 hP1 hD1 hS1 => kk ((w_so z.1 (w_sa (w_o z.1) 2 (va_cpy (w_a (w_o z.2) 2) (w_a (w_o z.1) 2) sp.toNatClampNeg dp.toNatClampNeg n.toNatClampNeg))), z.2) H1 locs1 rfl hP1 hD1 hS1)
theorem rg_WW_X4_8_3 {z : wP2 × wP2} (hC : CallFix p m c cc nL s args BIG RX4) (hK : wKK G s) (hP : va_P G.1 vwCl (wsWell G h z.1 ++ wsWell G g z.2) H) (hdg : decode cc pc = .ok (.getfield 25, 3)) (kk : W p l e R s m args below meth c H locs cells slots Q (F0 m (pc + 3) ls (.int (w_i (w_o z.2) 3) :: rest))) : W p l e R s m args below meth c H locs cells slots Q (F0 m pc ls (.ref (g 0) :: rest)) :=
  va_get hC.1 hC.2.1 hC.2.2.2.2 inX4 hC.2.2.2.1 hK.1 hP 8 rfl rfl 3 (by decide) (hC.2.2.2.2 _ bw_65) (fun _ h9 => h9) rfl hdg kk
theorem rp_WW_X4_0_3 {z : wP2 × wP2} {v : Int32} (hC : CallFix p m c cc nL s args BIG RX4) (hK : wKK G s) (hP : va_P G.1 vwCl (wsWell G h z.1 ++ wsWell G g z.2) H) (hD : va_D A (wsWell G h z.1 ++ wsWell G g z.2)) (hS : va_S A s.heap H locs) (hdg : decode cc pc = .ok (.putfield 25, 3)) (kk : ∀ (z1 : wP2 × wP2) (H1 : Heap) (locs1 : List Loc), z1 = ((w_so z.1 (w_si (w_o z.1) 3 v)), z.2) → va_P G.1 vwCl (wsWell G h z1.1 ++ wsWell G g z1.2) H1 → va_D A (wsWell G h z1.1 ++ wsWell G g z1.2) → va_S A s.heap H1 locs1 → W p l e R s m args below meth c H1 locs1 cells slots Q (F0 m (pc + 3) ls rest)) : W p l e R s m args below meth c H locs cells slots Q (F0 m pc ls (.int v :: .ref (h 0) :: rest)) :=
  va_put hC.1 hC.2.1 hC.2.2.2.2 inX4 tyX4 tyX4_ok nmX4 hC.2.2.2.1 hK.1 hP hD hS 0 rfl rfl 3 (by decide) (hC.2.2.2.2 _ bw_65) (fun _ h9 => h9) rfl (ty := .int) (v := .int v) (by decide +kernel) rfl rfl (Nat.le_of_ble_eq_true rfl) hdg (fun H1 locs1 hP1 hD1 hS1 => kk ((w_so z.1 (w_si (w_o z.1) 3 v)), z.2) H1 locs1 rfl hP1 hD1 hS1)
theorem rg_WW_X4_8_4 {z : wP2 × wP2} (hC : CallFix p m c cc nL s args BIG RX4) (hK : wKK G s) (hP : va_P G.1 vwCl (wsWell G h z.1 ++ wsWell G g z.2) H) (hdg : decode cc pc = .ok (.getfield 29, 3)) (kk : W p l e R s m args below meth c H locs cells slots Q (F0 m (pc + 3) ls (.int (w_i (w_o z.2) 4) :: rest))) : W p l e R s m args below meth c H locs cells slots Q (F0 m pc ls (.ref (g 0) :: rest)) :=
  va_get hC.1 hC.2.1 hC.2.2.2.2 inX4 hC.2.2.2.1 hK.1 hP 8 rfl rfl 4 (by decide) (hC.2.2.2.2 _ bw_67) (fun _ h9 => h9) rfl hdg kk
theorem rp_WW_X4_0_4 {z : wP2 × wP2} {v : Int32} (hC : CallFix p m c cc nL s args BIG RX4) (hK : wKK G s) (hP : va_P G.1 vwCl (wsWell G h z.1 ++ wsWell G g z.2) H) (hD : va_D A (wsWell G h z.1 ++ wsWell G g z.2)) (hS : va_S A s.heap H locs) (hdg : decode cc pc = .ok (.putfield 29, 3)) (kk : ∀ (z1 : wP2 × wP2) (H1 : Heap) (locs1 : List Loc), z1 = ((w_so z.1 (w_si (w_o z.1) 4 v)), z.2) → va_P G.1 vwCl (wsWell G h z1.1 ++ wsWell G g z1.2) H1 → va_D A (wsWell G h z1.1 ++ wsWell G g z1.2) → va_S A s.heap H1 locs1 → W p l e R s m args below meth c H1 locs1 cells slots Q (F0 m (pc + 3) ls rest)) : W p l e R s m args below meth c H locs cells slots Q (F0 m pc ls (.int v :: .ref (h 0) :: rest)) :=
  va_put hC.1 hC.2.1 hC.2.2.2.2 inX4 tyX4 tyX4_ok nmX4 hC.2.2.2.1 hK.1 hP hD hS 0 rfl rfl 4 (by decide) (hC.2.2.2.2 _ bw_67) (fun _ h9 => h9) rfl (ty := .int) (v := .int v) (by decide +kernel) rfl rfl (Nat.le_of_ble_eq_true rfl) hdg (fun H1 locs1 hP1 hD1 hS1 => kk ((w_so z.1 (w_si (w_o z.1) 4 v)), z.2) H1 locs1 rfl hP1 hD1 hS1)
theorem rg_WW_X4_8_5 {z : wP2 × wP2} (hC : CallFix p m c cc nL s args BIG RX4) (hK : wKK G s) (hP : va_P G.1 vwCl (wsWell G h z.1 ++ wsWell G g z.2) H) (hdg : decode cc pc = .ok (.getfield 32, 3)) (kk : W p l e R s m args below meth c H locs cells slots Q (F0 m (pc + 3) ls (.int (w_i (w_o z.2) 5) :: rest))) : W p l e R s m args below meth c H locs cells slots Q (F0 m pc ls (.ref (g 0) :: rest)) :=
  va_get hC.1 hC.2.1 hC.2.2.2.2 inX4 hC.2.2.2.1 hK.1 hP 8 rfl rfl 5 (by decide) (hC.2.2.2.2 _ bw_69) (fun _ h9 => h9) rfl hdg kk
theorem rp_WW_X4_0_5 {z : wP2 × wP2} {v : Int32} (hC : CallFix p m c cc nL s args BIG RX4) (hK : wKK G s) (hP : va_P G.1 vwCl (wsWell G h z.1 ++ wsWell G g z.2) H) (hD : va_D A (wsWell G h z.1 ++ wsWell G g z.2)) (hS : va_S A s.heap H locs) (hdg : decode cc pc = .ok (.putfield 32, 3)) (kk : ∀ (z1 : wP2 × wP2) (H1 : Heap) (locs1 : List Loc), z1 = ((w_so z.1 (w_si (w_o z.1) 5 v)), z.2) → va_P G.1 vwCl (wsWell G h z1.1 ++ wsWell G g z1.2) H1 → va_D A (wsWell G h z1.1 ++ wsWell G g z1.2) → va_S A s.heap H1 locs1 → W p l e R s m args below meth c H1 locs1 cells slots Q (F0 m (pc + 3) ls rest)) : W p l e R s m args below meth c H locs cells slots Q (F0 m pc ls (.int v :: .ref (h 0) :: rest)) :=
  va_put hC.1 hC.2.1 hC.2.2.2.2 inX4 tyX4 tyX4_ok nmX4 hC.2.2.2.1 hK.1 hP hD hS 0 rfl rfl 5 (by decide) (hC.2.2.2.2 _ bw_69) (fun _ h9 => h9) rfl (ty := .int) (v := .int v) (by decide +kernel) rfl rfl (Nat.le_of_ble_eq_true rfl) hdg (fun H1 locs1 hP1 hD1 hS1 => kk ((w_so z.1 (w_si (w_o z.1) 5 v)), z.2) H1 locs1 rfl hP1 hD1 hS1)
theorem rg_WW_X4_8_6 {z : wP2 × wP2} (hC : CallFix p m c cc nL s args BIG RX4) (hK : wKK G s) (hP : va_P G.1 vwCl (wsWell G h z.1 ++ wsWell G g z.2) H) (hdg : decode cc pc = .ok (.getfield 35, 3)) (kk : W p l e R s m args below meth c H locs cells slots Q (F0 m (pc + 3) ls (.int (w_i (w_o z.2) 6) :: rest))) : W p l e R s m args below meth c H locs cells slots Q (F0 m pc ls (.ref (g 0) :: rest)) :=
  va_get hC.1 hC.2.1 hC.2.2.2.2 inX4 hC.2.2.2.1 hK.1 hP 8 rfl rfl 6 (by decide) (hC.2.2.2.2 _ bw_72) (fun _ h9 => h9) rfl hdg kk
theorem rp_WW_X4_0_6 {z : wP2 × wP2} {v : Int32} (hC : CallFix p m c cc nL s args BIG RX4) (hK : wKK G s) (hP : va_P G.1 vwCl (wsWell G h z.1 ++ wsWell G g z.2) H) (hD : va_D A (wsWell G h z.1 ++ wsWell G g z.2)) (hS : va_S A s.heap H locs) (hdg : decode cc pc = .ok (.putfield 35, 3)) (kk : ∀ (z1 : wP2 × wP2) (H1 : Heap) (locs1 : List Loc), z1 = ((w_so z.1 (w_si (w_o z.1) 6 v)), z.2) → va_P G.1 vwCl (wsWell G h z1.1 ++ wsWell G g z1.2) H1 → va_D A (wsWell G h z1.1 ++ wsWell G g z1.2) → va_S A s.heap H1 locs1 → W p l e R s m args below meth c H1 locs1 cells slots Q (F0 m (pc + 3) ls rest)) : W p l e R s m args below meth c H locs cells slots Q (F0 m pc ls (.int v :: .ref (h 0) :: rest)) :=
  va_put hC.1 hC.2.1 hC.2.2.2.2 inX4 tyX4 tyX4_ok nmX4 hC.2.2.2.1 hK.1 hP hD hS 0 rfl rfl 6 (by decide) (hC.2.2.2.2 _ bw_72) (fun _ h9 => h9) rfl (ty := .int) (v := .int v) (by decide +kernel) rfl rfl (Nat.le_of_ble_eq_true rfl) hdg (fun H1 locs1 hP1 hD1 hS1 => kk ((w_so z.1 (w_si (w_o z.1) 6 v)), z.2) H1 locs1 rfl hP1 hD1 hS1)
theorem rg_WW_X4_8_7 {z : wP2 × wP2} (hC : CallFix p m c cc nL s args BIG RX4) (hK : wKK G s) (hP : va_P G.1 vwCl (wsWell G h z.1 ++ wsWell G g z.2) H) (hdg : decode cc pc = .ok (.getfield 38, 3)) (kk : W p l e R s m args below meth c H locs cells slots Q (F0 m (pc + 3) ls (.int (w_i (w_o z.2) 7) :: rest))) : W p l e R s m args below meth c H locs cells slots Q (F0 m pc ls (.ref (g 0) :: rest)) :=
  va_get hC.1 hC.2.1 hC.2.2.2.2 inX4 hC.2.2.2.1 hK.1 hP 8 rfl rfl 7 (by decide) (hC.2.2.2.2 _ bw_75) (fun _ h9 => h9) rfl hdg kk
theorem rp_WW_X4_0_7 {z : wP2 × wP2} {v : Int32} (hC : CallFix p m c cc nL s args BIG RX4) (hK : wKK G s) (hP : va_P G.1 vwCl (wsWell G h z.1 ++ wsWell G g z.2) H) (hD : va_D A (wsWell G h z.1 ++ wsWell G g z.2)) (hS : va_S A s.heap H locs) (hdg : decode cc pc = .ok (.putfield 38, 3)) (kk : ∀ (z1 : wP2 × wP2) (H1 : Heap) (locs1 : List Loc), z1 = ((w_so z.1 (w_si (w_o z.1) 7 v)), z.2) → va_P G.1 vwCl (wsWell G h z1.1 ++ wsWell G g z1.2) H1 → va_D A (wsWell G h z1.1 ++ wsWell G g z1.2) → va_S A s.heap H1 locs1 → W p l e R s m args below meth c H1 locs1 cells slots Q (F0 m (pc + 3) ls rest)) : W p l e R s m args below meth c H locs cells slots Q (F0 m pc ls (.int v :: .ref (h 0) :: rest)) :=
  va_put hC.1 hC.2.1 hC.2.2.2.2 inX4 tyX4 tyX4_ok nmX4 hC.2.2.2.1 hK.1 hP hD hS 0 rfl rfl 7 (by decide) (hC.2.2.2.2 _ bw_75) (fun _ h9 => h9) rfl (ty := .int) (v := .int v) (by decide +kernel) rfl rfl (Nat.le_of_ble_eq_true rfl) hdg (fun H1 locs1 hP1 hD1 hS1 => kk ((w_so z.1 (w_si (w_o z.1) 7 v)), z.2) H1 locs1 rfl hP1 hD1 hS1)
theorem rg_WW_X4_8_8 {z : wP2 × wP2} (hC : CallFix p m c cc nL s args BIG RX4) (hK : wKK G s) (hP : va_P G.1 vwCl (wsWell G h z.1 ++ wsWell G g z.2) H) (hdg : decode cc pc = .ok (.getfield 41, 3)) (kk : W p l e R s m args below meth c H locs cells slots Q (F0 m (pc + 3) ls (.int (w_i (w_o z.2) 8) :: rest))) : W p l e R s m args below meth c H locs cells slots Q (F0 m pc ls (.ref (g 0) :: rest)) :=
  va_get hC.1 hC.2.1 hC.2.2.2.2 inX4 hC.2.2.2.1 hK.1 hP 8 rfl rfl 8 (by decide) (hC.2.2.2.2 _ bw_77) (fun _ h9 => h9) rfl hdg kk
theorem rp_WW_X4_0_8 {z : wP2 × wP2} {v : Int32} (hC : CallFix p m c cc nL s args BIG RX4) (hK : wKK G s) (hP : va_P G.1 vwCl (wsWell G h z.1 ++ wsWell G g z.2) H) (hD : va_D A (wsWell G h z.1 ++ wsWell G g z.2)) (hS : va_S A s.heap H locs) (hdg : decode cc pc = .ok (.putfield 41, 3)) (kk : ∀ (z1 : wP2 × wP2) (H1 : Heap) (locs1 : List Loc), z1 = ((w_so z.1 (w_si (w_o z.1) 8 v)), z.2) → va_P G.1 vwCl (wsWell G h z1.1 ++ wsWell G g z1.2) H1 → va_D A (wsWell G h z1.1 ++ wsWell G g z1.2) → va_S A s.heap H1 locs1 → W p l e R s m args below meth c H1 locs1 cells slots Q (F0 m (pc + 3) ls rest)) : W p l e R s m args below meth c H locs cells slots Q (F0 m pc ls (.int v :: .ref (h 0) :: rest)) :=
  va_put hC.1 hC.2.1 hC.2.2.2.2 inX4 tyX4 tyX4_ok nmX4 hC.2.2.2.1 hK.1 hP hD hS 0 rfl rfl 8 (by decide) (hC.2.2.2.2 _ bw_77) (fun _ h9 => h9) rfl (ty := .int) (v := .int v) (by decide +kernel) rfl rfl (Nat.le_of_ble_eq_true rfl) hdg (fun H1 locs1 hP1 hD1 hS1 => kk ((w_so z.1 (w_si (w_o z.1) 8 v)), z.2) H1 locs1 rfl hP1 hD1 hS1)
theorem rg_WW_X4_8_9 {z : wP2 × wP2} (hC : CallFix p m c cc nL s args BIG RX4) (hK : wKK G s) (hP : va_P G.1 vwCl (wsWell G h z.1 ++ wsWell G g z.2) H) (hdg : decode cc pc = .ok (.getfield 44, 3)) (kk : W p l e R s m args below meth c H locs cells slots Q (F0 m (pc + 3) ls (.int (w_i (w_o z.2) 9) :: rest))) : W p l e R s m args below meth c H locs cells slots Q (F0 m pc ls (.ref (g 0) :: rest)) :=
  va_get hC.1 hC.2.1 hC.2.2.2.2 inX4 hC.2.2.2.1 hK.1 hP 8 rfl rfl 9 (by decide) (hC.2.2.2.2 _ bw_79) (fun _ h9 => h9) rfl hdg kk
theorem rp_WW_X4_0_9 {z : wP2 × wP2} {v : Int32} (hC : CallFix p m c cc nL s args BIG RX4) (hK : wKK G s) (hP : va_P G.1 vwCl (wsWell G h z.1 ++ wsWell G g z.2) H) (hD : va_D A (wsWell G h z.1 ++ wsWell G g z.2)) (hS : va_S A s.heap H locs) (hdg : decode cc pc = .ok (.putfield 44, 3)) (kk : ∀ (z1 : wP2 × wP2) (H1 : Heap) (locs1 : List Loc), z1 = ((w_so z.1 (w_si (w_o z.1) 9 v)), z.2) → va_P G.1 vwCl (wsWell G h z1.1 ++ wsWell G g z1.2) H1 → va_D A (wsWell G h z1.1 ++ wsWell G g z1.2) → va_S A s.heap H1 locs1 → W p l e R s m args below meth c H1 locs1 cells slots Q (F0 m (pc + 3) ls rest)) : W p l e R s m args below meth c H locs cells slots Q (F0 m pc ls (.int v :: .ref (h 0) :: rest)) :=
  va_put hC.1 hC.2.1 hC.2.2.2.2 inX4 tyX4 tyX4_ok nmX4 hC.2.2.2.1 hK.1 hP hD hS 0 rfl rfl 9 (by decide) (hC.2.2.2.2 _ bw_79) (fun _ h9 => h9) rfl (ty := .int) (v := .int v) (by decide +kernel) rfl rfl (Nat.le_of_ble_eq_true rfl) hdg (fun H1 locs1 hP1 hD1 hS1 => kk ((w_so z.1 (w_si (w_o z.1) 9 v)), z.2) H1 locs1 rfl hP1 hD1 hS1)
theorem rg_WW_X4_8_10 {z : wP2 × wP2} (hC : CallFix p m c cc nL s args BIG RX4) (hK : wKK G s) (hP : va_P G.1 vwCl (wsWell G h z.1 ++ wsWell G g z.2) H) (hdg : decode cc pc = .ok (.getfield 47, 3)) (kk : W p l e R s m args below meth c H locs cells slots Q (F0 m (pc + 3) ls (.int (w_i (w_o z.2) 10) :: rest))) : W p l e R s m args below meth c H locs cells slots Q (F0 m pc ls (.ref (g 0) :: rest)) :=
  va_get hC.1 hC.2.1 hC.2.2.2.2 inX4 hC.2.2.2.1 hK.1 hP 8 rfl rfl 10 (by decide) (hC.2.2.2.2 _ bw_81) (fun _ h9 => h9) rfl hdg kk
theorem rp_WW_X4_0_10 {z : wP2 × wP2} {v : Int32} (hC : CallFix p m c cc nL s args BIG RX4) (hK : wKK G s) (hP : va_P G.1 vwCl (wsWell G h z.1 ++ wsWell G g z.2) H) (hD : va_D A (wsWell G h z.1 ++ wsWell G g z.2)) (hS : va_S A s.heap H locs) (hdg : decode cc pc = .ok (.putfield 47, 3)) (kk : ∀ (z1 : wP2 × wP2) (H1 : Heap) (locs1 : List Loc), z1 = ((w_so z.1 (w_si (w_o z.1) 10 v)), z.2) → va_P G.1 vwCl (wsWell G h z1.1 ++ wsWell G g z1.2) H1 → va_D A (wsWell G h z1.1 ++ wsWell G g z1.2) → va_S A s.heap H1 locs1 → W p l e R s m args below meth c H1 locs1 cells slots Q (F0 m (pc + 3) ls rest)) : W p l e R s m args below meth c H locs cells slots Q (F0 m pc ls (.int v :: .ref (h 0) :: rest)) :=
  va_put hC.1 hC.2.1 hC.2.2.2.2 inX4 tyX4 tyX4_ok nmX4 hC.2.2.2.1 hK.1 hP hD hS 0 rfl rfl 10 (by decide) (hC.2.2.2.2 _ bw_81) (fun _ h9 => h9) rfl (ty := .int) (v := .int v) (by decide +kernel) rfl rfl (Nat.le_of_ble_eq_true rfl) hdg (fun H1 locs1 hP1 hD1 hS1 => kk ((w_so z.1 (w_si (w_o z.1) 10 v)), z.2) H1 locs1 rfl hP1 hD1 hS1)
theorem rg_WW_X4_8_11 {z : wP2 × wP2} (hC : CallFix p m c cc nL s args BIG RX4) (hK : wKK G s) (hP : va_P G.1 vwCl (wsWell G h z.1 ++ wsWell G g z.2) H) (hdg : decode cc pc = .ok (.getfield 50, 3)) (kk : W p l e R s m args below meth c H locs cells slots Q (F0 m (pc + 3) ls (.int (w_i (w_o z.2) 11) :: rest))) : W p l e R s m args below meth c H locs cells slots Q (F0 m pc ls (.ref (g 0) :: rest)) :=
  va_get hC.1 hC.2.1 hC.2.2.2.2 inX4 hC.2.2.2.1 hK.1 hP 8 rfl rfl 11 (by decide) (hC.2.2.2.2 _ bw_84) (fun _ h9 => h9) rfl hdg kk
theorem rp_WW_X4_0_11 {z : wP2 × wP2} {v : Int32} (hC : CallFix p m c cc nL s args BIG RX4) (hK : wKK G s) (hP : va_P G.1 vwCl (wsWell G h z.1 ++ wsWell G g z.2) H) (hD : va_D A (wsWell G h z.1 ++ wsWell G g z.2)) (hS : va_S A s.heap H locs) (hdg : decode cc pc = .ok (.putfield 50, 3)) (kk : ∀ (z1 : wP2 × wP2) (H1 : Heap) (locs1 : List Loc), z1 = ((w_so z.1 (w_si (w_o z.1) 11 v)), z.2) → va_P G.1 vwCl (wsWell G h z1.1 ++ wsWell G g z1.2) H1 → va_D A (wsWell G h z1.1 ++ wsWell G g z1.2) → va_S A s.heap H1 locs1 → W p l e R s m args below meth c H1 locs1 cells slots Q (F0 m (pc + 3) ls rest)) : W p l e R s m args below meth c H locs cells slots Q (F0 m pc ls (.int v :: .ref (h 0) :: rest)) :=
  va_put hC.1 hC.2.1 hC.2.2.2.2 inX4 tyX4 tyX4_ok nmX4 hC.2.2.2.1 hK.1 hP hD hS 0 rfl rfl 11 (by decide) (hC.2.2.2.2 _ bw_84) (fun _ h9 => h9) rfl (ty := .int) (v := .int v) (by decide +kernel) rfl rfl (Nat.le_of_ble_eq_true rfl) hdg (fun H1 locs1 hP1 hD1 hS1 => kk ((w_so z.1 (w_si (w_o z.1) 11 v)), z.2) H1 locs1 rfl hP1 hD1 hS1)
theorem rg_WF_X4_0_0 {z : wP2 × wSt} (hC : CallFix p m c cc nL s args BIG RX4) (hK : wKK G s) (hP : va_P G.1 vwCl (wsWell G h z.1 ++ wsFolk G g z.2) H) (hdg : decode cc pc = .ok (.getfield 12, 3)) (kk : W p l e R s m args below meth c H locs cells slots Q (F0 m (pc + 3) ls (.ref (h 3) :: rest))) : W p l e R s m args below meth c H locs cells slots Q (F0 m pc ls (.ref (h 0) :: rest)) :=
  va_get hC.1 hC.2.1 hC.2.2.2.2 inX4 hC.2.2.2.1 hK.1 hP 0 rfl rfl 0 (by decide) (hC.2.2.2.2 _ bw_58) (fun _ h9 => h9) rfl hdg kk
theorem rp_WF_X4_0_10 {z : wP2 × wSt} {v : Int32} (hC : CallFix p m c cc nL s args BIG RX4) (hK : wKK G s) (hP : va_P G.1 vwCl (wsWell G h z.1 ++ wsFolk G g z.2) H) (hD : va_D A (wsWell G h z.1 ++ wsFolk G g z.2)) (hS : va_S A s.heap H locs) (hdg : decode cc pc = .ok (.putfield 47, 3)) (kk : ∀ (z1 : wP2 × wSt) (H1 : Heap) (locs1 : List Loc), z1 = ((w_so z.1 (w_si (w_o z.1) 10 v)), z.2) → va_P G.1 vwCl (wsWell G h z1.1 ++ wsFolk G g z1.2) H1 → va_D A (wsWell G h z1.1 ++ wsFolk G g z1.2) → va_S A s.heap H1 locs1 → W p l e R s m args below meth c H1 locs1 cells slots Q (F0 m (pc + 3) ls rest)) : W p l e R s m args below meth c H locs cells slots Q (F0 m pc ls (.int v :: .ref (h 0) :: rest)) :=
  va_put hC.1 hC.2.1 hC.2.2.2.2 inX4 tyX4 tyX4_ok nmX4 hC.2.2.2.1 hK.1 hP hD hS 0 rfl rfl 10 (by decide) (hC.2.2.2.2 _ bw_81) (fun _ h9 => h9) rfl (ty := .int) (v := .int v) (by decide +kernel) rfl rfl (Nat.le_of_ble_eq_true rfl) hdg (fun H1 locs1 hP1 hD1 hS1 => kk ((w_so z.1 (w_si (w_o z.1) 10 v)), z.2) H1 locs1 rfl hP1 hD1 hS1)
theorem rp_WF_X4_0_3 {z : wP2 × wSt} {v : Int32} (hC : CallFix p m c cc nL s args BIG RX4) (hK : wKK G s) (hP : va_P G.1 vwCl (wsWell G h z.1 ++ wsFolk G g z.2) H) (hD : va_D A (wsWell G h z.1 ++ wsFolk G g z.2)) (hS : va_S A s.heap H locs) (hdg : decode cc pc = .ok (.putfield 25, 3)) (kk : ∀ (z1 : wP2 × wSt) (H1 : Heap) (locs1 : List Loc), z1 = ((w_so z.1 (w_si (w_o z.1) 3 v)), z.2) → va_P G.1 vwCl (wsWell G h z1.1 ++ wsFolk G g z1.2) H1 → va_D A (wsWell G h z1.1 ++ wsFolk G g z1.2) → va_S A s.heap H1 locs1 → W p l e R s m args below meth c H1 locs1 cells slots Q (F0 m (pc + 3) ls rest)) : W p l e R s m args below meth c H locs cells slots Q (F0 m pc ls (.int v :: .ref (h 0) :: rest)) :=
  va_put hC.1 hC.2.1 hC.2.2.2.2 inX4 tyX4 tyX4_ok nmX4 hC.2.2.2.1 hK.1 hP hD hS 0 rfl rfl 3 (by decide) (hC.2.2.2.2 _ bw_65) (fun _ h9 => h9) rfl (ty := .int) (v := .int v) (by decide +kernel) rfl rfl (Nat.le_of_ble_eq_true rfl) hdg (fun H1 locs1 hP1 hD1 hS1 => kk ((w_so z.1 (w_si (w_o z.1) 3 v)), z.2) H1 locs1 rfl hP1 hD1 hS1)
theorem rg_WF_X4_0_1 {z : wP2 × wSt} (hC : CallFix p m c cc nL s args BIG RX4) (hK : wKK G s) (hP : va_P G.1 vwCl (wsWell G h z.1 ++ wsFolk G g z.2) H) (hdg : decode cc pc = .ok (.getfield 18, 3)) (kk : W p l e R s m args below meth c H locs cells slots Q (F0 m (pc + 3) ls (.ref (h 1) :: rest))) : W p l e R s m args below meth c H locs cells slots Q (F0 m pc ls (.ref (h 0) :: rest)) :=
  va_get hC.1 hC.2.1 hC.2.2.2.2 inX4 hC.2.2.2.1 hK.1 hP 0 rfl rfl 1 (by decide) (hC.2.2.2.2 _ bw_61) (fun _ h9 => h9) rfl hdg kk
theorem rs_WF_1 {z : wP2 × wSt} {i : Int32} {v : Int32} (hC : CallFix p m c cc nL s args BIG own) (hK : wKK G s) (hP : va_P G.1 vwCl (wsWell G h z.1 ++ wsFolk G g z.2) H) (hD : va_D A (wsWell G h z.1 ++ wsFolk G g z.2)) (hS : va_S A s.heap H locs) (hin : vp_in i 6) (hdg : decode cc pc = .ok (.iastore, 1)) (kk : ∀ (z1 : wP2 × wSt) (H1 : Heap) (locs1 : List Loc), z1 = ((w_so z.1 (w_sa (w_o z.1) 1 (upd (w_a (w_o z.1) 1) i.toNatClampNeg v))), z.2) → va_P G.1 vwCl (wsWell G h z1.1 ++ wsFolk G g z1.2) H1 → va_D A (wsWell G h z1.1 ++ wsFolk G g z1.2) → va_S A s.heap H1 locs1 → W p l e R s m args below meth c H1 locs1 cells slots Q (F0 m (pc + 1) ls rest)) : W p l e R s m args below meth c H locs cells slots Q (F0 m pc ls (.int v :: .int i :: .ref (h 1) :: rest)) :=
  va_iast hC.1 hC.2.1 hK.1 hP hD hS 1 0 rfl rfl hin hdg (fun H1 locs1 hP1 hD1 hS1 => kk ((w_so z.1 (w_sa (w_o z.1) 1 (upd (w_a (w_o z.1) 1) i.toNatClampNeg v))), z.2) H1 locs1 rfl hP1 hD1 hS1)
theorem rp_WA_X4_0_3 {z : wP2 × (Nat → Int32)} {v : Int32} (hC : CallFix p m c cc nL s args BIG RX4) (hK : wKK G s) (hP : va_P G.1 vwCl (wsWell G h z.1 ++ wsArr G g 24 z.2) H) (hD : va_D A (wsWell G h z.1 ++ wsArr G g 24 z.2)) (hS : va_S A s.heap H locs) (hdg : decode cc pc = .ok (.putfield 25, 3)) (kk : ∀ (z1 : wP2 × (Nat → Int32)) (H1 : Heap) (locs1 : List Loc), z1 = ((w_so z.1 (w_si (w_o z.1) 3 v)), z.2) → va_P G.1 vwCl (wsWell G h z1.1 ++ wsArr G g 24 z1.2) H1 → va_D A (wsWell G h z1.1 ++ wsArr G g 24 z1.2) → va_S A s.heap H1 locs1 → W p l e R s m args below meth c H1 locs1 cells slots Q (F0 m (pc + 3) ls rest)) : W p l e R s m args below meth c H locs cells slots Q (F0 m pc ls (.int v :: .ref (h 0) :: rest)) :=
  va_put hC.1 hC.2.1 hC.2.2.2.2 inX4 tyX4 tyX4_ok nmX4 hC.2.2.2.1 hK.1 hP hD hS 0 rfl rfl 3 (by decide) (hC.2.2.2.2 _ bw_65) (fun _ h9 => h9) rfl (ty := .int) (v := .int v) (by decide +kernel) rfl rfl (Nat.le_of_ble_eq_true rfl) hdg (fun H1 locs1 hP1 hD1 hS1 => kk ((w_so z.1 (w_si (w_o z.1) 3 v)), z.2) H1 locs1 rfl hP1 hD1 hS1)
theorem rg_WA_X4_0_2 {z : wP2 × (Nat → Int32)} (hC : CallFix p m c cc nL s args BIG RX4) (hK : wKK G s) (hP : va_P G.1 vwCl (wsWell G h z.1 ++ wsArr G g 24 z.2) H) (hdg : decode cc pc = .ok (.getfield 22, 3)) (kk : W p l e R s m args below meth c H locs cells slots Q (F0 m (pc + 3) ls (.ref (h 2) :: rest))) : W p l e R s m args below meth c H locs cells slots Q (F0 m pc ls (.ref (h 0) :: rest)) :=
  va_get hC.1 hC.2.1 hC.2.2.2.2 inX4 hC.2.2.2.1 hK.1 hP 0 rfl rfl 2 (by decide) (hC.2.2.2.2 _ bw_64) (fun _ h9 => h9) rfl hdg kk
theorem rg_WA_X4_0_3 {z : wP2 × (Nat → Int32)} (hC : CallFix p m c cc nL s args BIG RX4) (hK : wKK G s) (hP : va_P G.1 vwCl (wsWell G h z.1 ++ wsArr G g 24 z.2) H) (hdg : decode cc pc = .ok (.getfield 25, 3)) (kk : W p l e R s m args below meth c H locs cells slots Q (F0 m (pc + 3) ls (.int (w_i (w_o z.1) 3) :: rest))) : W p l e R s m args below meth c H locs cells slots Q (F0 m pc ls (.ref (h 0) :: rest)) :=
  va_get hC.1 hC.2.1 hC.2.2.2.2 inX4 hC.2.2.2.1 hK.1 hP 0 rfl rfl 3 (by decide) (hC.2.2.2.2 _ bw_65) (fun _ h9 => h9) rfl hdg kk
theorem rc_WA_8_2 {z : wP2 × (Nat → Int32)} {sp dp n : Int32} (hC : CallFix p m c cc nL s args BIG RX4) (hK : wKK G s) (hP : va_P G.1 vwCl (wsWell G h z.1 ++ wsArr G g 24 z.2) H) (hD : va_D A (wsWell G h z.1 ++ wsArr G g 24 z.2)) (hS : va_S A s.heap H locs) {lv : List (Nat × Value)} (hl : lv_has ls nL lv) (hF : 1 ≤ R.frames) (hL : 40 ≤ R.locals) (h1 : ¬ sp < 0) (h2 : ¬ dp < 0) (h3 : ¬ n < 0) (h4 : sp.toNatClampNeg + n.toNatClampNeg ≤ 24) (h5 : dp.toNatClampNeg + n.toNatClampNeg ≤ 24) (hdg : decode cc pc = .ok (.invokestatic 57, 3)) (kk : ∀ (z1 : wP2 × (Nat → Int32)) (H1 : Heap) (locs1 : List Loc), z1 = ((w_so z.1 (w_sa (w_o z.1) 2 (va_cpy z.2 (w_a (w_o z.1) 2) sp.toNatClampNeg dp.toNatClampNeg n.toNatClampNeg))), z.2) → va_P G.1 vwCl (wsWell G h z1.1 ++ wsArr G g 24 z1.2) H1 → va_D A (wsWell G h z1.1 ++ wsArr G g 24 z1.2) → va_S A s.heap H1 locs1 → W p l e R s m args below meth c H1 locs1 cells slots Q (F0 m (pc + 3) ls [])) : W p l e R s m args below meth c H locs cells slots Q (F0 m pc ls [.int n, .int dp, .ref (h 2), .int sp, .ref (g 0)]) :=
  va_copyi hC.1 hC.2.1 (hC.2.2.1.trans hl.1.symm) hC.2.2.2.1 (hC.2.2.2.2 _ bw_330) (hC.2.2.2.2 _ bw_332) (hC.2.2.2.2 _ bw_331) (hC.2.2.2.2 _ bw_9) hK.1 hP hD hS 8 2 0 0 rfl rfl rfl rfl rfl h1 h2 h3 h4 h5 (fun _ _ => rfl) hF (Nat.le_trans (Nat.le_of_ble_eq_true rfl) hL) hdg (fun H1 locs1 hP1 hD1 hS1 => kk ((w_so z.1 (w_sa (w_o z.1) 2 (va_cpy z.2 (w_a (w_o z.1) 2) sp.toNatClampNeg dp.toNatClampNeg n.toNatClampNeg))), z.2) H1 locs1 rfl hP1 hD1 hS1)
theorem rg_W_X4_0_0 {z : wP2} (hC : CallFix p m c cc nL s args BIG RX4) (hK : wKK G s) (hP : va_P G.1 vwCl (wsWell G h z) H) (hdg : decode cc pc = .ok (.getfield 12, 3)) (kk : W p l e R s m args below meth c H locs cells slots Q (F0 m (pc + 3) ls (.ref (h 3) :: rest))) : W p l e R s m args below meth c H locs cells slots Q (F0 m pc ls (.ref (h 0) :: rest)) :=
  va_get hC.1 hC.2.1 hC.2.2.2.2 inX4 hC.2.2.2.1 hK.1 hP 0 rfl rfl 0 (by decide) (hC.2.2.2.2 _ bw_58) (fun _ h9 => h9) rfl hdg kk
theorem rg_W_X4_0_1 {z : wP2} (hC : CallFix p m c cc nL s args BIG RX4) (hK : wKK G s) (hP : va_P G.1 vwCl (wsWell G h z) H) (hdg : decode cc pc = .ok (.getfield 18, 3)) (kk : W p l e R s m args below meth c H locs cells slots Q (F0 m (pc + 3) ls (.ref (h 1) :: rest))) : W p l e R s m args below meth c H locs cells slots Q (F0 m pc ls (.ref (h 0) :: rest)) :=
  va_get hC.1 hC.2.1 hC.2.2.2.2 inX4 hC.2.2.2.1 hK.1 hP 0 rfl rfl 1 (by decide) (hC.2.2.2.2 _ bw_61) (fun _ h9 => h9) rfl hdg kk
theorem rl_W_1 {z : wP2} {i : Int32} (hC : CallFix p m c cc nL s args BIG own) (hK : wKK G s) (hP : va_P G.1 vwCl (wsWell G h z) H) (hin : vp_in i 6) (hdg : decode cc pc = .ok (.iaload, 1)) (kk : W p l e R s m args below meth c H locs cells slots Q (F0 m (pc + 1) ls (.int ((w_a (w_o z) 1) i.toNatClampNeg) :: rest))) : W p l e R s m args below meth c H locs cells slots Q (F0 m pc ls (.int i :: .ref (h 1) :: rest)) :=
  va_iald hC.1 hC.2.1 hK.1 hP 1 0 rfl rfl hin hdg kk
theorem rg_W_X4_0_9 {z : wP2} (hC : CallFix p m c cc nL s args BIG RX4) (hK : wKK G s) (hP : va_P G.1 vwCl (wsWell G h z) H) (hdg : decode cc pc = .ok (.getfield 44, 3)) (kk : W p l e R s m args below meth c H locs cells slots Q (F0 m (pc + 3) ls (.int (w_i (w_o z) 9) :: rest))) : W p l e R s m args below meth c H locs cells slots Q (F0 m pc ls (.ref (h 0) :: rest)) :=
  va_get hC.1 hC.2.1 hC.2.2.2.2 inX4 hC.2.2.2.1 hK.1 hP 0 rfl rfl 9 (by decide) (hC.2.2.2.2 _ bw_79) (fun _ h9 => h9) rfl hdg kk
theorem rg_W_X4_0_5 {z : wP2} (hC : CallFix p m c cc nL s args BIG RX4) (hK : wKK G s) (hP : va_P G.1 vwCl (wsWell G h z) H) (hdg : decode cc pc = .ok (.getfield 32, 3)) (kk : W p l e R s m args below meth c H locs cells slots Q (F0 m (pc + 3) ls (.int (w_i (w_o z) 5) :: rest))) : W p l e R s m args below meth c H locs cells slots Q (F0 m pc ls (.ref (h 0) :: rest)) :=
  va_get hC.1 hC.2.1 hC.2.2.2.2 inX4 hC.2.2.2.1 hK.1 hP 0 rfl rfl 5 (by decide) (hC.2.2.2.2 _ bw_69) (fun _ h9 => h9) rfl hdg kk
theorem calX0_isSweet : xCalV yX0_isSweet cX0_isSweet 3 (some .boolean) 2 := ⟨bw_374, bs_20, bw_3, bw_375, by decide +kernel, by decide +kernel, by decide +kernel⟩
theorem rg_W_X4_0_10 {z : wP2} (hC : CallFix p m c cc nL s args BIG RX4) (hK : wKK G s) (hP : va_P G.1 vwCl (wsWell G h z) H) (hdg : decode cc pc = .ok (.getfield 47, 3)) (kk : W p l e R s m args below meth c H locs cells slots Q (F0 m (pc + 3) ls (.int (w_i (w_o z) 10) :: rest))) : W p l e R s m args below meth c H locs cells slots Q (F0 m pc ls (.ref (h 0) :: rest)) :=
  va_get hC.1 hC.2.1 hC.2.2.2.2 inX4 hC.2.2.2.1 hK.1 hP 0 rfl rfl 10 (by decide) (hC.2.2.2.2 _ bw_81) (fun _ h9 => h9) rfl hdg kk
theorem rg_W_X4_0_4 {z : wP2} (hC : CallFix p m c cc nL s args BIG RX4) (hK : wKK G s) (hP : va_P G.1 vwCl (wsWell G h z) H) (hdg : decode cc pc = .ok (.getfield 29, 3)) (kk : W p l e R s m args below meth c H locs cells slots Q (F0 m (pc + 3) ls (.int (w_i (w_o z) 4) :: rest))) : W p l e R s m args below meth c H locs cells slots Q (F0 m pc ls (.ref (h 0) :: rest)) :=
  va_get hC.1 hC.2.1 hC.2.2.2.2 inX4 hC.2.2.2.1 hK.1 hP 0 rfl rfl 4 (by decide) (hC.2.2.2.2 _ bw_67) (fun _ h9 => h9) rfl hdg kk
theorem calX0_pailsBehind : xCalV yX0_pailsBehind cX0_pailsBehind 5 (some .int) 4 := ⟨bw_361, bs_18, bw_3, bw_362, by decide +kernel, by decide +kernel, by decide +kernel⟩
theorem rg_W_X4_0_8 {z : wP2} (hC : CallFix p m c cc nL s args BIG RX4) (hK : wKK G s) (hP : va_P G.1 vwCl (wsWell G h z) H) (hdg : decode cc pc = .ok (.getfield 41, 3)) (kk : W p l e R s m args below meth c H locs cells slots Q (F0 m (pc + 3) ls (.int (w_i (w_o z) 8) :: rest))) : W p l e R s m args below meth c H locs cells slots Q (F0 m pc ls (.ref (h 0) :: rest)) :=
  va_get hC.1 hC.2.1 hC.2.2.2.2 inX4 hC.2.2.2.1 hK.1 hP 0 rfl rfl 8 (by decide) (hC.2.2.2.2 _ bw_77) (fun _ h9 => h9) rfl hdg kk
theorem rp_W_X4_0_8 {z : wP2} {v : Int32} (hC : CallFix p m c cc nL s args BIG RX4) (hK : wKK G s) (hP : va_P G.1 vwCl (wsWell G h z) H) (hD : va_D A (wsWell G h z)) (hS : va_S A s.heap H locs) (hdg : decode cc pc = .ok (.putfield 41, 3)) (kk : ∀ (z1 : wP2) (H1 : Heap) (locs1 : List Loc), z1 = (w_so z (w_si (w_o z) 8 v)) → va_P G.1 vwCl (wsWell G h z1) H1 → va_D A (wsWell G h z1) → va_S A s.heap H1 locs1 → W p l e R s m args below meth c H1 locs1 cells slots Q (F0 m (pc + 3) ls rest)) : W p l e R s m args below meth c H locs cells slots Q (F0 m pc ls (.int v :: .ref (h 0) :: rest)) :=
  va_put hC.1 hC.2.1 hC.2.2.2.2 inX4 tyX4 tyX4_ok nmX4 hC.2.2.2.1 hK.1 hP hD hS 0 rfl rfl 8 (by decide) (hC.2.2.2.2 _ bw_77) (fun _ h9 => h9) rfl (ty := .int) (v := .int v) (by decide +kernel) rfl rfl (Nat.le_of_ble_eq_true rfl) hdg (fun H1 locs1 hP1 hD1 hS1 => kk (w_so z (w_si (w_o z) 8 v)) H1 locs1 rfl hP1 hD1 hS1)
theorem rg_W_X4_0_7 {z : wP2} (hC : CallFix p m c cc nL s args BIG RX4) (hK : wKK G s) (hP : va_P G.1 vwCl (wsWell G h z) H) (hdg : decode cc pc = .ok (.getfield 38, 3)) (kk : W p l e R s m args below meth c H locs cells slots Q (F0 m (pc + 3) ls (.int (w_i (w_o z) 7) :: rest))) : W p l e R s m args below meth c H locs cells slots Q (F0 m pc ls (.ref (h 0) :: rest)) :=
  va_get hC.1 hC.2.1 hC.2.2.2.2 inX4 hC.2.2.2.1 hK.1 hP 0 rfl rfl 7 (by decide) (hC.2.2.2.2 _ bw_75) (fun _ h9 => h9) rfl hdg kk
theorem rp_W_X4_0_7 {z : wP2} {v : Int32} (hC : CallFix p m c cc nL s args BIG RX4) (hK : wKK G s) (hP : va_P G.1 vwCl (wsWell G h z) H) (hD : va_D A (wsWell G h z)) (hS : va_S A s.heap H locs) (hdg : decode cc pc = .ok (.putfield 38, 3)) (kk : ∀ (z1 : wP2) (H1 : Heap) (locs1 : List Loc), z1 = (w_so z (w_si (w_o z) 7 v)) → va_P G.1 vwCl (wsWell G h z1) H1 → va_D A (wsWell G h z1) → va_S A s.heap H1 locs1 → W p l e R s m args below meth c H1 locs1 cells slots Q (F0 m (pc + 3) ls rest)) : W p l e R s m args below meth c H locs cells slots Q (F0 m pc ls (.int v :: .ref (h 0) :: rest)) :=
  va_put hC.1 hC.2.1 hC.2.2.2.2 inX4 tyX4 tyX4_ok nmX4 hC.2.2.2.1 hK.1 hP hD hS 0 rfl rfl 7 (by decide) (hC.2.2.2.2 _ bw_75) (fun _ h9 => h9) rfl (ty := .int) (v := .int v) (by decide +kernel) rfl rfl (Nat.le_of_ble_eq_true rfl) hdg (fun H1 locs1 hP1 hD1 hS1 => kk (w_so z (w_si (w_o z) 7 v)) H1 locs1 rfl hP1 hD1 hS1)
theorem rp_W_X4_0_5 {z : wP2} {v : Int32} (hC : CallFix p m c cc nL s args BIG RX4) (hK : wKK G s) (hP : va_P G.1 vwCl (wsWell G h z) H) (hD : va_D A (wsWell G h z)) (hS : va_S A s.heap H locs) (hdg : decode cc pc = .ok (.putfield 32, 3)) (kk : ∀ (z1 : wP2) (H1 : Heap) (locs1 : List Loc), z1 = (w_so z (w_si (w_o z) 5 v)) → va_P G.1 vwCl (wsWell G h z1) H1 → va_D A (wsWell G h z1) → va_S A s.heap H1 locs1 → W p l e R s m args below meth c H1 locs1 cells slots Q (F0 m (pc + 3) ls rest)) : W p l e R s m args below meth c H locs cells slots Q (F0 m pc ls (.int v :: .ref (h 0) :: rest)) :=
  va_put hC.1 hC.2.1 hC.2.2.2.2 inX4 tyX4 tyX4_ok nmX4 hC.2.2.2.1 hK.1 hP hD hS 0 rfl rfl 5 (by decide) (hC.2.2.2.2 _ bw_69) (fun _ h9 => h9) rfl (ty := .int) (v := .int v) (by decide +kernel) rfl rfl (Nat.le_of_ble_eq_true rfl) hdg (fun H1 locs1 hP1 hD1 hS1 => kk (w_so z (w_si (w_o z) 5 v)) H1 locs1 rfl hP1 hD1 hS1)
theorem calX0_moodBehind : xCalV yX0_moodBehind cX0_moodBehind 3 (some .int) 2 := ⟨bw_378, bs_21, bw_3, bw_379, by decide +kernel, by decide +kernel, by decide +kernel⟩
theorem rp_W_X4_0_4 {z : wP2} {v : Int32} (hC : CallFix p m c cc nL s args BIG RX4) (hK : wKK G s) (hP : va_P G.1 vwCl (wsWell G h z) H) (hD : va_D A (wsWell G h z)) (hS : va_S A s.heap H locs) (hdg : decode cc pc = .ok (.putfield 29, 3)) (kk : ∀ (z1 : wP2) (H1 : Heap) (locs1 : List Loc), z1 = (w_so z (w_si (w_o z) 4 v)) → va_P G.1 vwCl (wsWell G h z1) H1 → va_D A (wsWell G h z1) → va_S A s.heap H1 locs1 → W p l e R s m args below meth c H1 locs1 cells slots Q (F0 m (pc + 3) ls rest)) : W p l e R s m args below meth c H locs cells slots Q (F0 m pc ls (.int v :: .ref (h 0) :: rest)) :=
  va_put hC.1 hC.2.1 hC.2.2.2.2 inX4 tyX4 tyX4_ok nmX4 hC.2.2.2.1 hK.1 hP hD hS 0 rfl rfl 4 (by decide) (hC.2.2.2.2 _ bw_67) (fun _ h9 => h9) rfl (ty := .int) (v := .int v) (by decide +kernel) rfl rfl (Nat.le_of_ble_eq_true rfl) hdg (fun H1 locs1 hP1 hD1 hS1 => kk (w_so z (w_si (w_o z) 4 v)) H1 locs1 rfl hP1 hD1 hS1)
theorem rg_W_X4_3_2 {z : wP2} (hC : CallFix p m c cc nL s args BIG RX4) (hK : wKK G s) (hP : va_P G.1 vwCl (wsWell G h z) H) (hdg : decode cc pc = .ok (.getfield 97, 3)) (kk : W p l e R s m args below meth c H locs cells slots Q (F0 m (pc + 3) ls (.ref (h 6) :: rest))) : W p l e R s m args below meth c H locs cells slots Q (F0 m pc ls (.ref (h 3) :: rest)) :=
  va_getN hC.1 hC.2.1 hC.2.2.2.2 inX0 hC.2.2.2.1 hK.1 hP 3 rfl rfl 2 (by decide) (hK.2.at bw_38) (fun _ h9 => h9) rfl hdg kk
theorem rl_W_6 {z : wP2} {i : Int32} (hC : CallFix p m c cc nL s args BIG own) (hK : wKK G s) (hP : va_P G.1 vwCl (wsWell G h z) H) (hin : vp_in i 6) (hdg : decode cc pc = .ok (.iaload, 1)) (kk : W p l e R s m args below meth c H locs cells slots Q (F0 m (pc + 1) ls (.int ((w_a (w_f z) 2) i.toNatClampNeg) :: rest))) : W p l e R s m args below meth c H locs cells slots Q (F0 m pc ls (.int i :: .ref (h 6) :: rest)) :=
  va_iald hC.1 hC.2.1 hK.1 hP 6 0 rfl rfl hin hdg kk
theorem rs_W_1 {z : wP2} {i : Int32} {v : Int32} (hC : CallFix p m c cc nL s args BIG own) (hK : wKK G s) (hP : va_P G.1 vwCl (wsWell G h z) H) (hD : va_D A (wsWell G h z)) (hS : va_S A s.heap H locs) (hin : vp_in i 6) (hdg : decode cc pc = .ok (.iastore, 1)) (kk : ∀ (z1 : wP2) (H1 : Heap) (locs1 : List Loc), z1 = (w_so z (w_sa (w_o z) 1 (upd (w_a (w_o z) 1) i.toNatClampNeg v))) → va_P G.1 vwCl (wsWell G h z1) H1 → va_D A (wsWell G h z1) → va_S A s.heap H1 locs1 → W p l e R s m args below meth c H1 locs1 cells slots Q (F0 m (pc + 1) ls rest)) : W p l e R s m args below meth c H locs cells slots Q (F0 m pc ls (.int v :: .int i :: .ref (h 1) :: rest)) :=
  va_iast hC.1 hC.2.1 hK.1 hP hD hS 1 0 rfl rfl hin hdg (fun H1 locs1 hP1 hD1 hS1 => kk (w_so z (w_sa (w_o z) 1 (upd (w_a (w_o z) 1) i.toNatClampNeg v))) H1 locs1 rfl hP1 hD1 hS1)
theorem calX5_waned : xCalS yX5_waned cX5_waned 1 (some .int) 1 := ⟨bw_390, bw_1, bw_391, by decide +kernel, by decide +kernel, by decide +kernel⟩
theorem rg_W_X4_0_6 {z : wP2} (hC : CallFix p m c cc nL s args BIG RX4) (hK : wKK G s) (hP : va_P G.1 vwCl (wsWell G h z) H) (hdg : decode cc pc = .ok (.getfield 35, 3)) (kk : W p l e R s m args below meth c H locs cells slots Q (F0 m (pc + 3) ls (.int (w_i (w_o z) 6) :: rest))) : W p l e R s m args below meth c H locs cells slots Q (F0 m pc ls (.ref (h 0) :: rest)) :=
  va_get hC.1 hC.2.1 hC.2.2.2.2 inX4 hC.2.2.2.1 hK.1 hP 0 rfl rfl 6 (by decide) (hC.2.2.2.2 _ bw_72) (fun _ h9 => h9) rfl hdg kk
theorem calX5_rained : xCalS yX5_rained cX5_rained 2 (some .int) 2 := ⟨bw_396, bw_1, bw_397, by decide +kernel, by decide +kernel, by decide +kernel⟩
theorem rp_W_X4_0_9 {z : wP2} {v : Int32} (hC : CallFix p m c cc nL s args BIG RX4) (hK : wKK G s) (hP : va_P G.1 vwCl (wsWell G h z) H) (hD : va_D A (wsWell G h z)) (hS : va_S A s.heap H locs) (hdg : decode cc pc = .ok (.putfield 44, 3)) (kk : ∀ (z1 : wP2) (H1 : Heap) (locs1 : List Loc), z1 = (w_so z (w_si (w_o z) 9 v)) → va_P G.1 vwCl (wsWell G h z1) H1 → va_D A (wsWell G h z1) → va_S A s.heap H1 locs1 → W p l e R s m args below meth c H1 locs1 cells slots Q (F0 m (pc + 3) ls rest)) : W p l e R s m args below meth c H locs cells slots Q (F0 m pc ls (.int v :: .ref (h 0) :: rest)) :=
  va_put hC.1 hC.2.1 hC.2.2.2.2 inX4 tyX4 tyX4_ok nmX4 hC.2.2.2.1 hK.1 hP hD hS 0 rfl rfl 9 (by decide) (hC.2.2.2.2 _ bw_79) (fun _ h9 => h9) rfl (ty := .int) (v := .int v) (by decide +kernel) rfl rfl (Nat.le_of_ble_eq_true rfl) hdg (fun H1 locs1 hP1 hD1 hS1 => kk (w_so z (w_si (w_o z) 9 v)) H1 locs1 rfl hP1 hD1 hS1)
theorem rg_W_X4_3_4 {z : wP2} (hC : CallFix p m c cc nL s args BIG RX4) (hK : wKK G s) (hP : va_P G.1 vwCl (wsWell G h z) H) (hdg : decode cc pc = .ok (.getfield 106, 3)) (kk : W p l e R s m args below meth c H locs cells slots Q (F0 m (pc + 3) ls (.int (w_i (w_f z) 4) :: rest))) : W p l e R s m args below meth c H locs cells slots Q (F0 m pc ls (.ref (h 3) :: rest)) :=
  va_getN hC.1 hC.2.1 hC.2.2.2.2 inX0 hC.2.2.2.1 hK.1 hP 3 rfl rfl 4 (by decide) (hK.2.at bw_45) (fun _ h9 => h9) rfl hdg kk
theorem calX4_mayDraw : xCalV yX4_mayDraw cX4_mayDraw 2 (some .boolean) 1 := ⟨bw_339, bs_14, bw_2, bw_340, by decide +kernel, by decide +kernel, by decide +kernel⟩
theorem rp_W_X4_0_10 {z : wP2} {v : Int32} (hC : CallFix p m c cc nL s args BIG RX4) (hK : wKK G s) (hP : va_P G.1 vwCl (wsWell G h z) H) (hD : va_D A (wsWell G h z)) (hS : va_S A s.heap H locs) (hdg : decode cc pc = .ok (.putfield 47, 3)) (kk : ∀ (z1 : wP2) (H1 : Heap) (locs1 : List Loc), z1 = (w_so z (w_si (w_o z) 10 v)) → va_P G.1 vwCl (wsWell G h z1) H1 → va_D A (wsWell G h z1) → va_S A s.heap H1 locs1 → W p l e R s m args below meth c H1 locs1 cells slots Q (F0 m (pc + 3) ls rest)) : W p l e R s m args below meth c H locs cells slots Q (F0 m pc ls (.int v :: .ref (h 0) :: rest)) :=
  va_put hC.1 hC.2.1 hC.2.2.2.2 inX4 tyX4 tyX4_ok nmX4 hC.2.2.2.1 hK.1 hP hD hS 0 rfl rfl 10 (by decide) (hC.2.2.2.2 _ bw_81) (fun _ h9 => h9) rfl (ty := .int) (v := .int v) (by decide +kernel) rfl rfl (Nat.le_of_ble_eq_true rfl) hdg (fun H1 locs1 hP1 hD1 hS1 => kk (w_so z (w_si (w_o z) 10 v)) H1 locs1 rfl hP1 hD1 hS1)
theorem calX4_drawBy : xCalV yX4_drawBy cX4_drawBy 3 (some .int) 1 := ⟨bw_357, bs_17, bw_2, bw_358, by decide +kernel, by decide +kernel, by decide +kernel⟩
theorem calX4_endHour : xCalV yX4_endHour cX4_endHour 2 none 0 := ⟨bw_387, bs_22, bw_2, bw_388, by decide +kernel, by decide +kernel, by decide +kernel⟩
theorem rg_W_X4_0_3 {z : wP2} (hC : CallFix p m c cc nL s args BIG RX4) (hK : wKK G s) (hP : va_P G.1 vwCl (wsWell G h z) H) (hdg : decode cc pc = .ok (.getfield 25, 3)) (kk : W p l e R s m args below meth c H locs cells slots Q (F0 m (pc + 3) ls (.int (w_i (w_o z) 3) :: rest))) : W p l e R s m args below meth c H locs cells slots Q (F0 m pc ls (.ref (h 0) :: rest)) :=
  va_get hC.1 hC.2.1 hC.2.2.2.2 inX4 hC.2.2.2.1 hK.1 hP 0 rfl rfl 3 (by decide) (hC.2.2.2.2 _ bw_65) (fun _ h9 => h9) rfl hdg kk
theorem rg_W_X4_0_2 {z : wP2} (hC : CallFix p m c cc nL s args BIG RX4) (hK : wKK G s) (hP : va_P G.1 vwCl (wsWell G h z) H) (hdg : decode cc pc = .ok (.getfield 22, 3)) (kk : W p l e R s m args below meth c H locs cells slots Q (F0 m (pc + 3) ls (.ref (h 2) :: rest))) : W p l e R s m args below meth c H locs cells slots Q (F0 m pc ls (.ref (h 0) :: rest)) :=
  va_get hC.1 hC.2.1 hC.2.2.2.2 inX4 hC.2.2.2.1 hK.1 hP 0 rfl rfl 2 (by decide) (hC.2.2.2.2 _ bw_64) (fun _ h9 => h9) rfl hdg kk
theorem rl_W_2 {z : wP2} {i : Int32} (hC : CallFix p m c cc nL s args BIG own) (hK : wKK G s) (hP : va_P G.1 vwCl (wsWell G h z) H) (hin : vp_in i 24) (hdg : decode cc pc = .ok (.iaload, 1)) (kk : W p l e R s m args below meth c H locs cells slots Q (F0 m (pc + 1) ls (.int ((w_a (w_o z) 2) i.toNatClampNeg) :: rest))) : W p l e R s m args below meth c H locs cells slots Q (F0 m pc ls (.int i :: .ref (h 2) :: rest)) :=
  va_iald hC.1 hC.2.1 hK.1 hP 2 0 rfl rfl hin hdg kk
theorem calX4_passHour : xCalV yX4_passHour cX4_passHour 3 (some .int) 1 := ⟨bw_352, bs_16, bw_2, bw_353, by decide +kernel, by decide +kernel, by decide +kernel⟩
theorem rg_W_X4_0_11 {z : wP2} (hC : CallFix p m c cc nL s args BIG RX4) (hK : wKK G s) (hP : va_P G.1 vwCl (wsWell G h z) H) (hdg : decode cc pc = .ok (.getfield 50, 3)) (kk : W p l e R s m args below meth c H locs cells slots Q (F0 m (pc + 3) ls (.int (w_i (w_o z) 11) :: rest))) : W p l e R s m args below meth c H locs cells slots Q (F0 m pc ls (.ref (h 0) :: rest)) :=
  va_get hC.1 hC.2.1 hC.2.2.2.2 inX4 hC.2.2.2.1 hK.1 hP 0 rfl rfl 11 (by decide) (hC.2.2.2.2 _ bw_84) (fun _ h9 => h9) rfl hdg kk
theorem rp_W_X4_0_11 {z : wP2} {v : Int32} (hC : CallFix p m c cc nL s args BIG RX4) (hK : wKK G s) (hP : va_P G.1 vwCl (wsWell G h z) H) (hD : va_D A (wsWell G h z)) (hS : va_S A s.heap H locs) (hdg : decode cc pc = .ok (.putfield 50, 3)) (kk : ∀ (z1 : wP2) (H1 : Heap) (locs1 : List Loc), z1 = (w_so z (w_si (w_o z) 11 v)) → va_P G.1 vwCl (wsWell G h z1) H1 → va_D A (wsWell G h z1) → va_S A s.heap H1 locs1 → W p l e R s m args below meth c H1 locs1 cells slots Q (F0 m (pc + 3) ls rest)) : W p l e R s m args below meth c H locs cells slots Q (F0 m pc ls (.int v :: .ref (h 0) :: rest)) :=
  va_put hC.1 hC.2.1 hC.2.2.2.2 inX4 tyX4 tyX4_ok nmX4 hC.2.2.2.1 hK.1 hP hD hS 0 rfl rfl 11 (by decide) (hC.2.2.2.2 _ bw_84) (fun _ h9 => h9) rfl (ty := .int) (v := .int v) (by decide +kernel) rfl rfl (Nat.le_of_ble_eq_true rfl) hdg (fun H1 locs1 hP1 hD1 hS1 => kk (w_so z (w_si (w_o z) 11 v)) H1 locs1 rfl hP1 hD1 hS1)
theorem rg_X_X5_0_0 {z : wXS} (hC : CallFix p m c cc nL s args BIG RX5) (hK : wKK G s) (hP : va_P G.1 vwCl (wsX G h z) H) (hdg : decode cc pc = .ok (.getfield 12, 3)) (kk : W p l e R s m args below meth c H locs cells slots Q (F0 m (pc + 3) ls (.ref (h 1) :: rest))) : W p l e R s m args below meth c H locs cells slots Q (F0 m pc ls (.ref (h 0) :: rest)) :=
  va_get hC.1 hC.2.1 hC.2.2.2.2 inX5 hC.2.2.2.1 hK.1 hP 0 rfl rfl 0 (by decide) (hC.2.2.2.2 _ bw_194) (fun _ h9 => h9) rfl hdg kk
theorem rg_X_X5_1_0 {z : wXS} (hC : CallFix p m c cc nL s args BIG RX5) (hK : wKK G s) (hP : va_P G.1 vwCl (wsX G h z) H) (hdg : decode cc pc = .ok (.getfield 59, 3)) (kk : W p l e R s m args below meth c H locs cells slots Q (F0 m (pc + 3) ls (.ref (h 4) :: rest))) : W p l e R s m args below meth c H locs cells slots Q (F0 m pc ls (.ref (h 1) :: rest)) :=
  va_getN hC.1 hC.2.1 hC.2.2.2.2 inX4 hC.2.2.2.1 hK.1 hP 1 rfl rfl 0 (by decide) (hK.2.at bw_60) (fun _ h9 => h9) rfl hdg kk
theorem rg_X_X5_4_4 {z : wXS} (hC : CallFix p m c cc nL s args BIG RX5) (hK : wKK G s) (hP : va_P G.1 vwCl (wsX G h z) H) (hdg : decode cc pc = .ok (.getfield 62, 3)) (kk : W p l e R s m args below meth c H locs cells slots Q (F0 m (pc + 3) ls (.int (w_i (w_f (x_w z)) 4) :: rest))) : W p l e R s m args below meth c H locs cells slots Q (F0 m pc ls (.ref (h 4) :: rest)) :=
  va_getN hC.1 hC.2.1 hC.2.2.2.2 inX0 hC.2.2.2.1 hK.1 hP 4 rfl rfl 4 (by decide) (hK.2.at bw_42) (fun _ h9 => h9) rfl hdg kk
theorem rg_X_X5_4_0 {z : wXS} (hC : CallFix p m c cc nL s args BIG RX5) (hK : wKK G s) (hP : va_P G.1 vwCl (wsX G h z) H) (hdg : decode cc pc = .ok (.getfield 75, 3)) (kk : W p l e R s m args below meth c H locs cells slots Q (F0 m (pc + 3) ls (.ref (h 5) :: rest))) : W p l e R s m args below meth c H locs cells slots Q (F0 m pc ls (.ref (h 4) :: rest)) :=
  va_getN hC.1 hC.2.1 hC.2.2.2.2 inX0 hC.2.2.2.1 hK.1 hP 4 rfl rfl 0 (by decide) (hK.2.at bw_32) (fun _ h9 => h9) rfl hdg kk
theorem rl_X_5 {z : wXS} {i : Int32} (hC : CallFix p m c cc nL s args BIG own) (hK : wKK G s) (hP : va_P G.1 vwCl (wsX G h z) H) (hin : vp_in i 6) (hdg : decode cc pc = .ok (.iaload, 1)) (kk : W p l e R s m args below meth c H locs cells slots Q (F0 m (pc + 1) ls (.int ((w_a (w_f (x_w z)) 0) i.toNatClampNeg) :: rest))) : W p l e R s m args below meth c H locs cells slots Q (F0 m pc ls (.int i :: .ref (h 5) :: rest)) :=
  va_iald hC.1 hC.2.1 hK.1 hP 5 0 rfl rfl hin hdg kk
theorem rg_X_X5_4_1 {z : wXS} (hC : CallFix p m c cc nL s args BIG RX5) (hK : wKK G s) (hP : va_P G.1 vwCl (wsX G h z) H) (hdg : decode cc pc = .ok (.getfield 78, 3)) (kk : W p l e R s m args below meth c H locs cells slots Q (F0 m (pc + 3) ls (.ref (h 6) :: rest))) : W p l e R s m args below meth c H locs cells slots Q (F0 m pc ls (.ref (h 4) :: rest)) :=
  va_getN hC.1 hC.2.1 hC.2.2.2.2 inX0 hC.2.2.2.1 hK.1 hP 4 rfl rfl 1 (by decide) (hK.2.at bw_34) (fun _ h9 => h9) rfl hdg kk
theorem rl_X_6 {z : wXS} {i : Int32} (hC : CallFix p m c cc nL s args BIG own) (hK : wKK G s) (hP : va_P G.1 vwCl (wsX G h z) H) (hin : vp_in i 6) (hdg : decode cc pc = .ok (.iaload, 1)) (kk : W p l e R s m args below meth c H locs cells slots Q (F0 m (pc + 1) ls (.int ((w_a (w_f (x_w z)) 1) i.toNatClampNeg) :: rest))) : W p l e R s m args below meth c H locs cells slots Q (F0 m pc ls (.int i :: .ref (h 6) :: rest)) :=
  va_iald hC.1 hC.2.1 hK.1 hP 6 0 rfl rfl hin hdg kk
theorem rg_X_X5_4_2 {z : wXS} (hC : CallFix p m c cc nL s args BIG RX5) (hK : wKK G s) (hP : va_P G.1 vwCl (wsX G h z) H) (hdg : decode cc pc = .ok (.getfield 81, 3)) (kk : W p l e R s m args below meth c H locs cells slots Q (F0 m (pc + 3) ls (.ref (h 7) :: rest))) : W p l e R s m args below meth c H locs cells slots Q (F0 m pc ls (.ref (h 4) :: rest)) :=
  va_getN hC.1 hC.2.1 hC.2.2.2.2 inX0 hC.2.2.2.1 hK.1 hP 4 rfl rfl 2 (by decide) (hK.2.at bw_36) (fun _ h9 => h9) rfl hdg kk
theorem rl_X_7 {z : wXS} {i : Int32} (hC : CallFix p m c cc nL s args BIG own) (hK : wKK G s) (hP : va_P G.1 vwCl (wsX G h z) H) (hin : vp_in i 6) (hdg : decode cc pc = .ok (.iaload, 1)) (kk : W p l e R s m args below meth c H locs cells slots Q (F0 m (pc + 1) ls (.int ((w_a (w_f (x_w z)) 2) i.toNatClampNeg) :: rest))) : W p l e R s m args below meth c H locs cells slots Q (F0 m pc ls (.int i :: .ref (h 7) :: rest)) :=
  va_iald hC.1 hC.2.1 hK.1 hP 7 0 rfl rfl hin hdg kk
theorem rg_X_X5_1_1 {z : wXS} (hC : CallFix p m c cc nL s args BIG RX5) (hK : wKK G s) (hP : va_P G.1 vwCl (wsX G h z) H) (hdg : decode cc pc = .ok (.getfield 84, 3)) (kk : W p l e R s m args below meth c H locs cells slots Q (F0 m (pc + 3) ls (.ref (h 2) :: rest))) : W p l e R s m args below meth c H locs cells slots Q (F0 m pc ls (.ref (h 1) :: rest)) :=
  va_getN hC.1 hC.2.1 hC.2.2.2.2 inX4 hC.2.2.2.1 hK.1 hP 1 rfl rfl 1 (by decide) (hK.2.at bw_63) (fun _ h9 => h9) rfl hdg kk
theorem rl_X_2 {z : wXS} {i : Int32} (hC : CallFix p m c cc nL s args BIG own) (hK : wKK G s) (hP : va_P G.1 vwCl (wsX G h z) H) (hin : vp_in i 6) (hdg : decode cc pc = .ok (.iaload, 1)) (kk : W p l e R s m args below meth c H locs cells slots Q (F0 m (pc + 1) ls (.int ((w_a (w_o (x_w z)) 1) i.toNatClampNeg) :: rest))) : W p l e R s m args below meth c H locs cells slots Q (F0 m pc ls (.int i :: .ref (h 2) :: rest)) :=
  va_iald hC.1 hC.2.1 hK.1 hP 2 0 rfl rfl hin hdg kk
theorem rg_X_X5_4_3 {z : wXS} (hC : CallFix p m c cc nL s args BIG RX5) (hK : wKK G s) (hP : va_P G.1 vwCl (wsX G h z) H) (hdg : decode cc pc = .ok (.getfield 87, 3)) (kk : W p l e R s m args below meth c H locs cells slots Q (F0 m (pc + 3) ls (.ref (h 8) :: rest))) : W p l e R s m args below meth c H locs cells slots Q (F0 m pc ls (.ref (h 4) :: rest)) :=
  va_getN hC.1 hC.2.1 hC.2.2.2.2 inX0 hC.2.2.2.1 hK.1 hP 4 rfl rfl 3 (by decide) (hK.2.at bw_40) (fun _ h9 => h9) rfl hdg kk
theorem rl_X_8 {z : wXS} {i : Int32} (hC : CallFix p m c cc nL s args BIG own) (hK : wKK G s) (hP : va_P G.1 vwCl (wsX G h z) H) (hin : vp_in i 6) (hdg : decode cc pc = .ok (.iaload, 1)) (kk : W p l e R s m args below meth c H locs cells slots Q (F0 m (pc + 1) ls (.int ((w_a (w_f (x_w z)) 3) i.toNatClampNeg) :: rest))) : W p l e R s m args below meth c H locs cells slots Q (F0 m pc ls (.int i :: .ref (h 8) :: rest)) :=
  va_iald hC.1 hC.2.1 hK.1 hP 8 0 rfl rfl hin hdg kk
theorem calX0_makeFoes : xCalV yX0_makeFoes cX0_makeFoes 4 none 3 := ⟨bw_250, bs_3, bw_3, bw_251, by decide +kernel, by decide +kernel, by decide +kernel⟩
theorem calX5_isMood : xCalS yX5_isMood cX5_isMood 1 (some .boolean) 1 := ⟨bw_257, bw_1, bw_258, by decide +kernel, by decide +kernel, by decide +kernel⟩
theorem rg_X_X5_1_4 {z : wXS} (hC : CallFix p m c cc nL s args BIG RX5) (hK : wKK G s) (hP : va_P G.1 vwCl (wsX G h z) H) (hdg : decode cc pc = .ok (.getfield 101, 3)) (kk : W p l e R s m args below meth c H locs cells slots Q (F0 m (pc + 3) ls (.int (w_i (w_o (x_w z)) 4) :: rest))) : W p l e R s m args below meth c H locs cells slots Q (F0 m pc ls (.ref (h 1) :: rest)) :=
  va_getN hC.1 hC.2.1 hC.2.2.2.2 inX4 hC.2.2.2.1 hK.1 hP 1 rfl rfl 4 (by decide) (hK.2.at bw_68) (fun _ h9 => h9) rfl hdg kk
theorem rp_X_X5_1_4 {z : wXS} {v : Int32} (hC : CallFix p m c cc nL s args BIG RX5) (hK : wKK G s) (hP : va_P G.1 vwCl (wsX G h z) H) (hD : va_D A (wsX G h z)) (hS : va_S A s.heap H locs) (hdg : decode cc pc = .ok (.putfield 101, 3)) (kk : ∀ (z1 : wXS) (H1 : Heap) (locs1 : List Loc), z1 = (x_sw z (w_so (x_w z) (w_si (w_o (x_w z)) 4 v))) → va_P G.1 vwCl (wsX G h z1) H1 → va_D A (wsX G h z1) → va_S A s.heap H1 locs1 → W p l e R s m args below meth c H1 locs1 cells slots Q (F0 m (pc + 3) ls rest)) : W p l e R s m args below meth c H locs cells slots Q (F0 m pc ls (.int v :: .ref (h 1) :: rest)) :=
  va_putN hC.1 hC.2.1 hC.2.2.2.2 inX4 tyX4 tyX4_ok nmX4 hC.2.2.2.1 hK.1 hP hD hS 1 rfl rfl 4 (by decide) (hK.2.at bw_68) (fun _ h9 => h9) rfl (ty := .int) (v := .int v) (by decide +kernel) rfl rfl (Nat.le_of_ble_eq_true rfl) hdg (fun H1 locs1 hP1 hD1 hS1 => kk (x_sw z (w_so (x_w z) (w_si (w_o (x_w z)) 4 v))) H1 locs1 rfl hP1 hD1 hS1)
theorem rg_X_X5_1_5 {z : wXS} (hC : CallFix p m c cc nL s args BIG RX5) (hK : wKK G s) (hP : va_P G.1 vwCl (wsX G h z) H) (hdg : decode cc pc = .ok (.getfield 104, 3)) (kk : W p l e R s m args below meth c H locs cells slots Q (F0 m (pc + 3) ls (.int (w_i (w_o (x_w z)) 5) :: rest))) : W p l e R s m args below meth c H locs cells slots Q (F0 m pc ls (.ref (h 1) :: rest)) :=
  va_getN hC.1 hC.2.1 hC.2.2.2.2 inX4 hC.2.2.2.1 hK.1 hP 1 rfl rfl 5 (by decide) (hK.2.at bw_71) (fun _ h9 => h9) rfl hdg kk
theorem rp_X_X5_1_5 {z : wXS} {v : Int32} (hC : CallFix p m c cc nL s args BIG RX5) (hK : wKK G s) (hP : va_P G.1 vwCl (wsX G h z) H) (hD : va_D A (wsX G h z)) (hS : va_S A s.heap H locs) (hdg : decode cc pc = .ok (.putfield 104, 3)) (kk : ∀ (z1 : wXS) (H1 : Heap) (locs1 : List Loc), z1 = (x_sw z (w_so (x_w z) (w_si (w_o (x_w z)) 5 v))) → va_P G.1 vwCl (wsX G h z1) H1 → va_D A (wsX G h z1) → va_S A s.heap H1 locs1 → W p l e R s m args below meth c H1 locs1 cells slots Q (F0 m (pc + 3) ls rest)) : W p l e R s m args below meth c H locs cells slots Q (F0 m pc ls (.int v :: .ref (h 1) :: rest)) :=
  va_putN hC.1 hC.2.1 hC.2.2.2.2 inX4 tyX4 tyX4_ok nmX4 hC.2.2.2.1 hK.1 hP hD hS 1 rfl rfl 5 (by decide) (hK.2.at bw_71) (fun _ h9 => h9) rfl (ty := .int) (v := .int v) (by decide +kernel) rfl rfl (Nat.le_of_ble_eq_true rfl) hdg (fun H1 locs1 hP1 hD1 hS1 => kk (x_sw z (w_so (x_w z) (w_si (w_o (x_w z)) 5 v))) H1 locs1 rfl hP1 hD1 hS1)
theorem rg_X_X5_1_6 {z : wXS} (hC : CallFix p m c cc nL s args BIG RX5) (hK : wKK G s) (hP : va_P G.1 vwCl (wsX G h z) H) (hdg : decode cc pc = .ok (.getfield 107, 3)) (kk : W p l e R s m args below meth c H locs cells slots Q (F0 m (pc + 3) ls (.int (w_i (w_o (x_w z)) 6) :: rest))) : W p l e R s m args below meth c H locs cells slots Q (F0 m pc ls (.ref (h 1) :: rest)) :=
  va_getN hC.1 hC.2.1 hC.2.2.2.2 inX4 hC.2.2.2.1 hK.1 hP 1 rfl rfl 6 (by decide) (hK.2.at bw_74) (fun _ h9 => h9) rfl hdg kk
theorem rp_X_X5_1_6 {z : wXS} {v : Int32} (hC : CallFix p m c cc nL s args BIG RX5) (hK : wKK G s) (hP : va_P G.1 vwCl (wsX G h z) H) (hD : va_D A (wsX G h z)) (hS : va_S A s.heap H locs) (hdg : decode cc pc = .ok (.putfield 107, 3)) (kk : ∀ (z1 : wXS) (H1 : Heap) (locs1 : List Loc), z1 = (x_sw z (w_so (x_w z) (w_si (w_o (x_w z)) 6 v))) → va_P G.1 vwCl (wsX G h z1) H1 → va_D A (wsX G h z1) → va_S A s.heap H1 locs1 → W p l e R s m args below meth c H1 locs1 cells slots Q (F0 m (pc + 3) ls rest)) : W p l e R s m args below meth c H locs cells slots Q (F0 m pc ls (.int v :: .ref (h 1) :: rest)) :=
  va_putN hC.1 hC.2.1 hC.2.2.2.2 inX4 tyX4 tyX4_ok nmX4 hC.2.2.2.1 hK.1 hP hD hS 1 rfl rfl 6 (by decide) (hK.2.at bw_74) (fun _ h9 => h9) rfl (ty := .int) (v := .int v) (by decide +kernel) rfl rfl (Nat.le_of_ble_eq_true rfl) hdg (fun H1 locs1 hP1 hD1 hS1 => kk (x_sw z (w_so (x_w z) (w_si (w_o (x_w z)) 6 v))) H1 locs1 rfl hP1 hD1 hS1)
theorem rg_X_X5_1_7 {z : wXS} (hC : CallFix p m c cc nL s args BIG RX5) (hK : wKK G s) (hP : va_P G.1 vwCl (wsX G h z) H) (hdg : decode cc pc = .ok (.getfield 110, 3)) (kk : W p l e R s m args below meth c H locs cells slots Q (F0 m (pc + 3) ls (.int (w_i (w_o (x_w z)) 7) :: rest))) : W p l e R s m args below meth c H locs cells slots Q (F0 m pc ls (.ref (h 1) :: rest)) :=
  va_getN hC.1 hC.2.1 hC.2.2.2.2 inX4 hC.2.2.2.1 hK.1 hP 1 rfl rfl 7 (by decide) (hK.2.at bw_76) (fun _ h9 => h9) rfl hdg kk
theorem rg_X_X5_1_8 {z : wXS} (hC : CallFix p m c cc nL s args BIG RX5) (hK : wKK G s) (hP : va_P G.1 vwCl (wsX G h z) H) (hdg : decode cc pc = .ok (.getfield 113, 3)) (kk : W p l e R s m args below meth c H locs cells slots Q (F0 m (pc + 3) ls (.int (w_i (w_o (x_w z)) 8) :: rest))) : W p l e R s m args below meth c H locs cells slots Q (F0 m pc ls (.ref (h 1) :: rest)) :=
  va_getN hC.1 hC.2.1 hC.2.2.2.2 inX4 hC.2.2.2.1 hK.1 hP 1 rfl rfl 8 (by decide) (hK.2.at bw_78) (fun _ h9 => h9) rfl hdg kk
theorem rg_X_X5_1_9 {z : wXS} (hC : CallFix p m c cc nL s args BIG RX5) (hK : wKK G s) (hP : va_P G.1 vwCl (wsX G h z) H) (hdg : decode cc pc = .ok (.getfield 116, 3)) (kk : W p l e R s m args below meth c H locs cells slots Q (F0 m (pc + 3) ls (.int (w_i (w_o (x_w z)) 9) :: rest))) : W p l e R s m args below meth c H locs cells slots Q (F0 m pc ls (.ref (h 1) :: rest)) :=
  va_getN hC.1 hC.2.1 hC.2.2.2.2 inX4 hC.2.2.2.1 hK.1 hP 1 rfl rfl 9 (by decide) (hK.2.at bw_80) (fun _ h9 => h9) rfl hdg kk
theorem rg_X_X5_1_3 {z : wXS} (hC : CallFix p m c cc nL s args BIG RX5) (hK : wKK G s) (hP : va_P G.1 vwCl (wsX G h z) H) (hdg : decode cc pc = .ok (.getfield 119, 3)) (kk : W p l e R s m args below meth c H locs cells slots Q (F0 m (pc + 3) ls (.int (w_i (w_o (x_w z)) 3) :: rest))) : W p l e R s m args below meth c H locs cells slots Q (F0 m pc ls (.ref (h 1) :: rest)) :=
  va_getN hC.1 hC.2.1 hC.2.2.2.2 inX4 hC.2.2.2.1 hK.1 hP 1 rfl rfl 3 (by decide) (hK.2.at bw_66) (fun _ h9 => h9) rfl hdg kk
theorem rg_X_X5_1_10 {z : wXS} (hC : CallFix p m c cc nL s args BIG RX5) (hK : wKK G s) (hP : va_P G.1 vwCl (wsX G h z) H) (hdg : decode cc pc = .ok (.getfield 122, 3)) (kk : W p l e R s m args below meth c H locs cells slots Q (F0 m (pc + 3) ls (.int (w_i (w_o (x_w z)) 10) :: rest))) : W p l e R s m args below meth c H locs cells slots Q (F0 m pc ls (.ref (h 1) :: rest)) :=
  va_getN hC.1 hC.2.1 hC.2.2.2.2 inX4 hC.2.2.2.1 hK.1 hP 1 rfl rfl 10 (by decide) (hK.2.at bw_83) (fun _ h9 => h9) rfl hdg kk
theorem calX5_byteOf : xCalS yX5_byteOf cX5_byteOf 3 (some .int) 2 := ⟨bw_271, bw_1, bw_272, by decide +kernel, by decide +kernel, by decide +kernel⟩
theorem calX5_areSigns : xCalS yX5_areSigns cX5_areSigns 4 (some .boolean) 2 := ⟨bw_268, bw_1, bw_269, by decide +kernel, by decide +kernel, by decide +kernel⟩
theorem rg_X_X5_0_3 {z : wXS} (hC : CallFix p m c cc nL s args BIG RX5) (hK : wKK G s) (hP : va_P G.1 vwCl (wsX G h z) H) (hdg : decode cc pc = .ok (.getfield 26, 3)) (kk : W p l e R s m args below meth c H locs cells slots Q (F0 m (pc + 3) ls (.ref (h 17) :: rest))) : W p l e R s m args below meth c H locs cells slots Q (F0 m pc ls (.ref (h 0) :: rest)) :=
  va_get hC.1 hC.2.1 hC.2.2.2.2 inX5 hC.2.2.2.1 hK.1 hP 0 rfl rfl 3 (by decide) (hC.2.2.2.2 _ bw_197) (fun _ h9 => h9) rfl hdg kk
theorem rg_X_X5_17_1 {z : wXS} (hC : CallFix p m c cc nL s args BIG RX5) (hK : wKK G s) (hP : va_P G.1 vwCl (wsX G h z) H) (hdg : decode cc pc = .ok (.getfield 129, 3)) (kk : W p l e R s m args below meth c H locs cells slots Q (F0 m (pc + 3) ls (.int (w_i (x_t z) 1) :: rest))) : W p l e R s m args below meth c H locs cells slots Q (F0 m pc ls (.ref (h 17) :: rest)) :=
  va_getN hC.1 hC.2.1 hC.2.2.2.2 inX3 hC.2.2.2.1 hK.1 hP 17 rfl rfl 1 (by decide) (hK.2.at bw_119) (fun _ h9 => h9) rfl hdg kk
theorem calX3_append : xCalV yX3_append cX3_append 2 none 1 := ⟨bw_275, bs_4, bw_4, bw_276, by decide +kernel, by decide +kernel, by decide +kernel⟩
theorem rg_X_X5_0_4 {z : wXS} (hC : CallFix p m c cc nL s args BIG RX5) (hK : wKK G s) (hP : va_P G.1 vwCl (wsX G h z) H) (hdg : decode cc pc = .ok (.getfield 33, 3)) (kk : W p l e R s m args below meth c H locs cells slots Q (F0 m (pc + 3) ls (.ref (h 19) :: rest))) : W p l e R s m args below meth c H locs cells slots Q (F0 m pc ls (.ref (h 0) :: rest)) :=
  va_get hC.1 hC.2.1 hC.2.2.2.2 inX5 hC.2.2.2.1 hK.1 hP 0 rfl rfl 4 (by decide) (hC.2.2.2.2 _ bw_198) (fun _ h9 => h9) rfl hdg kk
theorem calX3_readFolk : xCalV yX3_readFolk cX3_readFolk 4 (some .int) 1 := ⟨bw_283, bs_5, bw_4, bw_284, by decide +kernel, by decide +kernel, by decide +kernel⟩
theorem rp_X_X5_17_1 {z : wXS} {v : Int32} (hC : CallFix p m c cc nL s args BIG RX5) (hK : wKK G s) (hP : va_P G.1 vwCl (wsX G h z) H) (hD : va_D A (wsX G h z)) (hS : va_S A s.heap H locs) (hdg : decode cc pc = .ok (.putfield 129, 3)) (kk : ∀ (z1 : wXS) (H1 : Heap) (locs1 : List Loc), z1 = (x_st z (w_si (x_t z) 1 v)) → va_P G.1 vwCl (wsX G h z1) H1 → va_D A (wsX G h z1) → va_S A s.heap H1 locs1 → W p l e R s m args below meth c H1 locs1 cells slots Q (F0 m (pc + 3) ls rest)) : W p l e R s m args below meth c H locs cells slots Q (F0 m pc ls (.int v :: .ref (h 17) :: rest)) :=
  va_putN hC.1 hC.2.1 hC.2.2.2.2 inX3 tyX3 tyX3_ok nmX3 hC.2.2.2.1 hK.1 hP hD hS 17 rfl rfl 1 (by decide) (hK.2.at bw_119) (fun _ h9 => h9) rfl (ty := .int) (v := .int v) (by decide +kernel) rfl rfl (Nat.le_of_ble_eq_true rfl) hdg (fun H1 locs1 hP1 hD1 hS1 => kk (x_st z (w_si (x_t z) 1 v)) H1 locs1 rfl hP1 hD1 hS1)
theorem calX4_settle : xCalV yX4_settle cX4_settle 3 none 1 := ⟨bw_308, bs_10, bw_2, bw_309, by decide +kernel, by decide +kernel, by decide +kernel⟩
theorem rg_X_X5_0_5 {z : wXS} (hC : CallFix p m c cc nL s args BIG RX5) (hK : wKK G s) (hP : va_P G.1 vwCl (wsX G h z) H) (hdg : decode cc pc = .ok (.getfield 37, 3)) (kk : W p l e R s m args below meth c H locs cells slots Q (F0 m (pc + 3) ls (.ref (h 24) :: rest))) : W p l e R s m args below meth c H locs cells slots Q (F0 m pc ls (.ref (h 0) :: rest)) :=
  va_get hC.1 hC.2.1 hC.2.2.2.2 inX5 hC.2.2.2.1 hK.1 hP 0 rfl rfl 5 (by decide) (hC.2.2.2.2 _ bw_199) (fun _ h9 => h9) rfl hdg kk
theorem calX3_readPlan : xCalV yX3_readPlan cX3_readPlan 6 (some .int) 2 := ⟨bw_320, bs_12, bw_4, bw_321, by decide +kernel, by decide +kernel, by decide +kernel⟩
theorem calX4_adopt : xCalV yX4_adopt cX4_adopt 3 none 2 := ⟨bw_325, bs_13, bw_2, bw_326, by decide +kernel, by decide +kernel, by decide +kernel⟩
theorem calX4_hasHours : xCalV yX4_hasHours cX4_hasHours 2 (some .boolean) 1 := ⟨bw_348, bs_15, bw_2, bw_349, by decide +kernel, by decide +kernel, by decide +kernel⟩
theorem calX4_followPlan : xCalV yX4_followPlan cX4_followPlan 2 (some .int) 0 := ⟨bw_409, bs_23, bw_2, bw_410, by decide +kernel, by decide +kernel, by decide +kernel⟩
theorem rg_X_X5_0_6 {z : wXS} (hC : CallFix p m c cc nL s args BIG RX5) (hK : wKK G s) (hP : va_P G.1 vwCl (wsX G h z) H) (hdg : decode cc pc = .ok (.getfield 44, 3)) (kk : W p l e R s m args below meth c H locs cells slots Q (F0 m (pc + 3) ls (.ref (h 25) :: rest))) : W p l e R s m args below meth c H locs cells slots Q (F0 m pc ls (.ref (h 0) :: rest)) :=
  va_get hC.1 hC.2.1 hC.2.2.2.2 inX5 hC.2.2.2.1 hK.1 hP 0 rfl rfl 6 (by decide) (hC.2.2.2.2 _ bw_200) (fun _ h9 => h9) rfl hdg kk
theorem calX1_observe : xCalV yX1_observe cX1_observe 2 none 1 := ⟨bw_422, bs_25, bw_5, bw_423, by decide +kernel, by decide +kernel, by decide +kernel⟩
theorem calX1_mostIn : xCalV yX1_mostIn cX1_mostIn 3 (some .int) 2 := ⟨bw_428, bs_26, bw_5, bw_429, by decide +kernel, by decide +kernel, by decide +kernel⟩
theorem calX5_mostFrom : xCalV yX5_mostFrom cX5_mostFrom 3 (some .int) 2 := ⟨bw_418, bs_24, bw_1, bw_419, by decide +kernel, by decide +kernel, by decide +kernel⟩
theorem rg_X_X5_25_3 {z : wXS} (hC : CallFix p m c cc nL s args BIG RX5) (hK : wKK G s) (hP : va_P G.1 vwCl (wsX G h z) H) (hdg : decode cc pc = .ok (.getfield 174, 3)) (kk : W p l e R s m args below meth c H locs cells slots Q (F0 m (pc + 3) ls (.ref (h 28) :: rest))) : W p l e R s m args below meth c H locs cells slots Q (F0 m pc ls (.ref (h 25) :: rest)) :=
  va_getN hC.1 hC.2.1 hC.2.2.2.2 inX1 hC.2.2.2.1 hK.1 hP 25 rfl rfl 3 (by decide) (hK.2.at bw_144) (fun _ h9 => h9) rfl hdg kk
theorem rl_X_28 {z : wXS} {i : Int32} (hC : CallFix p m c cc nL s args BIG own) (hK : wKK G s) (hP : va_P G.1 vwCl (wsX G h z) H) (hin : vp_in i 5) (hdg : decode cc pc = .ok (.iaload, 1)) (kk : W p l e R s m args below meth c H locs cells slots Q (F0 m (pc + 1) ls (.int ((w_a (w_o (x_s z)) 3) i.toNatClampNeg) :: rest))) : W p l e R s m args below meth c H locs cells slots Q (F0 m pc ls (.int i :: .ref (h 28) :: rest)) :=
  va_iald hC.1 hC.2.1 hK.1 hP 28 0 rfl rfl hin hdg kk
theorem rg_X_X5_25_0 {z : wXS} (hC : CallFix p m c cc nL s args BIG RX5) (hK : wKK G s) (hP : va_P G.1 vwCl (wsX G h z) H) (hdg : decode cc pc = .ok (.getfield 276, 3)) (kk : W p l e R s m args below meth c H locs cells slots Q (F0 m (pc + 3) ls (.ref (h 29) :: rest))) : W p l e R s m args below meth c H locs cells slots Q (F0 m pc ls (.ref (h 25) :: rest)) :=
  va_getN hC.1 hC.2.1 hC.2.2.2.2 inX1 hC.2.2.2.1 hK.1 hP 25 rfl rfl 0 (by decide) (hK.2.at bw_140) (fun _ h9 => h9) rfl hdg kk
theorem calX5_mostInPeace : xCalV yX5_mostInPeace cX5_mostInPeace 4 (some .int) 2 := ⟨bw_462, bs_30, bw_1, bw_463, by decide +kernel, by decide +kernel, by decide +kernel⟩
theorem calX4_givesAt : xCalV yX4_givesAt cX4_givesAt 4 (some .int) 2 := ⟨bw_470, bs_31, bw_2, bw_471, by decide +kernel, by decide +kernel, by decide +kernel⟩
theorem calX5_isPails : xCalS yX5_isPails cX5_isPails 2 (some .boolean) 1 := ⟨bw_478, bw_1, bw_479, by decide +kernel, by decide +kernel, by decide +kernel⟩
theorem calX5_isTale : xCalV yX5_isTale cX5_isTale 4 (some .boolean) 3 := ⟨bw_490, bs_32, bw_1, bw_491, by decide +kernel, by decide +kernel, by decide +kernel⟩
theorem calX4_lot : xCalV yX4_lot cX4_lot 2 (some .int) 0 := ⟨bw_502, bs_33, bw_2, bw_503, by decide +kernel, by decide +kernel, by decide +kernel⟩
theorem rg_X_X5_1_11 {z : wXS} (hC : CallFix p m c cc nL s args BIG RX5) (hK : wKK G s) (hP : va_P G.1 vwCl (wsX G h z) H) (hdg : decode cc pc = .ok (.getfield 209, 3)) (kk : W p l e R s m args below meth c H locs cells slots Q (F0 m (pc + 3) ls (.int (w_i (w_o (x_w z)) 11) :: rest))) : W p l e R s m args below meth c H locs cells slots Q (F0 m pc ls (.ref (h 1) :: rest)) :=
  va_getN hC.1 hC.2.1 hC.2.2.2.2 inX4 hC.2.2.2.1 hK.1 hP 1 rfl rfl 11 (by decide) (hK.2.at bw_85) (fun _ h9 => h9) rfl hdg kk
theorem rp_X_X5_1_11 {z : wXS} {v : Int32} (hC : CallFix p m c cc nL s args BIG RX5) (hK : wKK G s) (hP : va_P G.1 vwCl (wsX G h z) H) (hD : va_D A (wsX G h z)) (hS : va_S A s.heap H locs) (hdg : decode cc pc = .ok (.putfield 209, 3)) (kk : ∀ (z1 : wXS) (H1 : Heap) (locs1 : List Loc), z1 = (x_sw z (w_so (x_w z) (w_si (w_o (x_w z)) 11 v))) → va_P G.1 vwCl (wsX G h z1) H1 → va_D A (wsX G h z1) → va_S A s.heap H1 locs1 → W p l e R s m args below meth c H1 locs1 cells slots Q (F0 m (pc + 3) ls rest)) : W p l e R s m args below meth c H locs cells slots Q (F0 m pc ls (.int v :: .ref (h 1) :: rest)) :=
  va_putN hC.1 hC.2.1 hC.2.2.2.2 inX4 tyX4 tyX4_ok nmX4 hC.2.2.2.1 hK.1 hP hD hS 1 rfl rfl 11 (by decide) (hK.2.at bw_85) (fun _ h9 => h9) rfl (ty := .int) (v := .int v) (by decide +kernel) rfl rfl (Nat.le_of_ble_eq_true rfl) hdg (fun H1 locs1 hP1 hD1 hS1 => kk (x_sw z (w_so (x_w z) (w_si (w_o (x_w z)) 11 v))) H1 locs1 rfl hP1 hD1 hS1)
theorem rg_X_X5_0_1 {z : wXS} (hC : CallFix p m c cc nL s args BIG RX5) (hK : wKK G s) (hP : va_P G.1 vwCl (wsX G h z) H) (hdg : decode cc pc = .ok (.getfield 16, 3)) (kk : W p l e R s m args below meth c H locs cells slots Q (F0 m (pc + 3) ls (.ref (h 9) :: rest))) : W p l e R s m args below meth c H locs cells slots Q (F0 m pc ls (.ref (h 0) :: rest)) :=
  va_get hC.1 hC.2.1 hC.2.2.2.2 inX5 hC.2.2.2.1 hK.1 hP 0 rfl rfl 1 (by decide) (hC.2.2.2.2 _ bw_195) (fun _ h9 => h9) rfl hdg kk
theorem calX4_become : xCalV yX4_become cX4_become 2 none 1 := ⟨bw_518, bs_34, bw_2, bw_519, by decide +kernel, by decide +kernel, by decide +kernel⟩
theorem rp_X_X5_0_2 {z : wXS} {v : Int32} (hz : w_zb v) (hC : CallFix p m c cc nL s args BIG RX5) (hK : wKK G s) (hP : va_P G.1 vwCl (wsX G h z) H) (hD : va_D A (wsX G h z)) (hS : va_S A s.heap H locs) (hdg : decode cc pc = .ok (.putfield 19, 3)) (kk : ∀ (z1 : wXS) (H1 : Heap) (locs1 : List Loc), z1 = (x_so z (w_si (x_o z) 2 v)) → va_P G.1 vwCl (wsX G h z1) H1 → va_D A (wsX G h z1) → va_S A s.heap H1 locs1 → W p l e R s m args below meth c H1 locs1 cells slots Q (F0 m (pc + 3) ls rest)) : W p l e R s m args below meth c H locs cells slots Q (F0 m pc ls (.int v :: .ref (h 0) :: rest)) :=
  va_put hC.1 hC.2.1 hC.2.2.2.2 inX5 tyX5 tyX5_ok nmX5 hC.2.2.2.1 hK.1 hP hD hS 0 rfl rfl 2 (by decide) (hC.2.2.2.2 _ bw_196) (fun _ h9 => h9) rfl (ty := .boolean) (v := .int v) (by decide +kernel) hz.1 hz.2 (Nat.le_of_ble_eq_true rfl) hdg (fun H1 locs1 hP1 hD1 hS1 => kk (x_so z (w_si (x_o z) 2 v)) H1 locs1 rfl hP1 hD1 hS1)
theorem rg_X_X5_0_2 {z : wXS} (hC : CallFix p m c cc nL s args BIG RX5) (hK : wKK G s) (hP : va_P G.1 vwCl (wsX G h z) H) (hdg : decode cc pc = .ok (.getfield 19, 3)) (kk : W p l e R s m args below meth c H locs cells slots Q (F0 m (pc + 3) ls (.int (w_i (x_o z) 2) :: rest))) : W p l e R s m args below meth c H locs cells slots Q (F0 m pc ls (.ref (h 0) :: rest)) :=
  va_get hC.1 hC.2.1 hC.2.2.2.2 inX5 hC.2.2.2.1 hK.1 hP 0 rfl rfl 2 (by decide) (hC.2.2.2.2 _ bw_196) (fun _ h9 => h9) rfl hdg kk
theorem calX5_isSheet : xCalS yX5_isSheet cX5_isSheet 1 (some .boolean) 1 := ⟨bw_533, bw_1, bw_534, by decide +kernel, by decide +kernel, by decide +kernel⟩
theorem calX5_isLane : xCalS yX5_isLane cX5_isLane 1 (some .boolean) 1 := ⟨bw_536, bw_1, bw_537, by decide +kernel, by decide +kernel, by decide +kernel⟩
theorem rg_X_X5_0_7 {z : wXS} (hC : CallFix p m c cc nL s args BIG RX5) (hK : wKK G s) (hP : va_P G.1 vwCl (wsX G h z) H) (hdg : decode cc pc = .ok (.getfield 50, 3)) (kk : W p l e R s m args below meth c H locs cells slots Q (F0 m (pc + 3) ls (.ref (h 34) :: rest))) : W p l e R s m args below meth c H locs cells slots Q (F0 m pc ls (.ref (h 0) :: rest)) :=
  va_get hC.1 hC.2.1 hC.2.2.2.2 inX5 hC.2.2.2.1 hK.1 hP 0 rfl rfl 7 (by decide) (hC.2.2.2.2 _ bw_201) (fun _ h9 => h9) rfl hdg kk
theorem rg_X_X5_H_1 {z : wXS} {n : Nat} (hn : n < 4) (hC : CallFix p m c cc nL s args BIG RX5) (hK : wKK G s) (hP : va_P G.1 vwCl (wsX G h z) H) (hdg : decode cc pc = .ok (.getfield 241, 3)) (kk : W p l e R s m args below meth c H locs cells slots Q (F0 m (pc + 3) ls (.int (w_i (x_h z n) 1) :: rest))) : W p l e R s m args below meth c H locs cells slots Q (F0 m pc ls (.ref (h (35 + 2 * n)) :: rest)) :=
  va_getN hC.1 hC.2.1 hC.2.2.2.2 inX2 hC.2.2.2.1 hK.1 hP (35 + 2 * n) (wsX_h hn).1 rfl 1 (by decide) (hK.2.at bw_179) (fun _ h9 => h9) rfl hdg kk
theorem rg_X_X5_H_2 {z : wXS} {n : Nat} (hn : n < 4) (hC : CallFix p m c cc nL s args BIG RX5) (hK : wKK G s) (hP : va_P G.1 vwCl (wsX G h z) H) (hdg : decode cc pc = .ok (.getfield 245, 3)) (kk : W p l e R s m args below meth c H locs cells slots Q (F0 m (pc + 3) ls (.int (w_i (x_h z n) 2) :: rest))) : W p l e R s m args below meth c H locs cells slots Q (F0 m pc ls (.ref (h (35 + 2 * n)) :: rest)) :=
  va_getN hC.1 hC.2.1 hC.2.2.2.2 inX2 hC.2.2.2.1 hK.1 hP (35 + 2 * n) (wsX_h hn).1 rfl 2 (by decide) (hK.2.at bw_181) (fun _ h9 => h9) rfl hdg kk
theorem calX2_hasSpan : xCalV yX2_hasSpan cX2_hasSpan 3 (some .boolean) 2 := ⟨bw_540, bs_36, bw_6, bw_541, by decide +kernel, by decide +kernel, by decide +kernel⟩
theorem rg_X_X5_H_0 {z : wXS} {n : Nat} (hn : n < 4) (hC : CallFix p m c cc nL s args BIG RX5) (hK : wKK G s) (hP : va_P G.1 vwCl (wsX G h z) H) (hdg : decode cc pc = .ok (.getfield 251, 3)) (kk : W p l e R s m args below meth c H locs cells slots Q (F0 m (pc + 3) ls (.ref (h (36 + 2 * n)) :: rest))) : W p l e R s m args below meth c H locs cells slots Q (F0 m pc ls (.ref (h (35 + 2 * n)) :: rest)) :=
  va_getN hC.1 hC.2.1 hC.2.2.2.2 inX2 hC.2.2.2.1 hK.1 hP (35 + 2 * n) (wsX_h hn).1 rfl 0 (by decide) (hK.2.at bw_177) (fun _ h9 => h9) rfl hdg kk
theorem rl_X_H {z : wXS} {n : Nat} (hn : n < 4) {i : Int32} (hC : CallFix p m c cc nL s args BIG own) (hK : wKK G s) (hP : va_P G.1 vwCl (wsX G h z) H) (hin : vp_in i 24) (hdg : decode cc pc = .ok (.laload, 1)) (kk : W p l e R s m args below meth c H locs cells slots Q (F0 m (pc + 1) ls (.long ((w_l (x_h z n) 0) i.toNatClampNeg) :: rest))) : W p l e R s m args below meth c H locs cells slots Q (F0 m pc ls (.int i :: .ref (h (36 + 2 * n)) :: rest)) :=
  va_lald hC.1 hC.2.1 hK.1 hP (36 + 2 * n) 2 (wsX_h hn).2 rfl hin hdg kk
theorem calX5_refusal : xCalV yX5_refusal cX5_refusal 5 (some .int) 4 := ⟨bw_530, bs_35, bw_1, bw_531, by decide +kernel, by decide +kernel, by decide +kernel⟩
theorem calX5_areDrawings : xCalV yX5_areDrawings cX5_areDrawings 7 (some .boolean) 3 := ⟨bw_544, bs_37, bw_1, bw_545, by decide +kernel, by decide +kernel, by decide +kernel⟩
theorem calX5_fitsFrom : xCalV yX5_fitsFrom cX5_fitsFrom 8 (some .boolean) 4 := ⟨bw_548, bs_38, bw_1, bw_549, by decide +kernel, by decide +kernel, by decide +kernel⟩
theorem calX2_put : xCalV yX2_put cX2_put 4 none 2 := ⟨bw_557, bs_39, bw_6, bw_558, by decide +kernel, by decide +kernel, by decide +kernel⟩
theorem calX2_begin : xCalV yX2_begin cX2_begin 4 none 2 := ⟨bw_565, bs_40, bw_6, bw_566, by decide +kernel, by decide +kernel, by decide +kernel⟩
theorem rp_X_X5_H_1 {z : wXS} {n : Nat} (hn : n < 4) {v : Int32} (hz : w_zb v) (hC : CallFix p m c cc nL s args BIG RX5) (hK : wKK G s) (hP : va_P G.1 vwCl (wsX G h z) H) (hD : va_D A (wsX G h z)) (hS : va_S A s.heap H locs) (hdg : decode cc pc = .ok (.putfield 241, 3)) (kk : ∀ (z1 : wXS) (H1 : Heap) (locs1 : List Loc), z1 = (x_sh z n (w_si (x_h z n) 1 v)) → va_P G.1 vwCl (wsX G h z1) H1 → va_D A (wsX G h z1) → va_S A s.heap H1 locs1 → W p l e R s m args below meth c H1 locs1 cells slots Q (F0 m (pc + 3) ls rest)) : W p l e R s m args below meth c H locs cells slots Q (F0 m pc ls (.int v :: .ref (h (35 + 2 * n)) :: rest)) :=
  va_putN hC.1 hC.2.1 hC.2.2.2.2 inX2 tyX2 tyX2_ok nmX2 hC.2.2.2.1 hK.1 hP hD hS (35 + 2 * n) (wsX_h hn).1 rfl 1 (by decide) (hK.2.at bw_179) (fun _ h9 => h9) rfl (ty := .boolean) (v := .int v) (by decide +kernel) hz.1 hz.2 (Nat.le_of_ble_eq_true rfl) hdg (fun H1 locs1 hP1 hD1 hS1 => kk (x_sh z n (w_si (x_h z n) 1 v)) H1 locs1 rfl ((wsX_hp1 hn v) ▸ hP1) ((wsX_hp1 hn v) ▸ hD1) hS1)
theorem rg_X_X5_H_3 {z : wXS} {n : Nat} (hn : n < 4) (hC : CallFix p m c cc nL s args BIG RX5) (hK : wKK G s) (hP : va_P G.1 vwCl (wsX G h z) H) (hdg : decode cc pc = .ok (.getfield 244, 3)) (kk : W p l e R s m args below meth c H locs cells slots Q (F0 m (pc + 3) ls (.int (w_i (x_h z n) 3) :: rest))) : W p l e R s m args below meth c H locs cells slots Q (F0 m pc ls (.ref (h (35 + 2 * n)) :: rest)) :=
  va_getN hC.1 hC.2.1 hC.2.2.2.2 inX2 hC.2.2.2.1 hK.1 hP (35 + 2 * n) (wsX_h hn).1 rfl 3 (by decide) (hK.2.at bw_183) (fun _ h9 => h9) rfl hdg kk
theorem rc_X_H {z : wXS} {n1 n2 : Nat} (hn1 : n1 < 4) (hn2 : n2 < 4) {sp dp n : Int32} (hC : CallFix p m c cc nL s args BIG RX5) (hK : wKK G s) (hP : va_P G.1 vwCl (wsX G h z) H) (hD : va_D A (wsX G h z)) (hS : va_S A s.heap H locs) {lv : List (Nat × Value)} (hl : lv_has ls nL lv) (hF : 1 ≤ R.frames) (hL : 40 ≤ R.locals) (h1 : ¬ sp < 0) (h2 : ¬ dp < 0) (h3 : ¬ n < 0) (h4 : sp.toNatClampNeg + n.toNatClampNeg ≤ 24) (h5 : dp.toNatClampNeg + n.toNatClampNeg ≤ 24) (hdg : decode cc pc = .ok (.invokestatic 255, 3)) (kk : ∀ (z1 : wXS) (H1 : Heap) (locs1 : List Loc), z1 = (x_sh z n2 (w_sl (x_h z n2) 0 (va_cpy (w_l (x_h z n1) 0) (w_l (x_h z n2) 0) sp.toNatClampNeg dp.toNatClampNeg n.toNatClampNeg))) → va_P G.1 vwCl (wsX G h z1) H1 → va_D A (wsX G h z1) → va_S A s.heap H1 locs1 → W p l e R s m args below meth c H1 locs1 cells slots Q (F0 m (pc + 3) ls [])) : W p l e R s m args below meth c H locs cells slots Q (F0 m pc ls [.int n, .int dp, .ref (h (36 + 2 * n2)), .int sp, .ref (h (36 + 2 * n1))]) :=
  va_copyl hC.1 hC.2.1 (hC.2.2.1.trans hl.1.symm) hC.2.2.2.1 (hC.2.2.2.2 _ bw_579) (hC.2.2.2.2 _ bw_332) (hC.2.2.2.2 _ bw_331) (hC.2.2.2.2 _ bw_9) hK.1 hP hD hS (36 + 2 * n1) (36 + 2 * n2) 2 2 (wsX_h hn1).2 (wsX_h hn2).2 rfl rfl rfl h1 h2 h3 h4 h5 (fun _ _ => rfl) hF (Nat.le_trans (Nat.le_of_ble_eq_true rfl) hL) hdg (fun H1 locs1 hP1 hD1 hS1 => kk (x_sh z n2 (w_sl (x_h z n2) 0 (va_cpy (w_l (x_h z n1) 0) (w_l (x_h z n2) 0) sp.toNatClampNeg dp.toNatClampNeg n.toNatClampNeg))) H1 locs1 rfl ((wsX_hs hn2 _) ▸ hP1) ((wsX_hs hn2 _) ▸ hD1) hS1)
theorem rg_M_X6_0_5 {z : wSt} (hC : CallFix p m c cc nL s args BIG RX6) (hK : wKK G s) (hP : va_P G.1 vwCl (wsM G h z) H) (hdg : decode cc pc = .ok (.getfield 72, 3)) (kk : W p l e R s m args below meth c H locs cells slots Q (F0 m (pc + 3) ls (.int (w_i z 5) :: rest))) : W p l e R s m args below meth c H locs cells slots Q (F0 m pc ls (.ref (h 0) :: rest)) :=
  va_get hC.1 hC.2.1 hC.2.2.2.2 inX6 hC.2.2.2.1 hK.1 hP 0 rfl rfl 5 (by decide) (hC.2.2.2.2 _ bw_591) (fun _ h9 => h9) rfl hdg kk
theorem calX6_in : xCalS yX6_in cX6_in 6 (some .boolean) 3 := ⟨bw_701, bw_7, bw_702, by decide +kernel, by decide +kernel, by decide +kernel⟩
theorem rg_M_X6_0_0 {z : wSt} (hC : CallFix p m c cc nL s args BIG RX6) (hK : wKK G s) (hP : va_P G.1 vwCl (wsM G h z) H) (hdg : decode cc pc = .ok (.getfield 7, 3)) (kk : W p l e R s m args below meth c H locs cells slots Q (F0 m (pc + 3) ls (.ref (h 1) :: rest))) : W p l e R s m args below meth c H locs cells slots Q (F0 m pc ls (.ref (h 0) :: rest)) :=
  va_get hC.1 hC.2.1 hC.2.2.2.2 inX6 hC.2.2.2.1 hK.1 hP 0 rfl rfl 0 (by decide) (hC.2.2.2.2 _ bw_586) (fun _ h9 => h9) rfl hdg kk
theorem rs_M_1 {z : wSt} {i : Int32} {v : Int32} (hC : CallFix p m c cc nL s args BIG own) (hK : wKK G s) (hP : va_P G.1 vwCl (wsM G h z) H) (hD : va_D A (wsM G h z)) (hS : va_S A s.heap H locs) (hin : vp_in i 6) (hdg : decode cc pc = .ok (.iastore, 1)) (kk : ∀ (z1 : wSt) (H1 : Heap) (locs1 : List Loc), z1 = (w_sa z 0 (upd (w_a z 0) i.toNatClampNeg v)) → va_P G.1 vwCl (wsM G h z1) H1 → va_D A (wsM G h z1) → va_S A s.heap H1 locs1 → W p l e R s m args below meth c H1 locs1 cells slots Q (F0 m (pc + 1) ls rest)) : W p l e R s m args below meth c H locs cells slots Q (F0 m pc ls (.int v :: .int i :: .ref (h 1) :: rest)) :=
  va_iast hC.1 hC.2.1 hK.1 hP hD hS 1 0 rfl rfl hin hdg (fun H1 locs1 hP1 hD1 hS1 => kk (w_sa z 0 (upd (w_a z 0) i.toNatClampNeg v)) H1 locs1 rfl hP1 hD1 hS1)
theorem rg_M_X6_0_1 {z : wSt} (hC : CallFix p m c cc nL s args BIG RX6) (hK : wKK G s) (hP : va_P G.1 vwCl (wsM G h z) H) (hdg : decode cc pc = .ok (.getfield 13, 3)) (kk : W p l e R s m args below meth c H locs cells slots Q (F0 m (pc + 3) ls (.ref (h 2) :: rest))) : W p l e R s m args below meth c H locs cells slots Q (F0 m pc ls (.ref (h 0) :: rest)) :=
  va_get hC.1 hC.2.1 hC.2.2.2.2 inX6 hC.2.2.2.1 hK.1 hP 0 rfl rfl 1 (by decide) (hC.2.2.2.2 _ bw_587) (fun _ h9 => h9) rfl hdg kk
theorem rs_M_2 {z : wSt} {i : Int32} {v : Int32} (hC : CallFix p m c cc nL s args BIG own) (hK : wKK G s) (hP : va_P G.1 vwCl (wsM G h z) H) (hD : va_D A (wsM G h z)) (hS : va_S A s.heap H locs) (hin : vp_in i 6) (hdg : decode cc pc = .ok (.iastore, 1)) (kk : ∀ (z1 : wSt) (H1 : Heap) (locs1 : List Loc), z1 = (w_sa z 1 (upd (w_a z 1) i.toNatClampNeg v)) → va_P G.1 vwCl (wsM G h z1) H1 → va_D A (wsM G h z1) → va_S A s.heap H1 locs1 → W p l e R s m args below meth c H1 locs1 cells slots Q (F0 m (pc + 1) ls rest)) : W p l e R s m args below meth c H locs cells slots Q (F0 m pc ls (.int v :: .int i :: .ref (h 2) :: rest)) :=
  va_iast hC.1 hC.2.1 hK.1 hP hD hS 2 0 rfl rfl hin hdg (fun H1 locs1 hP1 hD1 hS1 => kk (w_sa z 1 (upd (w_a z 1) i.toNatClampNeg v)) H1 locs1 rfl hP1 hD1 hS1)
theorem rg_M_X6_0_2 {z : wSt} (hC : CallFix p m c cc nL s args BIG RX6) (hK : wKK G s) (hP : va_P G.1 vwCl (wsM G h z) H) (hdg : decode cc pc = .ok (.getfield 16, 3)) (kk : W p l e R s m args below meth c H locs cells slots Q (F0 m (pc + 3) ls (.ref (h 3) :: rest))) : W p l e R s m args below meth c H locs cells slots Q (F0 m pc ls (.ref (h 0) :: rest)) :=
  va_get hC.1 hC.2.1 hC.2.2.2.2 inX6 hC.2.2.2.1 hK.1 hP 0 rfl rfl 2 (by decide) (hC.2.2.2.2 _ bw_588) (fun _ h9 => h9) rfl hdg kk
theorem rs_M_3 {z : wSt} {i : Int32} {v : Int32} (hC : CallFix p m c cc nL s args BIG own) (hK : wKK G s) (hP : va_P G.1 vwCl (wsM G h z) H) (hD : va_D A (wsM G h z)) (hS : va_S A s.heap H locs) (hin : vp_in i 6) (hdg : decode cc pc = .ok (.iastore, 1)) (kk : ∀ (z1 : wSt) (H1 : Heap) (locs1 : List Loc), z1 = (w_sa z 2 (upd (w_a z 2) i.toNatClampNeg v)) → va_P G.1 vwCl (wsM G h z1) H1 → va_D A (wsM G h z1) → va_S A s.heap H1 locs1 → W p l e R s m args below meth c H1 locs1 cells slots Q (F0 m (pc + 1) ls rest)) : W p l e R s m args below meth c H locs cells slots Q (F0 m pc ls (.int v :: .int i :: .ref (h 3) :: rest)) :=
  va_iast hC.1 hC.2.1 hK.1 hP hD hS 3 0 rfl rfl hin hdg (fun H1 locs1 hP1 hD1 hS1 => kk (w_sa z 2 (upd (w_a z 2) i.toNatClampNeg v)) H1 locs1 rfl hP1 hD1 hS1)
theorem rg_M_X6_0_3 {z : wSt} (hC : CallFix p m c cc nL s args BIG RX6) (hK : wKK G s) (hP : va_P G.1 vwCl (wsM G h z) H) (hdg : decode cc pc = .ok (.getfield 19, 3)) (kk : W p l e R s m args below meth c H locs cells slots Q (F0 m (pc + 3) ls (.ref (h 4) :: rest))) : W p l e R s m args below meth c H locs cells slots Q (F0 m pc ls (.ref (h 0) :: rest)) :=
  va_get hC.1 hC.2.1 hC.2.2.2.2 inX6 hC.2.2.2.1 hK.1 hP 0 rfl rfl 3 (by decide) (hC.2.2.2.2 _ bw_589) (fun _ h9 => h9) rfl hdg kk
theorem rs_M_4 {z : wSt} {i : Int32} {v : Int32} (hC : CallFix p m c cc nL s args BIG own) (hK : wKK G s) (hP : va_P G.1 vwCl (wsM G h z) H) (hD : va_D A (wsM G h z)) (hS : va_S A s.heap H locs) (hin : vp_in i 6) (hdg : decode cc pc = .ok (.iastore, 1)) (kk : ∀ (z1 : wSt) (H1 : Heap) (locs1 : List Loc), z1 = (w_sa z 3 (upd (w_a z 3) i.toNatClampNeg v)) → va_P G.1 vwCl (wsM G h z1) H1 → va_D A (wsM G h z1) → va_S A s.heap H1 locs1 → W p l e R s m args below meth c H1 locs1 cells slots Q (F0 m (pc + 1) ls rest)) : W p l e R s m args below meth c H locs cells slots Q (F0 m pc ls (.int v :: .int i :: .ref (h 4) :: rest)) :=
  va_iast hC.1 hC.2.1 hK.1 hP hD hS 4 0 rfl rfl hin hdg (fun H1 locs1 hP1 hD1 hS1 => kk (w_sa z 3 (upd (w_a z 3) i.toNatClampNeg v)) H1 locs1 rfl hP1 hD1 hS1)
theorem rg_M_X6_0_4 {z : wSt} (hC : CallFix p m c cc nL s args BIG RX6) (hK : wKK G s) (hP : va_P G.1 vwCl (wsM G h z) H) (hdg : decode cc pc = .ok (.getfield 22, 3)) (kk : W p l e R s m args below meth c H locs cells slots Q (F0 m (pc + 3) ls (.ref (h 5) :: rest))) : W p l e R s m args below meth c H locs cells slots Q (F0 m pc ls (.ref (h 0) :: rest)) :=
  va_get hC.1 hC.2.1 hC.2.2.2.2 inX6 hC.2.2.2.1 hK.1 hP 0 rfl rfl 4 (by decide) (hC.2.2.2.2 _ bw_590) (fun _ h9 => h9) rfl hdg kk
theorem rs_M_5 {z : wSt} {i : Int32} {v : Int32} (hC : CallFix p m c cc nL s args BIG own) (hK : wKK G s) (hP : va_P G.1 vwCl (wsM G h z) H) (hD : va_D A (wsM G h z)) (hS : va_S A s.heap H locs) (hin : vp_in i 6) (hdg : decode cc pc = .ok (.iastore, 1)) (kk : ∀ (z1 : wSt) (H1 : Heap) (locs1 : List Loc), z1 = (w_sa z 4 (upd (w_a z 4) i.toNatClampNeg v)) → va_P G.1 vwCl (wsM G h z1) H1 → va_D A (wsM G h z1) → va_S A s.heap H1 locs1 → W p l e R s m args below meth c H1 locs1 cells slots Q (F0 m (pc + 1) ls rest)) : W p l e R s m args below meth c H locs cells slots Q (F0 m pc ls (.int v :: .int i :: .ref (h 5) :: rest)) :=
  va_iast hC.1 hC.2.1 hK.1 hP hD hS 5 0 rfl rfl hin hdg (fun H1 locs1 hP1 hD1 hS1 => kk (w_sa z 4 (upd (w_a z 4) i.toNatClampNeg v)) H1 locs1 rfl hP1 hD1 hS1)
theorem rp_M_X6_0_5 {z : wSt} {v : Int32} (hC : CallFix p m c cc nL s args BIG RX6) (hK : wKK G s) (hP : va_P G.1 vwCl (wsM G h z) H) (hD : va_D A (wsM G h z)) (hS : va_S A s.heap H locs) (hdg : decode cc pc = .ok (.putfield 72, 3)) (kk : ∀ (z1 : wSt) (H1 : Heap) (locs1 : List Loc), z1 = (w_si z 5 v) → va_P G.1 vwCl (wsM G h z1) H1 → va_D A (wsM G h z1) → va_S A s.heap H1 locs1 → W p l e R s m args below meth c H1 locs1 cells slots Q (F0 m (pc + 3) ls rest)) : W p l e R s m args below meth c H locs cells slots Q (F0 m pc ls (.int v :: .ref (h 0) :: rest)) :=
  va_put hC.1 hC.2.1 hC.2.2.2.2 inX6 tyX6 tyX6_ok nmX6 hC.2.2.2.1 hK.1 hP hD hS 0 rfl rfl 5 (by decide) (hC.2.2.2.2 _ bw_591) (fun _ h9 => h9) rfl (ty := .int) (v := .int v) (by decide +kernel) rfl rfl (Nat.le_of_ble_eq_true rfl) hdg (fun H1 locs1 hP1 hD1 hS1 => kk (w_si z 5 v) H1 locs1 rfl hP1 hD1 hS1)
theorem calX6_add : xCalV yX6_add cX6_add 4 none 3 := ⟨bw_707, bs_41, bw_7, bw_708, by decide +kernel, by decide +kernel, by decide +kernel⟩
theorem calX6_isOne : xCalV yX6_isOne cX6_isOne 2 (some .boolean) 1 := ⟨bw_715, bs_42, bw_7, bw_716, by decide +kernel, by decide +kernel, by decide +kernel⟩
theorem rl_M_5 {z : wSt} {i : Int32} (hC : CallFix p m c cc nL s args BIG own) (hK : wKK G s) (hP : va_P G.1 vwCl (wsM G h z) H) (hin : vp_in i 6) (hdg : decode cc pc = .ok (.iaload, 1)) (kk : W p l e R s m args below meth c H locs cells slots Q (F0 m (pc + 1) ls (.int ((w_a z 4) i.toNatClampNeg) :: rest))) : W p l e R s m args below meth c H locs cells slots Q (F0 m pc ls (.int i :: .ref (h 5) :: rest)) :=
  va_iald hC.1 hC.2.1 hK.1 hP 5 0 rfl rfl hin hdg kk
theorem rg_M_X6_0_11 {z : wSt} (hC : CallFix p m c cc nL s args BIG RX6) (hK : wKK G s) (hP : va_P G.1 vwCl (wsM G h z) H) (hdg : decode cc pc = .ok (.getfield 98, 3)) (kk : W p l e R s m args below meth c H locs cells slots Q (F0 m (pc + 3) ls (.int (w_i z 11) :: rest))) : W p l e R s m args below meth c H locs cells slots Q (F0 m pc ls (.ref (h 0) :: rest)) :=
  va_get hC.1 hC.2.1 hC.2.2.2.2 inX6 hC.2.2.2.1 hK.1 hP 0 rfl rfl 11 (by decide) (hC.2.2.2.2 _ bw_597) (fun _ h9 => h9) rfl hdg kk
theorem rl_M_4 {z : wSt} {i : Int32} (hC : CallFix p m c cc nL s args BIG own) (hK : wKK G s) (hP : va_P G.1 vwCl (wsM G h z) H) (hin : vp_in i 6) (hdg : decode cc pc = .ok (.iaload, 1)) (kk : W p l e R s m args below meth c H locs cells slots Q (F0 m (pc + 1) ls (.int ((w_a z 3) i.toNatClampNeg) :: rest))) : W p l e R s m args below meth c H locs cells slots Q (F0 m pc ls (.int i :: .ref (h 4) :: rest)) :=
  va_iald hC.1 hC.2.1 hK.1 hP 4 0 rfl rfl hin hdg kk
theorem rl_M_3 {z : wSt} {i : Int32} (hC : CallFix p m c cc nL s args BIG own) (hK : wKK G s) (hP : va_P G.1 vwCl (wsM G h z) H) (hin : vp_in i 6) (hdg : decode cc pc = .ok (.iaload, 1)) (kk : W p l e R s m args below meth c H locs cells slots Q (F0 m (pc + 1) ls (.int ((w_a z 2) i.toNatClampNeg) :: rest))) : W p l e R s m args below meth c H locs cells slots Q (F0 m pc ls (.int i :: .ref (h 3) :: rest)) :=
  va_iald hC.1 hC.2.1 hK.1 hP 3 0 rfl rfl hin hdg kk
theorem rl_M_2 {z : wSt} {i : Int32} (hC : CallFix p m c cc nL s args BIG own) (hK : wKK G s) (hP : va_P G.1 vwCl (wsM G h z) H) (hin : vp_in i 6) (hdg : decode cc pc = .ok (.iaload, 1)) (kk : W p l e R s m args below meth c H locs cells slots Q (F0 m (pc + 1) ls (.int ((w_a z 1) i.toNatClampNeg) :: rest))) : W p l e R s m args below meth c H locs cells slots Q (F0 m pc ls (.int i :: .ref (h 2) :: rest)) :=
  va_iald hC.1 hC.2.1 hK.1 hP 2 0 rfl rfl hin hdg kk
theorem rl_M_1 {z : wSt} {i : Int32} (hC : CallFix p m c cc nL s args BIG own) (hK : wKK G s) (hP : va_P G.1 vwCl (wsM G h z) H) (hin : vp_in i 6) (hdg : decode cc pc = .ok (.iaload, 1)) (kk : W p l e R s m args below meth c H locs cells slots Q (F0 m (pc + 1) ls (.int ((w_a z 0) i.toNatClampNeg) :: rest))) : W p l e R s m args below meth c H locs cells slots Q (F0 m pc ls (.int i :: .ref (h 1) :: rest)) :=
  va_iald hC.1 hC.2.1 hK.1 hP 1 0 rfl rfl hin hdg kk
theorem calX6_setQuarrel : xCalV yX6_setQuarrel cX6_setQuarrel 4 none 3 := ⟨bw_725, bs_43, bw_7, bw_726, by decide +kernel, by decide +kernel, by decide +kernel⟩
theorem calX6_isMood : xCalS yX6_isMood cX6_isMood 1 (some .boolean) 1 := ⟨bw_733, bw_7, bw_734, by decide +kernel, by decide +kernel, by decide +kernel⟩
theorem rg_M_X6_0_8 {z : wSt} (hC : CallFix p m c cc nL s args BIG RX6) (hK : wKK G s) (hP : va_P G.1 vwCl (wsM G h z) H) (hdg : decode cc pc = .ok (.getfield 29, 3)) (kk : W p l e R s m args below meth c H locs cells slots Q (F0 m (pc + 3) ls (.int (w_i z 8) :: rest))) : W p l e R s m args below meth c H locs cells slots Q (F0 m pc ls (.ref (h 0) :: rest)) :=
  va_get hC.1 hC.2.1 hC.2.2.2.2 inX6 hC.2.2.2.1 hK.1 hP 0 rfl rfl 8 (by decide) (hC.2.2.2.2 _ bw_594) (fun _ h9 => h9) rfl hdg kk
theorem rg_M_X6_0_7 {z : wSt} (hC : CallFix p m c cc nL s args BIG RX6) (hK : wKK G s) (hP : va_P G.1 vwCl (wsM G h z) H) (hdg : decode cc pc = .ok (.getfield 25, 3)) (kk : W p l e R s m args below meth c H locs cells slots Q (F0 m (pc + 3) ls (.int (w_i z 7) :: rest))) : W p l e R s m args below meth c H locs cells slots Q (F0 m pc ls (.ref (h 0) :: rest)) :=
  va_get hC.1 hC.2.1 hC.2.2.2.2 inX6 hC.2.2.2.1 hK.1 hP 0 rfl rfl 7 (by decide) (hC.2.2.2.2 _ bw_593) (fun _ h9 => h9) rfl hdg kk
theorem rg_M_X6_0_6 {z : wSt} (hC : CallFix p m c cc nL s args BIG RX6) (hK : wKK G s) (hP : va_P G.1 vwCl (wsM G h z) H) (hdg : decode cc pc = .ok (.getfield 112, 3)) (kk : W p l e R s m args below meth c H locs cells slots Q (F0 m (pc + 3) ls (.int (w_i z 6) :: rest))) : W p l e R s m args below meth c H locs cells slots Q (F0 m pc ls (.ref (h 0) :: rest)) :=
  va_get hC.1 hC.2.1 hC.2.2.2.2 inX6 hC.2.2.2.1 hK.1 hP 0 rfl rfl 6 (by decide) (hC.2.2.2.2 _ bw_592) (fun _ h9 => h9) rfl hdg kk
theorem rp_M_X6_0_6 {z : wSt} {v : Int32} (hC : CallFix p m c cc nL s args BIG RX6) (hK : wKK G s) (hP : va_P G.1 vwCl (wsM G h z) H) (hD : va_D A (wsM G h z)) (hS : va_S A s.heap H locs) (hdg : decode cc pc = .ok (.putfield 112, 3)) (kk : ∀ (z1 : wSt) (H1 : Heap) (locs1 : List Loc), z1 = (w_si z 6 v) → va_P G.1 vwCl (wsM G h z1) H1 → va_D A (wsM G h z1) → va_S A s.heap H1 locs1 → W p l e R s m args below meth c H1 locs1 cells slots Q (F0 m (pc + 3) ls rest)) : W p l e R s m args below meth c H locs cells slots Q (F0 m pc ls (.int v :: .ref (h 0) :: rest)) :=
  va_put hC.1 hC.2.1 hC.2.2.2.2 inX6 tyX6 tyX6_ok nmX6 hC.2.2.2.1 hK.1 hP hD hS 0 rfl rfl 6 (by decide) (hC.2.2.2.2 _ bw_592) (fun _ h9 => h9) rfl (ty := .int) (v := .int v) (by decide +kernel) rfl rfl (Nat.le_of_ble_eq_true rfl) hdg (fun H1 locs1 hP1 hD1 hS1 => kk (w_si z 6 v) H1 locs1 rfl hP1 hD1 hS1)
theorem rp_M_X6_0_7 {z : wSt} {v : Int32} (hC : CallFix p m c cc nL s args BIG RX6) (hK : wKK G s) (hP : va_P G.1 vwCl (wsM G h z) H) (hD : va_D A (wsM G h z)) (hS : va_S A s.heap H locs) (hdg : decode cc pc = .ok (.putfield 25, 3)) (kk : ∀ (z1 : wSt) (H1 : Heap) (locs1 : List Loc), z1 = (w_si z 7 v) → va_P G.1 vwCl (wsM G h z1) H1 → va_D A (wsM G h z1) → va_S A s.heap H1 locs1 → W p l e R s m args below meth c H1 locs1 cells slots Q (F0 m (pc + 3) ls rest)) : W p l e R s m args below meth c H locs cells slots Q (F0 m pc ls (.int v :: .ref (h 0) :: rest)) :=
  va_put hC.1 hC.2.1 hC.2.2.2.2 inX6 tyX6 tyX6_ok nmX6 hC.2.2.2.1 hK.1 hP hD hS 0 rfl rfl 7 (by decide) (hC.2.2.2.2 _ bw_593) (fun _ h9 => h9) rfl (ty := .int) (v := .int v) (by decide +kernel) rfl rfl (Nat.le_of_ble_eq_true rfl) hdg (fun H1 locs1 hP1 hD1 hS1 => kk (w_si z 7 v) H1 locs1 rfl hP1 hD1 hS1)
theorem rp_M_X6_0_8 {z : wSt} {v : Int32} (hC : CallFix p m c cc nL s args BIG RX6) (hK : wKK G s) (hP : va_P G.1 vwCl (wsM G h z) H) (hD : va_D A (wsM G h z)) (hS : va_S A s.heap H locs) (hdg : decode cc pc = .ok (.putfield 29, 3)) (kk : ∀ (z1 : wSt) (H1 : Heap) (locs1 : List Loc), z1 = (w_si z 8 v) → va_P G.1 vwCl (wsM G h z1) H1 → va_D A (wsM G h z1) → va_S A s.heap H1 locs1 → W p l e R s m args below meth c H1 locs1 cells slots Q (F0 m (pc + 3) ls rest)) : W p l e R s m args below meth c H locs cells slots Q (F0 m pc ls (.int v :: .ref (h 0) :: rest)) :=
  va_put hC.1 hC.2.1 hC.2.2.2.2 inX6 tyX6 tyX6_ok nmX6 hC.2.2.2.1 hK.1 hP hD hS 0 rfl rfl 8 (by decide) (hC.2.2.2.2 _ bw_594) (fun _ h9 => h9) rfl (ty := .int) (v := .int v) (by decide +kernel) rfl rfl (Nat.le_of_ble_eq_true rfl) hdg (fun H1 locs1 hP1 hD1 hS1 => kk (w_si z 8 v) H1 locs1 rfl hP1 hD1 hS1)
theorem rg_M_X6_0_9 {z : wSt} (hC : CallFix p m c cc nL s args BIG RX6) (hK : wKK G s) (hP : va_P G.1 vwCl (wsM G h z) H) (hdg : decode cc pc = .ok (.getfield 115, 3)) (kk : W p l e R s m args below meth c H locs cells slots Q (F0 m (pc + 3) ls (.int (w_i z 9) :: rest))) : W p l e R s m args below meth c H locs cells slots Q (F0 m pc ls (.ref (h 0) :: rest)) :=
  va_get hC.1 hC.2.1 hC.2.2.2.2 inX6 hC.2.2.2.1 hK.1 hP 0 rfl rfl 9 (by decide) (hC.2.2.2.2 _ bw_595) (fun _ h9 => h9) rfl hdg kk
theorem rg_M_X6_0_10 {z : wSt} (hC : CallFix p m c cc nL s args BIG RX6) (hK : wKK G s) (hP : va_P G.1 vwCl (wsM G h z) H) (hdg : decode cc pc = .ok (.getfield 118, 3)) (kk : W p l e R s m args below meth c H locs cells slots Q (F0 m (pc + 3) ls (.int (w_i z 10) :: rest))) : W p l e R s m args below meth c H locs cells slots Q (F0 m pc ls (.ref (h 0) :: rest)) :=
  va_get hC.1 hC.2.1 hC.2.2.2.2 inX6 hC.2.2.2.1 hK.1 hP 0 rfl rfl 10 (by decide) (hC.2.2.2.2 _ bw_596) (fun _ h9 => h9) rfl hdg kk
theorem rg_M_X6_0_14 {z : wSt} (hC : CallFix p m c cc nL s args BIG RX6) (hK : wKK G s) (hP : va_P G.1 vwCl (wsM G h z) H) (hdg : decode cc pc = .ok (.getfield 121, 3)) (kk : W p l e R s m args below meth c H locs cells slots Q (F0 m (pc + 3) ls (.int (w_i z 14) :: rest))) : W p l e R s m args below meth c H locs cells slots Q (F0 m pc ls (.ref (h 0) :: rest)) :=
  va_get hC.1 hC.2.1 hC.2.2.2.2 inX6 hC.2.2.2.1 hK.1 hP 0 rfl rfl 14 (by decide) (hC.2.2.2.2 _ bw_600) (fun _ h9 => h9) rfl hdg kk
theorem rg_M_X6_0_12 {z : wSt} (hC : CallFix p m c cc nL s args BIG RX6) (hK : wKK G s) (hP : va_P G.1 vwCl (wsM G h z) H) (hdg : decode cc pc = .ok (.getfield 32, 3)) (kk : W p l e R s m args below meth c H locs cells slots Q (F0 m (pc + 3) ls (.int (w_i z 12) :: rest))) : W p l e R s m args below meth c H locs cells slots Q (F0 m pc ls (.ref (h 0) :: rest)) :=
  va_get hC.1 hC.2.1 hC.2.2.2.2 inX6 hC.2.2.2.1 hK.1 hP 0 rfl rfl 12 (by decide) (hC.2.2.2.2 _ bw_598) (fun _ h9 => h9) rfl hdg kk
theorem rg_M_X6_0_17 {z : wSt} (hC : CallFix p m c cc nL s args BIG RX6) (hK : wKK G s) (hP : va_P G.1 vwCl (wsM G h z) H) (hdg : decode cc pc = .ok (.getfield 132, 3)) (kk : W p l e R s m args below meth c H locs cells slots Q (F0 m (pc + 3) ls (.int (w_i z 17) :: rest))) : W p l e R s m args below meth c H locs cells slots Q (F0 m pc ls (.ref (h 0) :: rest)) :=
  va_get hC.1 hC.2.1 hC.2.2.2.2 inX6 hC.2.2.2.1 hK.1 hP 0 rfl rfl 17 (by decide) (hC.2.2.2.2 _ bw_603) (fun _ h9 => h9) rfl hdg kk
theorem rg_M_X6_0_16 {z : wSt} (hC : CallFix p m c cc nL s args BIG RX6) (hK : wKK G s) (hP : va_P G.1 vwCl (wsM G h z) H) (hdg : decode cc pc = .ok (.getfield 41, 3)) (kk : W p l e R s m args below meth c H locs cells slots Q (F0 m (pc + 3) ls (.ref (h 7) :: rest))) : W p l e R s m args below meth c H locs cells slots Q (F0 m pc ls (.ref (h 0) :: rest)) :=
  va_get hC.1 hC.2.1 hC.2.2.2.2 inX6 hC.2.2.2.1 hK.1 hP 0 rfl rfl 16 (by decide) (hC.2.2.2.2 _ bw_602) (fun _ h9 => h9) rfl hdg kk
theorem rs_M_7 {z : wSt} {i : Int32} {v : Int32} (hC : CallFix p m c cc nL s args BIG own) (hK : wKK G s) (hP : va_P G.1 vwCl (wsM G h z) H) (hD : va_D A (wsM G h z)) (hS : va_S A s.heap H locs) (hin : vp_in i 60) (hdg : decode cc pc = .ok (.iastore, 1)) (kk : ∀ (z1 : wSt) (H1 : Heap) (locs1 : List Loc), z1 = (w_sa z 16 (upd (w_a z 16) i.toNatClampNeg v)) → va_P G.1 vwCl (wsM G h z1) H1 → va_D A (wsM G h z1) → va_S A s.heap H1 locs1 → W p l e R s m args below meth c H1 locs1 cells slots Q (F0 m (pc + 1) ls rest)) : W p l e R s m args below meth c H locs cells slots Q (F0 m pc ls (.int v :: .int i :: .ref (h 7) :: rest)) :=
  va_iast hC.1 hC.2.1 hK.1 hP hD hS 7 0 rfl rfl hin hdg (fun H1 locs1 hP1 hD1 hS1 => kk (w_sa z 16 (upd (w_a z 16) i.toNatClampNeg v)) H1 locs1 rfl hP1 hD1 hS1)
theorem rp_M_X6_0_17 {z : wSt} {v : Int32} (hC : CallFix p m c cc nL s args BIG RX6) (hK : wKK G s) (hP : va_P G.1 vwCl (wsM G h z) H) (hD : va_D A (wsM G h z)) (hS : va_S A s.heap H locs) (hdg : decode cc pc = .ok (.putfield 132, 3)) (kk : ∀ (z1 : wSt) (H1 : Heap) (locs1 : List Loc), z1 = (w_si z 17 v) → va_P G.1 vwCl (wsM G h z1) H1 → va_D A (wsM G h z1) → va_S A s.heap H1 locs1 → W p l e R s m args below meth c H1 locs1 cells slots Q (F0 m (pc + 3) ls rest)) : W p l e R s m args below meth c H locs cells slots Q (F0 m pc ls (.int v :: .ref (h 0) :: rest)) :=
  va_put hC.1 hC.2.1 hC.2.2.2.2 inX6 tyX6 tyX6_ok nmX6 hC.2.2.2.1 hK.1 hP hD hS 0 rfl rfl 17 (by decide) (hC.2.2.2.2 _ bw_603) (fun _ h9 => h9) rfl (ty := .int) (v := .int v) (by decide +kernel) rfl rfl (Nat.le_of_ble_eq_true rfl) hdg (fun H1 locs1 hP1 hD1 hS1 => kk (w_si z 17 v) H1 locs1 rfl hP1 hD1 hS1)
theorem rg_M_X6_0_18 {z : wSt} (hC : CallFix p m c cc nL s args BIG RX6) (hK : wKK G s) (hP : va_P G.1 vwCl (wsM G h z) H) (hdg : decode cc pc = .ok (.getfield 135, 3)) (kk : W p l e R s m args below meth c H locs cells slots Q (F0 m (pc + 3) ls (.int (w_i z 18) :: rest))) : W p l e R s m args below meth c H locs cells slots Q (F0 m pc ls (.ref (h 0) :: rest)) :=
  va_get hC.1 hC.2.1 hC.2.2.2.2 inX6 hC.2.2.2.1 hK.1 hP 0 rfl rfl 18 (by decide) (hC.2.2.2.2 _ bw_604) (fun _ h9 => h9) rfl hdg kk
theorem rl_M_7 {z : wSt} {i : Int32} (hC : CallFix p m c cc nL s args BIG own) (hK : wKK G s) (hP : va_P G.1 vwCl (wsM G h z) H) (hin : vp_in i 60) (hdg : decode cc pc = .ok (.iaload, 1)) (kk : W p l e R s m args below meth c H locs cells slots Q (F0 m (pc + 1) ls (.int ((w_a z 16) i.toNatClampNeg) :: rest))) : W p l e R s m args below meth c H locs cells slots Q (F0 m pc ls (.int i :: .ref (h 7) :: rest)) :=
  va_iald hC.1 hC.2.1 hK.1 hP 7 0 rfl rfl hin hdg kk
theorem rp_M_X6_0_18 {z : wSt} {v : Int32} (hC : CallFix p m c cc nL s args BIG RX6) (hK : wKK G s) (hP : va_P G.1 vwCl (wsM G h z) H) (hD : va_D A (wsM G h z)) (hS : va_S A s.heap H locs) (hdg : decode cc pc = .ok (.putfield 135, 3)) (kk : ∀ (z1 : wSt) (H1 : Heap) (locs1 : List Loc), z1 = (w_si z 18 v) → va_P G.1 vwCl (wsM G h z1) H1 → va_D A (wsM G h z1) → va_S A s.heap H1 locs1 → W p l e R s m args below meth c H1 locs1 cells slots Q (F0 m (pc + 3) ls rest)) : W p l e R s m args below meth c H locs cells slots Q (F0 m pc ls (.int v :: .ref (h 0) :: rest)) :=
  va_put hC.1 hC.2.1 hC.2.2.2.2 inX6 tyX6 tyX6_ok nmX6 hC.2.2.2.1 hK.1 hP hD hS 0 rfl rfl 18 (by decide) (hC.2.2.2.2 _ bw_604) (fun _ h9 => h9) rfl (ty := .int) (v := .int v) (by decide +kernel) rfl rfl (Nat.le_of_ble_eq_true rfl) hdg (fun H1 locs1 hP1 hD1 hS1 => kk (w_si z 18 v) H1 locs1 rfl hP1 hD1 hS1)
theorem calX6_nextByte : xCalV yX6_nextByte cX6_nextByte 1 (some .int) 0 := ⟨bw_763, bs_46, bw_7, bw_764, by decide +kernel, by decide +kernel, by decide +kernel⟩
theorem rg_M_X6_0_20 {z : wSt} (hC : CallFix p m c cc nL s args BIG RX6) (hK : wKK G s) (hP : va_P G.1 vwCl (wsM G h z) H) (hdg : decode cc pc = .ok (.getfield 44, 3)) (kk : W p l e R s m args below meth c H locs cells slots Q (F0 m (pc + 3) ls (.ref (h 8) :: rest))) : W p l e R s m args below meth c H locs cells slots Q (F0 m pc ls (.ref (h 0) :: rest)) :=
  va_get hC.1 hC.2.1 hC.2.2.2.2 inX6 hC.2.2.2.1 hK.1 hP 0 rfl rfl 20 (by decide) (hC.2.2.2.2 _ bw_606) (fun _ h9 => h9) rfl hdg kk
theorem rs_M_8 {z : wSt} {i : Int32} {v : Int32} (hC : CallFix p m c cc nL s args BIG own) (hK : wKK G s) (hP : va_P G.1 vwCl (wsM G h z) H) (hD : va_D A (wsM G h z)) (hS : va_S A s.heap H locs) (hin : vp_in i 24) (hdg : decode cc pc = .ok (.iastore, 1)) (kk : ∀ (z1 : wSt) (H1 : Heap) (locs1 : List Loc), z1 = (w_sa z 20 (upd (w_a z 20) i.toNatClampNeg v)) → va_P G.1 vwCl (wsM G h z1) H1 → va_D A (wsM G h z1) → va_S A s.heap H1 locs1 → W p l e R s m args below meth c H1 locs1 cells slots Q (F0 m (pc + 1) ls rest)) : W p l e R s m args below meth c H locs cells slots Q (F0 m pc ls (.int v :: .int i :: .ref (h 8) :: rest)) :=
  va_iast hC.1 hC.2.1 hK.1 hP hD hS 8 0 rfl rfl hin hdg (fun H1 locs1 hP1 hD1 hS1 => kk (w_sa z 20 (upd (w_a z 20) i.toNatClampNeg v)) H1 locs1 rfl hP1 hD1 hS1)
theorem rl_M_8 {z : wSt} {i : Int32} (hC : CallFix p m c cc nL s args BIG own) (hK : wKK G s) (hP : va_P G.1 vwCl (wsM G h z) H) (hin : vp_in i 24) (hdg : decode cc pc = .ok (.iaload, 1)) (kk : W p l e R s m args below meth c H locs cells slots Q (F0 m (pc + 1) ls (.int ((w_a z 20) i.toNatClampNeg) :: rest))) : W p l e R s m args below meth c H locs cells slots Q (F0 m pc ls (.int i :: .ref (h 8) :: rest)) :=
  va_iald hC.1 hC.2.1 hK.1 hP 8 0 rfl rfl hin hdg kk
theorem calX6_readDigit : xCalV yX6_readDigit cX6_readDigit 4 (some .int) 2 := ⟨bw_767, bs_47, bw_7, bw_768, by decide +kernel, by decide +kernel, by decide +kernel⟩
theorem calX6_readOne : xCalV yX6_readOne cX6_readOne 5 (some .boolean) 1 := ⟨bw_759, bs_45, bw_7, bw_760, by decide +kernel, by decide +kernel, by decide +kernel⟩
theorem rp_M_X6_0_19 {z : wSt} {v : Int32} (hC : CallFix p m c cc nL s args BIG RX6) (hK : wKK G s) (hP : va_P G.1 vwCl (wsM G h z) H) (hD : va_D A (wsM G h z)) (hS : va_S A s.heap H locs) (hdg : decode cc pc = .ok (.putfield 149, 3)) (kk : ∀ (z1 : wSt) (H1 : Heap) (locs1 : List Loc), z1 = (w_si z 19 v) → va_P G.1 vwCl (wsM G h z1) H1 → va_D A (wsM G h z1) → va_S A s.heap H1 locs1 → W p l e R s m args below meth c H1 locs1 cells slots Q (F0 m (pc + 3) ls rest)) : W p l e R s m args below meth c H locs cells slots Q (F0 m pc ls (.int v :: .ref (h 0) :: rest)) :=
  va_put hC.1 hC.2.1 hC.2.2.2.2 inX6 tyX6 tyX6_ok nmX6 hC.2.2.2.1 hK.1 hP hD hS 0 rfl rfl 19 (by decide) (hC.2.2.2.2 _ bw_605) (fun _ h9 => h9) rfl (ty := .int) (v := .int v) (by decide +kernel) rfl rfl (Nat.le_of_ble_eq_true rfl) hdg (fun H1 locs1 hP1 hD1 hS1 => kk (w_si z 19 v) H1 locs1 rfl hP1 hD1 hS1)
theorem calX6_readVillage : xCalV yX6_readVillage cX6_readVillage 3 (some .boolean) 0 := ⟨bw_755, bs_44, bw_7, bw_756, by decide +kernel, by decide +kernel, by decide +kernel⟩
theorem rp_M_X6_0_14 {z : wSt} {v : Int32} (hC : CallFix p m c cc nL s args BIG RX6) (hK : wKK G s) (hP : va_P G.1 vwCl (wsM G h z) H) (hD : va_D A (wsM G h z)) (hS : va_S A s.heap H locs) (hdg : decode cc pc = .ok (.putfield 121, 3)) (kk : ∀ (z1 : wSt) (H1 : Heap) (locs1 : List Loc), z1 = (w_si z 14 v) → va_P G.1 vwCl (wsM G h z1) H1 → va_D A (wsM G h z1) → va_S A s.heap H1 locs1 → W p l e R s m args below meth c H1 locs1 cells slots Q (F0 m (pc + 3) ls rest)) : W p l e R s m args below meth c H locs cells slots Q (F0 m pc ls (.int v :: .ref (h 0) :: rest)) :=
  va_put hC.1 hC.2.1 hC.2.2.2.2 inX6 tyX6 tyX6_ok nmX6 hC.2.2.2.1 hK.1 hP hD hS 0 rfl rfl 14 (by decide) (hC.2.2.2.2 _ bw_600) (fun _ h9 => h9) rfl (ty := .int) (v := .int v) (by decide +kernel) rfl rfl (Nat.le_of_ble_eq_true rfl) hdg (fun H1 locs1 hP1 hD1 hS1 => kk (w_si z 14 v) H1 locs1 rfl hP1 hD1 hS1)
theorem rp_M_X6_0_12 {z : wSt} {v : Int32} (hC : CallFix p m c cc nL s args BIG RX6) (hK : wKK G s) (hP : va_P G.1 vwCl (wsM G h z) H) (hD : va_D A (wsM G h z)) (hS : va_S A s.heap H locs) (hdg : decode cc pc = .ok (.putfield 32, 3)) (kk : ∀ (z1 : wSt) (H1 : Heap) (locs1 : List Loc), z1 = (w_si z 12 v) → va_P G.1 vwCl (wsM G h z1) H1 → va_D A (wsM G h z1) → va_S A s.heap H1 locs1 → W p l e R s m args below meth c H1 locs1 cells slots Q (F0 m (pc + 3) ls rest)) : W p l e R s m args below meth c H locs cells slots Q (F0 m pc ls (.int v :: .ref (h 0) :: rest)) :=
  va_put hC.1 hC.2.1 hC.2.2.2.2 inX6 tyX6 tyX6_ok nmX6 hC.2.2.2.1 hK.1 hP hD hS 0 rfl rfl 12 (by decide) (hC.2.2.2.2 _ bw_598) (fun _ h9 => h9) rfl (ty := .int) (v := .int v) (by decide +kernel) rfl rfl (Nat.le_of_ble_eq_true rfl) hdg (fun H1 locs1 hP1 hD1 hS1 => kk (w_si z 12 v) H1 locs1 rfl hP1 hD1 hS1)
theorem rg_M_X6_0_19 {z : wSt} (hC : CallFix p m c cc nL s args BIG RX6) (hK : wKK G s) (hP : va_P G.1 vwCl (wsM G h z) H) (hdg : decode cc pc = .ok (.getfield 149, 3)) (kk : W p l e R s m args below meth c H locs cells slots Q (F0 m (pc + 3) ls (.int (w_i z 19) :: rest))) : W p l e R s m args below meth c H locs cells slots Q (F0 m pc ls (.ref (h 0) :: rest)) :=
  va_get hC.1 hC.2.1 hC.2.2.2.2 inX6 hC.2.2.2.1 hK.1 hP 0 rfl rfl 19 (by decide) (hC.2.2.2.2 _ bw_605) (fun _ h9 => h9) rfl hdg kk
theorem calX6_readPlan : xCalV yX6_readPlan cX6_readPlan 2 (some .boolean) 0 := ⟨bw_775, bs_48, bw_7, bw_776, by decide +kernel, by decide +kernel, by decide +kernel⟩
theorem rg_M_X6_0_13 {z : wSt} (hC : CallFix p m c cc nL s args BIG RX6) (hK : wKK G s) (hP : va_P G.1 vwCl (wsM G h z) H) (hdg : decode cc pc = .ok (.getfield 35, 3)) (kk : W p l e R s m args below meth c H locs cells slots Q (F0 m (pc + 3) ls (.ref (h 6) :: rest))) : W p l e R s m args below meth c H locs cells slots Q (F0 m pc ls (.ref (h 0) :: rest)) :=
  va_get hC.1 hC.2.1 hC.2.2.2.2 inX6 hC.2.2.2.1 hK.1 hP 0 rfl rfl 13 (by decide) (hC.2.2.2.2 _ bw_599) (fun _ h9 => h9) rfl hdg kk
theorem rs_M_6 {z : wSt} {i : Int32} {v : Int32} (hC : CallFix p m c cc nL s args BIG own) (hK : wKK G s) (hP : va_P G.1 vwCl (wsM G h z) H) (hD : va_D A (wsM G h z)) (hS : va_S A s.heap H locs) (hin : vp_in i 24) (hdg : decode cc pc = .ok (.iastore, 1)) (kk : ∀ (z1 : wSt) (H1 : Heap) (locs1 : List Loc), z1 = (w_sa z 13 (upd (w_a z 13) i.toNatClampNeg v)) → va_P G.1 vwCl (wsM G h z1) H1 → va_D A (wsM G h z1) → va_S A s.heap H1 locs1 → W p l e R s m args below meth c H1 locs1 cells slots Q (F0 m (pc + 1) ls rest)) : W p l e R s m args below meth c H locs cells slots Q (F0 m pc ls (.int v :: .int i :: .ref (h 6) :: rest)) :=
  va_iast hC.1 hC.2.1 hK.1 hP hD hS 6 0 rfl rfl hin hdg (fun H1 locs1 hP1 hD1 hS1 => kk (w_sa z 13 (upd (w_a z 13) i.toNatClampNeg v)) H1 locs1 rfl hP1 hD1 hS1)
theorem rp_M_X6_0_21 {z : wSt} {v : Int32} (hC : CallFix p m c cc nL s args BIG RX6) (hK : wKK G s) (hP : va_P G.1 vwCl (wsM G h z) H) (hD : va_D A (wsM G h z)) (hS : va_S A s.heap H locs) (hdg : decode cc pc = .ok (.putfield 159, 3)) (kk : ∀ (z1 : wSt) (H1 : Heap) (locs1 : List Loc), z1 = (w_si z 21 v) → va_P G.1 vwCl (wsM G h z1) H1 → va_D A (wsM G h z1) → va_S A s.heap H1 locs1 → W p l e R s m args below meth c H1 locs1 cells slots Q (F0 m (pc + 3) ls rest)) : W p l e R s m args below meth c H locs cells slots Q (F0 m pc ls (.int v :: .ref (h 0) :: rest)) :=
  va_put hC.1 hC.2.1 hC.2.2.2.2 inX6 tyX6 tyX6_ok nmX6 hC.2.2.2.1 hK.1 hP hD hS 0 rfl rfl 21 (by decide) (hC.2.2.2.2 _ bw_607) (fun _ h9 => h9) rfl (ty := .int) (v := .int v) (by decide +kernel) rfl rfl (Nat.le_of_ble_eq_true rfl) hdg (fun H1 locs1 hP1 hD1 hS1 => kk (w_si z 21 v) H1 locs1 rfl hP1 hD1 hS1)
theorem rp_M_X6_0_22 {z : wSt} {v : Int32} (hC : CallFix p m c cc nL s args BIG RX6) (hK : wKK G s) (hP : va_P G.1 vwCl (wsM G h z) H) (hD : va_D A (wsM G h z)) (hS : va_S A s.heap H locs) (hdg : decode cc pc = .ok (.putfield 162, 3)) (kk : ∀ (z1 : wSt) (H1 : Heap) (locs1 : List Loc), z1 = (w_si z 22 v) → va_P G.1 vwCl (wsM G h z1) H1 → va_D A (wsM G h z1) → va_S A s.heap H1 locs1 → W p l e R s m args below meth c H1 locs1 cells slots Q (F0 m (pc + 3) ls rest)) : W p l e R s m args below meth c H locs cells slots Q (F0 m pc ls (.int v :: .ref (h 0) :: rest)) :=
  va_put hC.1 hC.2.1 hC.2.2.2.2 inX6 tyX6 tyX6_ok nmX6 hC.2.2.2.1 hK.1 hP hD hS 0 rfl rfl 22 (by decide) (hC.2.2.2.2 _ bw_608) (fun _ h9 => h9) rfl (ty := .int) (v := .int v) (by decide +kernel) rfl rfl (Nat.le_of_ble_eq_true rfl) hdg (fun H1 locs1 hP1 hD1 hS1 => kk (w_si z 22 v) H1 locs1 rfl hP1 hD1 hS1)
theorem rp_M_X6_0_23 {z : wSt} {v : Int32} (hC : CallFix p m c cc nL s args BIG RX6) (hK : wKK G s) (hP : va_P G.1 vwCl (wsM G h z) H) (hD : va_D A (wsM G h z)) (hS : va_S A s.heap H locs) (hdg : decode cc pc = .ok (.putfield 165, 3)) (kk : ∀ (z1 : wSt) (H1 : Heap) (locs1 : List Loc), z1 = (w_si z 23 v) → va_P G.1 vwCl (wsM G h z1) H1 → va_D A (wsM G h z1) → va_S A s.heap H1 locs1 → W p l e R s m args below meth c H1 locs1 cells slots Q (F0 m (pc + 3) ls rest)) : W p l e R s m args below meth c H locs cells slots Q (F0 m pc ls (.int v :: .ref (h 0) :: rest)) :=
  va_put hC.1 hC.2.1 hC.2.2.2.2 inX6 tyX6 tyX6_ok nmX6 hC.2.2.2.1 hK.1 hP hD hS 0 rfl rfl 23 (by decide) (hC.2.2.2.2 _ bw_609) (fun _ h9 => h9) rfl (ty := .int) (v := .int v) (by decide +kernel) rfl rfl (Nat.le_of_ble_eq_true rfl) hdg (fun H1 locs1 hP1 hD1 hS1 => kk (w_si z 23 v) H1 locs1 rfl hP1 hD1 hS1)
theorem rp_M_X6_0_24 {z : wSt} {v : Int32} (hC : CallFix p m c cc nL s args BIG RX6) (hK : wKK G s) (hP : va_P G.1 vwCl (wsM G h z) H) (hD : va_D A (wsM G h z)) (hS : va_S A s.heap H locs) (hdg : decode cc pc = .ok (.putfield 168, 3)) (kk : ∀ (z1 : wSt) (H1 : Heap) (locs1 : List Loc), z1 = (w_si z 24 v) → va_P G.1 vwCl (wsM G h z1) H1 → va_D A (wsM G h z1) → va_S A s.heap H1 locs1 → W p l e R s m args below meth c H1 locs1 cells slots Q (F0 m (pc + 3) ls rest)) : W p l e R s m args below meth c H locs cells slots Q (F0 m pc ls (.int v :: .ref (h 0) :: rest)) :=
  va_put hC.1 hC.2.1 hC.2.2.2.2 inX6 tyX6 tyX6_ok nmX6 hC.2.2.2.1 hK.1 hP hD hS 0 rfl rfl 24 (by decide) (hC.2.2.2.2 _ bw_610) (fun _ h9 => h9) rfl (ty := .int) (v := .int v) (by decide +kernel) rfl rfl (Nat.le_of_ble_eq_true rfl) hdg (fun H1 locs1 hP1 hD1 hS1 => kk (w_si z 24 v) H1 locs1 rfl hP1 hD1 hS1)
theorem rg_M_X6_0_27 {z : wSt} (hC : CallFix p m c cc nL s args BIG RX6) (hK : wKK G s) (hP : va_P G.1 vwCl (wsM G h z) H) (hdg : decode cc pc = .ok (.getfield 47, 3)) (kk : W p l e R s m args below meth c H locs cells slots Q (F0 m (pc + 3) ls (.ref (h 9) :: rest))) : W p l e R s m args below meth c H locs cells slots Q (F0 m pc ls (.ref (h 0) :: rest)) :=
  va_get hC.1 hC.2.1 hC.2.2.2.2 inX6 hC.2.2.2.1 hK.1 hP 0 rfl rfl 27 (by decide) (hC.2.2.2.2 _ bw_613) (fun _ h9 => h9) rfl hdg kk
theorem rs_M_9 {z : wSt} {i : Int32} {v : Int32} (hC : CallFix p m c cc nL s args BIG own) (hK : wKK G s) (hP : va_P G.1 vwCl (wsM G h z) H) (hD : va_D A (wsM G h z)) (hS : va_S A s.heap H locs) (hin : vp_in i 6) (hdg : decode cc pc = .ok (.iastore, 1)) (kk : ∀ (z1 : wSt) (H1 : Heap) (locs1 : List Loc), z1 = (w_sa z 27 (upd (w_a z 27) i.toNatClampNeg v)) → va_P G.1 vwCl (wsM G h z1) H1 → va_D A (wsM G h z1) → va_S A s.heap H1 locs1 → W p l e R s m args below meth c H1 locs1 cells slots Q (F0 m (pc + 1) ls rest)) : W p l e R s m args below meth c H locs cells slots Q (F0 m pc ls (.int v :: .int i :: .ref (h 9) :: rest)) :=
  va_iast hC.1 hC.2.1 hK.1 hP hD hS 9 0 rfl rfl hin hdg (fun H1 locs1 hP1 hD1 hS1 => kk (w_sa z 27 (upd (w_a z 27) i.toNatClampNeg v)) H1 locs1 rfl hP1 hD1 hS1)
theorem rp_M_X6_0_25 {z : wSt} {v : Int32} (hC : CallFix p m c cc nL s args BIG RX6) (hK : wKK G s) (hP : va_P G.1 vwCl (wsM G h z) H) (hD : va_D A (wsM G h z)) (hS : va_S A s.heap H locs) (hdg : decode cc pc = .ok (.putfield 171, 3)) (kk : ∀ (z1 : wSt) (H1 : Heap) (locs1 : List Loc), z1 = (w_si z 25 v) → va_P G.1 vwCl (wsM G h z1) H1 → va_D A (wsM G h z1) → va_S A s.heap H1 locs1 → W p l e R s m args below meth c H1 locs1 cells slots Q (F0 m (pc + 3) ls rest)) : W p l e R s m args below meth c H locs cells slots Q (F0 m pc ls (.int v :: .ref (h 0) :: rest)) :=
  va_put hC.1 hC.2.1 hC.2.2.2.2 inX6 tyX6 tyX6_ok nmX6 hC.2.2.2.1 hK.1 hP hD hS 0 rfl rfl 25 (by decide) (hC.2.2.2.2 _ bw_611) (fun _ h9 => h9) rfl (ty := .int) (v := .int v) (by decide +kernel) rfl rfl (Nat.le_of_ble_eq_true rfl) hdg (fun H1 locs1 hP1 hD1 hS1 => kk (w_si z 25 v) H1 locs1 rfl hP1 hD1 hS1)
theorem rp_M_X6_0_26 {z : wSt} {v : Int32} (hz : w_zb v) (hC : CallFix p m c cc nL s args BIG RX6) (hK : wKK G s) (hP : va_P G.1 vwCl (wsM G h z) H) (hD : va_D A (wsM G h z)) (hS : va_S A s.heap H locs) (hdg : decode cc pc = .ok (.putfield 174, 3)) (kk : ∀ (z1 : wSt) (H1 : Heap) (locs1 : List Loc), z1 = (w_si z 26 v) → va_P G.1 vwCl (wsM G h z1) H1 → va_D A (wsM G h z1) → va_S A s.heap H1 locs1 → W p l e R s m args below meth c H1 locs1 cells slots Q (F0 m (pc + 3) ls rest)) : W p l e R s m args below meth c H locs cells slots Q (F0 m pc ls (.int v :: .ref (h 0) :: rest)) :=
  va_put hC.1 hC.2.1 hC.2.2.2.2 inX6 tyX6 tyX6_ok nmX6 hC.2.2.2.1 hK.1 hP hD hS 0 rfl rfl 26 (by decide) (hC.2.2.2.2 _ bw_612) (fun _ h9 => h9) rfl (ty := .boolean) (v := .int v) (by decide +kernel) hz.1 hz.2 (Nat.le_of_ble_eq_true rfl) hdg (fun H1 locs1 hP1 hD1 hS1 => kk (w_si z 26 v) H1 locs1 rfl hP1 hD1 hS1)
theorem rl_M_9 {z : wSt} {i : Int32} (hC : CallFix p m c cc nL s args BIG own) (hK : wKK G s) (hP : va_P G.1 vwCl (wsM G h z) H) (hin : vp_in i 6) (hdg : decode cc pc = .ok (.iaload, 1)) (kk : W p l e R s m args below meth c H locs cells slots Q (F0 m (pc + 1) ls (.int ((w_a z 27) i.toNatClampNeg) :: rest))) : W p l e R s m args below meth c H locs cells slots Q (F0 m pc ls (.int i :: .ref (h 9) :: rest)) :=
  va_iald hC.1 hC.2.1 hK.1 hP 9 0 rfl rfl hin hdg kk
theorem rg_M_X6_0_23 {z : wSt} (hC : CallFix p m c cc nL s args BIG RX6) (hK : wKK G s) (hP : va_P G.1 vwCl (wsM G h z) H) (hdg : decode cc pc = .ok (.getfield 165, 3)) (kk : W p l e R s m args below meth c H locs cells slots Q (F0 m (pc + 3) ls (.int (w_i z 23) :: rest))) : W p l e R s m args below meth c H locs cells slots Q (F0 m pc ls (.ref (h 0) :: rest)) :=
  va_get hC.1 hC.2.1 hC.2.2.2.2 inX6 hC.2.2.2.1 hK.1 hP 0 rfl rfl 23 (by decide) (hC.2.2.2.2 _ bw_609) (fun _ h9 => h9) rfl hdg kk
theorem rg_M_X6_0_24 {z : wSt} (hC : CallFix p m c cc nL s args BIG RX6) (hK : wKK G s) (hP : va_P G.1 vwCl (wsM G h z) H) (hdg : decode cc pc = .ok (.getfield 168, 3)) (kk : W p l e R s m args below meth c H locs cells slots Q (F0 m (pc + 3) ls (.int (w_i z 24) :: rest))) : W p l e R s m args below meth c H locs cells slots Q (F0 m pc ls (.ref (h 0) :: rest)) :=
  va_get hC.1 hC.2.1 hC.2.2.2.2 inX6 hC.2.2.2.1 hK.1 hP 0 rfl rfl 24 (by decide) (hC.2.2.2.2 _ bw_610) (fun _ h9 => h9) rfl hdg kk
theorem calX6_has : xCalS yX6_has cX6_has 2 (some .boolean) 2 := ⟨bw_798, bw_7, bw_799, by decide +kernel, by decide +kernel, by decide +kernel⟩
theorem rg_M_X6_0_21 {z : wSt} (hC : CallFix p m c cc nL s args BIG RX6) (hK : wKK G s) (hP : va_P G.1 vwCl (wsM G h z) H) (hdg : decode cc pc = .ok (.getfield 159, 3)) (kk : W p l e R s m args below meth c H locs cells slots Q (F0 m (pc + 3) ls (.int (w_i z 21) :: rest))) : W p l e R s m args below meth c H locs cells slots Q (F0 m pc ls (.ref (h 0) :: rest)) :=
  va_get hC.1 hC.2.1 hC.2.2.2.2 inX6 hC.2.2.2.1 hK.1 hP 0 rfl rfl 21 (by decide) (hC.2.2.2.2 _ bw_607) (fun _ h9 => h9) rfl hdg kk
theorem calX6_pailsOf : xCalS yX6_pailsOf cX6_pailsOf 3 (some .int) 2 := ⟨bw_801, bw_7, bw_802, by decide +kernel, by decide +kernel, by decide +kernel⟩
theorem rg_M_X6_0_22 {z : wSt} (hC : CallFix p m c cc nL s args BIG RX6) (hK : wKK G s) (hP : va_P G.1 vwCl (wsM G h z) H) (hdg : decode cc pc = .ok (.getfield 162, 3)) (kk : W p l e R s m args below meth c H locs cells slots Q (F0 m (pc + 3) ls (.int (w_i z 22) :: rest))) : W p l e R s m args below meth c H locs cells slots Q (F0 m pc ls (.ref (h 0) :: rest)) :=
  va_get hC.1 hC.2.1 hC.2.2.2.2 inX6 hC.2.2.2.1 hK.1 hP 0 rfl rfl 22 (by decide) (hC.2.2.2.2 _ bw_608) (fun _ h9 => h9) rfl hdg kk
theorem calX6_isSweet : xCalS yX6_isSweet cX6_isSweet 2 (some .boolean) 2 := ⟨bw_804, bw_7, bw_805, by decide +kernel, by decide +kernel, by decide +kernel⟩
theorem rg_M_X6_0_25 {z : wSt} (hC : CallFix p m c cc nL s args BIG RX6) (hK : wKK G s) (hP : va_P G.1 vwCl (wsM G h z) H) (hdg : decode cc pc = .ok (.getfield 171, 3)) (kk : W p l e R s m args below meth c H locs cells slots Q (F0 m (pc + 3) ls (.int (w_i z 25) :: rest))) : W p l e R s m args below meth c H locs cells slots Q (F0 m pc ls (.ref (h 0) :: rest)) :=
  va_get hC.1 hC.2.1 hC.2.2.2.2 inX6 hC.2.2.2.1 hK.1 hP 0 rfl rfl 25 (by decide) (hC.2.2.2.2 _ bw_611) (fun _ h9 => h9) rfl hdg kk
theorem calX6_feltBy : xCalV yX6_feltBy cX6_feltBy 2 (some .int) 1 := ⟨bw_808, bs_52, bw_7, bw_809, by decide +kernel, by decide +kernel, by decide +kernel⟩
theorem calX6_most9 : xCalS yX6_most9 cX6_most9 1 (some .int) 1 := ⟨bw_811, bw_7, bw_812, by decide +kernel, by decide +kernel, by decide +kernel⟩
theorem calX6_wane : xCalS yX6_wane cX6_wane 1 (some .int) 1 := ⟨bw_814, bw_7, bw_815, by decide +kernel, by decide +kernel, by decide +kernel⟩
theorem rp_M_X6_0_11 {z : wSt} {v : Int32} (hC : CallFix p m c cc nL s args BIG RX6) (hK : wKK G s) (hP : va_P G.1 vwCl (wsM G h z) H) (hD : va_D A (wsM G h z)) (hS : va_S A s.heap H locs) (hdg : decode cc pc = .ok (.putfield 98, 3)) (kk : ∀ (z1 : wSt) (H1 : Heap) (locs1 : List Loc), z1 = (w_si z 11 v) → va_P G.1 vwCl (wsM G h z1) H1 → va_D A (wsM G h z1) → va_S A s.heap H1 locs1 → W p l e R s m args below meth c H1 locs1 cells slots Q (F0 m (pc + 3) ls rest)) : W p l e R s m args below meth c H locs cells slots Q (F0 m pc ls (.int v :: .ref (h 0) :: rest)) :=
  va_put hC.1 hC.2.1 hC.2.2.2.2 inX6 tyX6 tyX6_ok nmX6 hC.2.2.2.1 hK.1 hP hD hS 0 rfl rfl 11 (by decide) (hC.2.2.2.2 _ bw_597) (fun _ h9 => h9) rfl (ty := .int) (v := .int v) (by decide +kernel) rfl rfl (Nat.le_of_ble_eq_true rfl) hdg (fun H1 locs1 hP1 hD1 hS1 => kk (w_si z 11 v) H1 locs1 rfl hP1 hD1 hS1)
theorem rg_M_X6_0_26 {z : wSt} (hC : CallFix p m c cc nL s args BIG RX6) (hK : wKK G s) (hP : va_P G.1 vwCl (wsM G h z) H) (hdg : decode cc pc = .ok (.getfield 174, 3)) (kk : W p l e R s m args below meth c H locs cells slots Q (F0 m (pc + 3) ls (.int (w_i z 26) :: rest))) : W p l e R s m args below meth c H locs cells slots Q (F0 m pc ls (.ref (h 0) :: rest)) :=
  va_get hC.1 hC.2.1 hC.2.2.2.2 inX6 hC.2.2.2.1 hK.1 hP 0 rfl rfl 26 (by decide) (hC.2.2.2.2 _ bw_612) (fun _ h9 => h9) rfl hdg kk
theorem rp_M_X6_0_9 {z : wSt} {v : Int32} (hC : CallFix p m c cc nL s args BIG RX6) (hK : wKK G s) (hP : va_P G.1 vwCl (wsM G h z) H) (hD : va_D A (wsM G h z)) (hS : va_S A s.heap H locs) (hdg : decode cc pc = .ok (.putfield 115, 3)) (kk : ∀ (z1 : wSt) (H1 : Heap) (locs1 : List Loc), z1 = (w_si z 9 v) → va_P G.1 vwCl (wsM G h z1) H1 → va_D A (wsM G h z1) → va_S A s.heap H1 locs1 → W p l e R s m args below meth c H1 locs1 cells slots Q (F0 m (pc + 3) ls rest)) : W p l e R s m args below meth c H locs cells slots Q (F0 m pc ls (.int v :: .ref (h 0) :: rest)) :=
  va_put hC.1 hC.2.1 hC.2.2.2.2 inX6 tyX6 tyX6_ok nmX6 hC.2.2.2.1 hK.1 hP hD hS 0 rfl rfl 9 (by decide) (hC.2.2.2.2 _ bw_595) (fun _ h9 => h9) rfl (ty := .int) (v := .int v) (by decide +kernel) rfl rfl (Nat.le_of_ble_eq_true rfl) hdg (fun H1 locs1 hP1 hD1 hS1 => kk (w_si z 9 v) H1 locs1 rfl hP1 hD1 hS1)
theorem rp_M_X6_0_10 {z : wSt} {v : Int32} (hC : CallFix p m c cc nL s args BIG RX6) (hK : wKK G s) (hP : va_P G.1 vwCl (wsM G h z) H) (hD : va_D A (wsM G h z)) (hS : va_S A s.heap H locs) (hdg : decode cc pc = .ok (.putfield 118, 3)) (kk : ∀ (z1 : wSt) (H1 : Heap) (locs1 : List Loc), z1 = (w_si z 10 v) → va_P G.1 vwCl (wsM G h z1) H1 → va_D A (wsM G h z1) → va_S A s.heap H1 locs1 → W p l e R s m args below meth c H1 locs1 cells slots Q (F0 m (pc + 3) ls rest)) : W p l e R s m args below meth c H locs cells slots Q (F0 m pc ls (.int v :: .ref (h 0) :: rest)) :=
  va_put hC.1 hC.2.1 hC.2.2.2.2 inX6 tyX6 tyX6_ok nmX6 hC.2.2.2.1 hK.1 hP hD hS 0 rfl rfl 10 (by decide) (hC.2.2.2.2 _ bw_596) (fun _ h9 => h9) rfl (ty := .int) (v := .int v) (by decide +kernel) rfl rfl (Nat.le_of_ble_eq_true rfl) hdg (fun H1 locs1 hP1 hD1 hS1 => kk (w_si z 10 v) H1 locs1 rfl hP1 hD1 hS1)
theorem calX6_begin : xCalV yX6_begin cX6_begin 2 none 0 := ⟨bw_791, bs_50, bw_7, bw_792, by decide +kernel, by decide +kernel, by decide +kernel⟩
theorem calX6_tryOne : xCalV yX6_tryOne cX6_tryOne 4 (some .boolean) 1 := ⟨bw_795, bs_51, bw_7, bw_796, by decide +kernel, by decide +kernel, by decide +kernel⟩
theorem calX6_keep : xCalV yX6_keep cX6_keep 2 none 0 := ⟨bw_818, bs_53, bw_7, bw_819, by decide +kernel, by decide +kernel, by decide +kernel⟩
theorem calX6_goOn : xCalV yX6_goOn cX6_goOn 2 (some .int) 1 := ⟨bw_787, bs_49, bw_7, bw_788, by decide +kernel, by decide +kernel, by decide +kernel⟩
theorem rl_M_6 {z : wSt} {i : Int32} (hC : CallFix p m c cc nL s args BIG own) (hK : wKK G s) (hP : va_P G.1 vwCl (wsM G h z) H) (hin : vp_in i 24) (hdg : decode cc pc = .ok (.iaload, 1)) (kk : W p l e R s m args below meth c H locs cells slots Q (F0 m (pc + 1) ls (.int ((w_a z 13) i.toNatClampNeg) :: rest))) : W p l e R s m args below meth c H locs cells slots Q (F0 m pc ls (.int i :: .ref (h 6) :: rest)) :=
  va_iald hC.1 hC.2.1 hK.1 hP 6 0 rfl rfl hin hdg kk
theorem rg_M_X6_0_28 {z : wSt} (hC : CallFix p m c cc nL s args BIG RX6) (hK : wKK G s) (hP : va_P G.1 vwCl (wsM G h z) H) (hdg : decode cc pc = .ok (.getfield 50, 3)) (kk : W p l e R s m args below meth c H locs cells slots Q (F0 m (pc + 3) ls (.ref (h 10) :: rest))) : W p l e R s m args below meth c H locs cells slots Q (F0 m pc ls (.ref (h 0) :: rest)) :=
  va_get hC.1 hC.2.1 hC.2.2.2.2 inX6 hC.2.2.2.1 hK.1 hP 0 rfl rfl 28 (by decide) (hC.2.2.2.2 _ bw_614) (fun _ h9 => h9) rfl hdg kk
theorem rl_M_10 {z : wSt} {i : Int32} (hC : CallFix p m c cc nL s args BIG own) (hK : wKK G s) (hP : va_P G.1 vwCl (wsM G h z) H) (hin : vp_in i 5) (hdg : decode cc pc = .ok (.iaload, 1)) (kk : W p l e R s m args below meth c H locs cells slots Q (F0 m (pc + 1) ls (.int ((w_a z 28) i.toNatClampNeg) :: rest))) : W p l e R s m args below meth c H locs cells slots Q (F0 m pc ls (.int i :: .ref (h 10) :: rest)) :=
  va_iald hC.1 hC.2.1 hK.1 hP 10 0 rfl rfl hin hdg kk
theorem rs_M_10 {z : wSt} {i : Int32} {v : Int32} (hC : CallFix p m c cc nL s args BIG own) (hK : wKK G s) (hP : va_P G.1 vwCl (wsM G h z) H) (hD : va_D A (wsM G h z)) (hS : va_S A s.heap H locs) (hin : vp_in i 5) (hdg : decode cc pc = .ok (.iastore, 1)) (kk : ∀ (z1 : wSt) (H1 : Heap) (locs1 : List Loc), z1 = (w_sa z 28 (upd (w_a z 28) i.toNatClampNeg v)) → va_P G.1 vwCl (wsM G h z1) H1 → va_D A (wsM G h z1) → va_S A s.heap H1 locs1 → W p l e R s m args below meth c H1 locs1 cells slots Q (F0 m (pc + 1) ls rest)) : W p l e R s m args below meth c H locs cells slots Q (F0 m pc ls (.int v :: .int i :: .ref (h 10) :: rest)) :=
  va_iast hC.1 hC.2.1 hK.1 hP hD hS 10 0 rfl rfl hin hdg (fun H1 locs1 hP1 hD1 hS1 => kk (w_sa z 28 (upd (w_a z 28) i.toNatClampNeg v)) H1 locs1 rfl hP1 hD1 hS1)
theorem rg_M_X6_0_29 {z : wSt} (hC : CallFix p m c cc nL s args BIG RX6) (hK : wKK G s) (hP : va_P G.1 vwCl (wsM G h z) H) (hdg : decode cc pc = .ok (.getfield 53, 3)) (kk : W p l e R s m args below meth c H locs cells slots Q (F0 m (pc + 3) ls (.ref (h 11) :: rest))) : W p l e R s m args below meth c H locs cells slots Q (F0 m pc ls (.ref (h 0) :: rest)) :=
  va_get hC.1 hC.2.1 hC.2.2.2.2 inX6 hC.2.2.2.1 hK.1 hP 0 rfl rfl 29 (by decide) (hC.2.2.2.2 _ bw_615) (fun _ h9 => h9) rfl hdg kk
theorem rs_M_11 {z : wSt} {i : Int32} {v : Int32} (hC : CallFix p m c cc nL s args BIG own) (hK : wKK G s) (hP : va_P G.1 vwCl (wsM G h z) H) (hD : va_D A (wsM G h z)) (hS : va_S A s.heap H locs) (hin : vp_in i 5) (hdg : decode cc pc = .ok (.iastore, 1)) (kk : ∀ (z1 : wSt) (H1 : Heap) (locs1 : List Loc), z1 = (w_sa z 29 (upd (w_a z 29) i.toNatClampNeg v)) → va_P G.1 vwCl (wsM G h z1) H1 → va_D A (wsM G h z1) → va_S A s.heap H1 locs1 → W p l e R s m args below meth c H1 locs1 cells slots Q (F0 m (pc + 1) ls rest)) : W p l e R s m args below meth c H locs cells slots Q (F0 m pc ls (.int v :: .int i :: .ref (h 11) :: rest)) :=
  va_iast hC.1 hC.2.1 hK.1 hP hD hS 11 0 rfl rfl hin hdg (fun H1 locs1 hP1 hD1 hS1 => kk (w_sa z 29 (upd (w_a z 29) i.toNatClampNeg v)) H1 locs1 rfl hP1 hD1 hS1)
theorem calX6_nextRow : xCalV yX6_nextRow cX6_nextRow 3 (some .boolean) 1 := ⟨bw_840, bs_55, bw_7, bw_841, by decide +kernel, by decide +kernel, by decide +kernel⟩
theorem calX6_findMost : xCalV yX6_findMost cX6_findMost 8 (some .int) 2 := ⟨bw_836, bs_54, bw_7, bw_837, by decide +kernel, by decide +kernel, by decide +kernel⟩
theorem rl_M_11 {z : wSt} {i : Int32} (hC : CallFix p m c cc nL s args BIG own) (hK : wKK G s) (hP : va_P G.1 vwCl (wsM G h z) H) (hin : vp_in i 5) (hdg : decode cc pc = .ok (.iaload, 1)) (kk : W p l e R s m args below meth c H locs cells slots Q (F0 m (pc + 1) ls (.int ((w_a z 29) i.toNatClampNeg) :: rest))) : W p l e R s m args below meth c H locs cells slots Q (F0 m pc ls (.int i :: .ref (h 11) :: rest)) :=
  va_iald hC.1 hC.2.1 hK.1 hP 11 0 rfl rfl hin hdg kk
theorem calX6_givesOf : xCalV yX6_givesOf cX6_givesOf 4 (some .int) 2 := ⟨bw_865, bs_56, bw_7, bw_866, by decide +kernel, by decide +kernel, by decide +kernel⟩
theorem rg_M_X6_0_15 {z : wSt} (hC : CallFix p m c cc nL s args BIG RX6) (hK : wKK G s) (hP : va_P G.1 vwCl (wsM G h z) H) (hdg : decode cc pc = .ok (.getfield 38, 3)) (kk : W p l e R s m args below meth c H locs cells slots Q (F0 m (pc + 3) ls (.int (w_i z 15) :: rest))) : W p l e R s m args below meth c H locs cells slots Q (F0 m pc ls (.ref (h 0) :: rest)) :=
  va_get hC.1 hC.2.1 hC.2.2.2.2 inX6 hC.2.2.2.1 hK.1 hP 0 rfl rfl 15 (by decide) (hC.2.2.2.2 _ bw_601) (fun _ h9 => h9) rfl hdg kk
theorem rp_M_X6_0_15 {z : wSt} {v : Int32} (hC : CallFix p m c cc nL s args BIG RX6) (hK : wKK G s) (hP : va_P G.1 vwCl (wsM G h z) H) (hD : va_D A (wsM G h z)) (hS : va_S A s.heap H locs) (hdg : decode cc pc = .ok (.putfield 38, 3)) (kk : ∀ (z1 : wSt) (H1 : Heap) (locs1 : List Loc), z1 = (w_si z 15 v) → va_P G.1 vwCl (wsM G h z1) H1 → va_D A (wsM G h z1) → va_S A s.heap H1 locs1 → W p l e R s m args below meth c H1 locs1 cells slots Q (F0 m (pc + 3) ls rest)) : W p l e R s m args below meth c H locs cells slots Q (F0 m pc ls (.int v :: .ref (h 0) :: rest)) :=
  va_put hC.1 hC.2.1 hC.2.2.2.2 inX6 tyX6 tyX6_ok nmX6 hC.2.2.2.1 hK.1 hP hD hS 0 rfl rfl 15 (by decide) (hC.2.2.2.2 _ bw_601) (fun _ h9 => h9) rfl (ty := .int) (v := .int v) (by decide +kernel) rfl rfl (Nat.le_of_ble_eq_true rfl) hdg (fun H1 locs1 hP1 hD1 hS1 => kk (w_si z 15 v) H1 locs1 rfl hP1 hD1 hS1)
theorem rg_M_X6_0_31 {z : wSt} (hC : CallFix p m c cc nL s args BIG RX6) (hK : wKK G s) (hP : va_P G.1 vwCl (wsM G h z) H) (hdg : decode cc pc = .ok (.getfield 56, 3)) (kk : W p l e R s m args below meth c H locs cells slots Q (F0 m (pc + 3) ls (.ref (h 12) :: rest))) : W p l e R s m args below meth c H locs cells slots Q (F0 m pc ls (.ref (h 0) :: rest)) :=
  va_get hC.1 hC.2.1 hC.2.2.2.2 inX6 hC.2.2.2.1 hK.1 hP 0 rfl rfl 31 (by decide) (hC.2.2.2.2 _ bw_617) (fun _ h9 => h9) rfl hdg kk
theorem rs_M_12 {z : wSt} {i : Int32} {v : Int32} (hC : CallFix p m c cc nL s args BIG own) (hK : wKK G s) (hP : va_P G.1 vwCl (wsM G h z) H) (hD : va_D A (wsM G h z)) (hS : va_S A s.heap H locs) (hin : vp_in i 64) (hdg : decode cc pc = .ok (.iastore, 1)) (kk : ∀ (z1 : wSt) (H1 : Heap) (locs1 : List Loc), z1 = (w_sa z 31 (upd (w_a z 31) i.toNatClampNeg v)) → va_P G.1 vwCl (wsM G h z1) H1 → va_D A (wsM G h z1) → va_S A s.heap H1 locs1 → W p l e R s m args below meth c H1 locs1 cells slots Q (F0 m (pc + 1) ls rest)) : W p l e R s m args below meth c H locs cells slots Q (F0 m pc ls (.int v :: .int i :: .ref (h 12) :: rest)) :=
  va_iast hC.1 hC.2.1 hK.1 hP hD hS 12 0 rfl rfl hin hdg (fun H1 locs1 hP1 hD1 hS1 => kk (w_sa z 31 (upd (w_a z 31) i.toNatClampNeg v)) H1 locs1 rfl hP1 hD1 hS1)
theorem rp_M_X6_0_30 {z : wSt} {v : Int32} (hz : w_zb v) (hC : CallFix p m c cc nL s args BIG RX6) (hK : wKK G s) (hP : va_P G.1 vwCl (wsM G h z) H) (hD : va_D A (wsM G h z)) (hS : va_S A s.heap H locs) (hdg : decode cc pc = .ok (.putfield 236, 3)) (kk : ∀ (z1 : wSt) (H1 : Heap) (locs1 : List Loc), z1 = (w_si z 30 v) → va_P G.1 vwCl (wsM G h z1) H1 → va_D A (wsM G h z1) → va_S A s.heap H1 locs1 → W p l e R s m args below meth c H1 locs1 cells slots Q (F0 m (pc + 3) ls rest)) : W p l e R s m args below meth c H locs cells slots Q (F0 m pc ls (.int v :: .ref (h 0) :: rest)) :=
  va_put hC.1 hC.2.1 hC.2.2.2.2 inX6 tyX6 tyX6_ok nmX6 hC.2.2.2.1 hK.1 hP hD hS 0 rfl rfl 30 (by decide) (hC.2.2.2.2 _ bw_616) (fun _ h9 => h9) rfl (ty := .boolean) (v := .int v) (by decide +kernel) hz.1 hz.2 (Nat.le_of_ble_eq_true rfl) hdg (fun H1 locs1 hP1 hD1 hS1 => kk (w_si z 30 v) H1 locs1 rfl hP1 hD1 hS1)
theorem calX6_carried : xCalV yX6_carried cX6_carried 6 (some .int) 3 := ⟨bw_893, bs_57, bw_7, bw_894, by decide +kernel, by decide +kernel, by decide +kernel⟩
theorem rg_M_X6_0_30 {z : wSt} (hC : CallFix p m c cc nL s args BIG RX6) (hK : wKK G s) (hP : va_P G.1 vwCl (wsM G h z) H) (hdg : decode cc pc = .ok (.getfield 236, 3)) (kk : W p l e R s m args below meth c H locs cells slots Q (F0 m (pc + 3) ls (.int (w_i z 30) :: rest))) : W p l e R s m args below meth c H locs cells slots Q (F0 m pc ls (.ref (h 0) :: rest)) :=
  va_get hC.1 hC.2.1 hC.2.2.2.2 inX6 hC.2.2.2.1 hK.1 hP 0 rfl rfl 30 (by decide) (hC.2.2.2.2 _ bw_616) (fun _ h9 => h9) rfl hdg kk
theorem rl_M_12 {z : wSt} {i : Int32} (hC : CallFix p m c cc nL s args BIG own) (hK : wKK G s) (hP : va_P G.1 vwCl (wsM G h z) H) (hin : vp_in i 64) (hdg : decode cc pc = .ok (.iaload, 1)) (kk : W p l e R s m args below meth c H locs cells slots Q (F0 m (pc + 1) ls (.int ((w_a z 31) i.toNatClampNeg) :: rest))) : W p l e R s m args below meth c H locs cells slots Q (F0 m pc ls (.int i :: .ref (h 12) :: rest)) :=
  va_iald hC.1 hC.2.1 hK.1 hP 12 0 rfl rfl hin hdg kk
theorem calX6_isSheet : xCalS yX6_isSheet cX6_isSheet 2 (some .boolean) 2 := ⟨bw_904, bw_7, bw_905, by decide +kernel, by decide +kernel, by decide +kernel⟩
theorem rg_M_X6_0_32 {z : wSt} (hC : CallFix p m c cc nL s args BIG RX6) (hK : wKK G s) (hP : va_P G.1 vwCl (wsM G h z) H) (hdg : decode cc pc = .ok (.getfield 59, 3)) (kk : W p l e R s m args below meth c H locs cells slots Q (F0 m (pc + 3) ls (.ref (h 13) :: rest))) : W p l e R s m args below meth c H locs cells slots Q (F0 m pc ls (.ref (h 0) :: rest)) :=
  va_get hC.1 hC.2.1 hC.2.2.2.2 inX6 hC.2.2.2.1 hK.1 hP 0 rfl rfl 32 (by decide) (hC.2.2.2.2 _ bw_618) (fun _ h9 => h9) rfl hdg kk
theorem rs_M_13 {z : wSt} {i : Int32} {v : Int32} (hC : CallFix p m c cc nL s args BIG own) (hK : wKK G s) (hP : va_P G.1 vwCl (wsM G h z) H) (hD : va_D A (wsM G h z)) (hS : va_S A s.heap H locs) (hin : vp_in i 4) (hdg : decode cc pc = .ok (.iastore, 1)) (kk : ∀ (z1 : wSt) (H1 : Heap) (locs1 : List Loc), z1 = (w_sa z 32 (upd (w_a z 32) i.toNatClampNeg v)) → va_P G.1 vwCl (wsM G h z1) H1 → va_D A (wsM G h z1) → va_S A s.heap H1 locs1 → W p l e R s m args below meth c H1 locs1 cells slots Q (F0 m (pc + 1) ls rest)) : W p l e R s m args below meth c H locs cells slots Q (F0 m pc ls (.int v :: .int i :: .ref (h 13) :: rest)) :=
  va_iast hC.1 hC.2.1 hK.1 hP hD hS 13 0 rfl rfl hin hdg (fun H1 locs1 hP1 hD1 hS1 => kk (w_sa z 32 (upd (w_a z 32) i.toNatClampNeg v)) H1 locs1 rfl hP1 hD1 hS1)
theorem rg_M_X6_0_33 {z : wSt} (hC : CallFix p m c cc nL s args BIG RX6) (hK : wKK G s) (hP : va_P G.1 vwCl (wsM G h z) H) (hdg : decode cc pc = .ok (.getfield 62, 3)) (kk : W p l e R s m args below meth c H locs cells slots Q (F0 m (pc + 3) ls (.ref (h 14) :: rest))) : W p l e R s m args below meth c H locs cells slots Q (F0 m pc ls (.ref (h 0) :: rest)) :=
  va_get hC.1 hC.2.1 hC.2.2.2.2 inX6 hC.2.2.2.1 hK.1 hP 0 rfl rfl 33 (by decide) (hC.2.2.2.2 _ bw_619) (fun _ h9 => h9) rfl hdg kk
theorem rs_M_14 {z : wSt} {i : Int32} {v : Int32} (hC : CallFix p m c cc nL s args BIG own) (hK : wKK G s) (hP : va_P G.1 vwCl (wsM G h z) H) (hD : va_D A (wsM G h z)) (hS : va_S A s.heap H locs) (hin : vp_in i 4) (hdg : decode cc pc = .ok (.iastore, 1)) (kk : ∀ (z1 : wSt) (H1 : Heap) (locs1 : List Loc), z1 = (w_sa z 33 (upd (w_a z 33) i.toNatClampNeg v)) → va_P G.1 vwCl (wsM G h z1) H1 → va_D A (wsM G h z1) → va_S A s.heap H1 locs1 → W p l e R s m args below meth c H1 locs1 cells slots Q (F0 m (pc + 1) ls rest)) : W p l e R s m args below meth c H locs cells slots Q (F0 m pc ls (.int v :: .int i :: .ref (h 14) :: rest)) :=
  va_iast hC.1 hC.2.1 hK.1 hP hD hS 14 0 rfl rfl hin hdg (fun H1 locs1 hP1 hD1 hS1 => kk (w_sa z 33 (upd (w_a z 33) i.toNatClampNeg v)) H1 locs1 rfl hP1 hD1 hS1)
theorem rg_M_X6_0_34 {z : wSt} (hC : CallFix p m c cc nL s args BIG RX6) (hK : wKK G s) (hP : va_P G.1 vwCl (wsM G h z) H) (hdg : decode cc pc = .ok (.getfield 65, 3)) (kk : W p l e R s m args below meth c H locs cells slots Q (F0 m (pc + 3) ls (.ref (h 15) :: rest))) : W p l e R s m args below meth c H locs cells slots Q (F0 m pc ls (.ref (h 0) :: rest)) :=
  va_get hC.1 hC.2.1 hC.2.2.2.2 inX6 hC.2.2.2.1 hK.1 hP 0 rfl rfl 34 (by decide) (hC.2.2.2.2 _ bw_620) (fun _ h9 => h9) rfl hdg kk
theorem rs_M_15 {z : wSt} {i : Int32} {v : Int64} (hC : CallFix p m c cc nL s args BIG own) (hK : wKK G s) (hP : va_P G.1 vwCl (wsM G h z) H) (hD : va_D A (wsM G h z)) (hS : va_S A s.heap H locs) (hin : vp_in i 96) (hdg : decode cc pc = .ok (.lastore, 1)) (kk : ∀ (z1 : wSt) (H1 : Heap) (locs1 : List Loc), z1 = (w_sl z 34 (vp_updL (w_l z 34) i.toNatClampNeg v)) → va_P G.1 vwCl (wsM G h z1) H1 → va_D A (wsM G h z1) → va_S A s.heap H1 locs1 → W p l e R s m args below meth c H1 locs1 cells slots Q (F0 m (pc + 1) ls rest)) : W p l e R s m args below meth c H locs cells slots Q (F0 m pc ls (.long v :: .int i :: .ref (h 15) :: rest)) :=
  va_last hC.1 hC.2.1 hK.1 hP hD hS 15 2 rfl rfl hin hdg (fun H1 locs1 hP1 hD1 hS1 => kk (w_sl z 34 (vp_updL (w_l z 34) i.toNatClampNeg v)) H1 locs1 rfl hP1 hD1 hS1)
theorem rl_M_13 {z : wSt} {i : Int32} (hC : CallFix p m c cc nL s args BIG own) (hK : wKK G s) (hP : va_P G.1 vwCl (wsM G h z) H) (hin : vp_in i 4) (hdg : decode cc pc = .ok (.iaload, 1)) (kk : W p l e R s m args below meth c H locs cells slots Q (F0 m (pc + 1) ls (.int ((w_a z 32) i.toNatClampNeg) :: rest))) : W p l e R s m args below meth c H locs cells slots Q (F0 m pc ls (.int i :: .ref (h 13) :: rest)) :=
  va_iald hC.1 hC.2.1 hK.1 hP 13 0 rfl rfl hin hdg kk
theorem rl_M_14 {z : wSt} {i : Int32} (hC : CallFix p m c cc nL s args BIG own) (hK : wKK G s) (hP : va_P G.1 vwCl (wsM G h z) H) (hin : vp_in i 4) (hdg : decode cc pc = .ok (.iaload, 1)) (kk : W p l e R s m args below meth c H locs cells slots Q (F0 m (pc + 1) ls (.int ((w_a z 33) i.toNatClampNeg) :: rest))) : W p l e R s m args below meth c H locs cells slots Q (F0 m pc ls (.int i :: .ref (h 14) :: rest)) :=
  va_iald hC.1 hC.2.1 hK.1 hP 14 0 rfl rfl hin hdg kk
theorem calX6_lacksRow : xCalV yX6_lacksRow cX6_lacksRow 5 (some .int) 4 := ⟨bw_916, bs_58, bw_7, bw_917, by decide +kernel, by decide +kernel, by decide +kernel⟩
theorem calX6_asLane : xCalS yX6_asLane cX6_asLane 3 (some .long) 2 := ⟨bw_919, bw_7, bw_920, by decide +kernel, by decide +kernel, by decide +kernel⟩
theorem rl_M_15 {z : wSt} {i : Int32} (hC : CallFix p m c cc nL s args BIG own) (hK : wKK G s) (hP : va_P G.1 vwCl (wsM G h z) H) (hin : vp_in i 96) (hdg : decode cc pc = .ok (.laload, 1)) (kk : W p l e R s m args below meth c H locs cells slots Q (F0 m (pc + 1) ls (.long ((w_l z 34) i.toNatClampNeg) :: rest))) : W p l e R s m args below meth c H locs cells slots Q (F0 m pc ls (.int i :: .ref (h 15) :: rest)) :=
  va_lald hC.1 hC.2.1 hK.1 hP 15 2 rfl rfl hin hdg kk
theorem calX6_fits : xCalV yX6_fits cX6_fits 8 (some .boolean) 3 := ⟨bw_927, bs_59, bw_7, bw_928, by decide +kernel, by decide +kernel, by decide +kernel⟩
theorem rg_M_X6_0_35 {z : wSt} (hC : CallFix p m c cc nL s args BIG RX6) (hK : wKK G s) (hP : va_P G.1 vwCl (wsM G h z) H) (hdg : decode cc pc = .ok (.getfield 69, 3)) (kk : W p l e R s m args below meth c H locs cells slots Q (F0 m (pc + 3) ls (.ref (h 16) :: rest))) : W p l e R s m args below meth c H locs cells slots Q (F0 m pc ls (.ref (h 0) :: rest)) :=
  va_get hC.1 hC.2.1 hC.2.2.2.2 inX6 hC.2.2.2.1 hK.1 hP 0 rfl rfl 35 (by decide) (hC.2.2.2.2 _ bw_621) (fun _ h9 => h9) rfl hdg kk
theorem rs_M_16 {z : wSt} {i : Int32} {v : Int64} (hC : CallFix p m c cc nL s args BIG own) (hK : wKK G s) (hP : va_P G.1 vwCl (wsM G h z) H) (hD : va_D A (wsM G h z)) (hS : va_S A s.heap H locs) (hin : vp_in i 24) (hdg : decode cc pc = .ok (.lastore, 1)) (kk : ∀ (z1 : wSt) (H1 : Heap) (locs1 : List Loc), z1 = (w_sl z 35 (vp_updL (w_l z 35) i.toNatClampNeg v)) → va_P G.1 vwCl (wsM G h z1) H1 → va_D A (wsM G h z1) → va_S A s.heap H1 locs1 → W p l e R s m args below meth c H1 locs1 cells slots Q (F0 m (pc + 1) ls rest)) : W p l e R s m args below meth c H locs cells slots Q (F0 m pc ls (.long v :: .int i :: .ref (h 16) :: rest)) :=
  va_last hC.1 hC.2.1 hK.1 hP hD hS 16 2 rfl rfl hin hdg (fun H1 locs1 hP1 hD1 hS1 => kk (w_sl z 35 (vp_updL (w_l z 35) i.toNatClampNeg v)) H1 locs1 rfl hP1 hD1 hS1)
theorem rl_M_16 {z : wSt} {i : Int32} (hC : CallFix p m c cc nL s args BIG own) (hK : wKK G s) (hP : va_P G.1 vwCl (wsM G h z) H) (hin : vp_in i 24) (hdg : decode cc pc = .ok (.laload, 1)) (kk : W p l e R s m args below meth c H locs cells slots Q (F0 m (pc + 1) ls (.long ((w_l z 35) i.toNatClampNeg) :: rest))) : W p l e R s m args below meth c H locs cells slots Q (F0 m pc ls (.int i :: .ref (h 16) :: rest)) :=
  va_lald hC.1 hC.2.1 hK.1 hP 16 2 rfl rfl hin hdg kk
theorem rg_S_X1_0_0 {z : wP2} (hC : CallFix p m c cc nL s args BIG RX1) (hK : wKK G s) (hP : va_P G.1 vwCl (wsSearch G h z) H) (hdg : decode cc pc = .ok (.getfield 12, 3)) (kk : W p l e R s m args below meth c H locs cells slots Q (F0 m (pc + 3) ls (.ref (h 4) :: rest))) : W p l e R s m args below meth c H locs cells slots Q (F0 m pc ls (.ref (h 0) :: rest)) :=
  va_get hC.1 hC.2.1 hC.2.2.2.2 inX1 hC.2.2.2.1 hK.1 hP 0 rfl rfl 0 (by decide) (hC.2.2.2.2 _ bw_139) (fun _ h9 => h9) rfl hdg kk
theorem rg_S_X1_0_1 {z : wP2} (hC : CallFix p m c cc nL s args BIG RX1) (hK : wKK G s) (hP : va_P G.1 vwCl (wsSearch G h z) H) (hdg : decode cc pc = .ok (.getfield 18, 3)) (kk : W p l e R s m args below meth c H locs cells slots Q (F0 m (pc + 3) ls (.ref (h 1) :: rest))) : W p l e R s m args below meth c H locs cells slots Q (F0 m pc ls (.ref (h 0) :: rest)) :=
  va_get hC.1 hC.2.1 hC.2.2.2.2 inX1 hC.2.2.2.1 hK.1 hP 0 rfl rfl 1 (by decide) (hC.2.2.2.2 _ bw_141) (fun _ h9 => h9) rfl hdg kk
theorem rl_S_1 {z : wP2} {i : Int32} (hC : CallFix p m c cc nL s args BIG own) (hK : wKK G s) (hP : va_P G.1 vwCl (wsSearch G h z) H) (hin : vp_in i 6) (hdg : decode cc pc = .ok (.iaload, 1)) (kk : W p l e R s m args below meth c H locs cells slots Q (F0 m (pc + 1) ls (.int ((w_a (w_o z) 1) i.toNatClampNeg) :: rest))) : W p l e R s m args below meth c H locs cells slots Q (F0 m pc ls (.int i :: .ref (h 1) :: rest)) :=
  va_iald hC.1 hC.2.1 hK.1 hP 1 0 rfl rfl hin hdg kk
theorem rs_S_2 {z : wP2} {i : Int32} {v : Int32} (hC : CallFix p m c cc nL s args BIG own) (hK : wKK G s) (hP : va_P G.1 vwCl (wsSearch G h z) H) (hD : va_D A (wsSearch G h z)) (hS : va_S A s.heap H locs) (hin : vp_in i 5) (hdg : decode cc pc = .ok (.iastore, 1)) (kk : ∀ (z1 : wP2) (H1 : Heap) (locs1 : List Loc), z1 = (w_so z (w_sa (w_o z) 2 (upd (w_a (w_o z) 2) i.toNatClampNeg v))) → va_P G.1 vwCl (wsSearch G h z1) H1 → va_D A (wsSearch G h z1) → va_S A s.heap H1 locs1 → W p l e R s m args below meth c H1 locs1 cells slots Q (F0 m (pc + 1) ls rest)) : W p l e R s m args below meth c H locs cells slots Q (F0 m pc ls (.int v :: .int i :: .ref (h 2) :: rest)) :=
  va_iast hC.1 hC.2.1 hK.1 hP hD hS 2 0 rfl rfl hin hdg (fun H1 locs1 hP1 hD1 hS1 => kk (w_so z (w_sa (w_o z) 2 (upd (w_a (w_o z) 2) i.toNatClampNeg v))) H1 locs1 rfl hP1 hD1 hS1)
theorem rg_S_X1_4_2 {z : wP2} (hC : CallFix p m c cc nL s args BIG RX1) (hK : wKK G s) (hP : va_P G.1 vwCl (wsSearch G h z) H) (hdg : decode cc pc = .ok (.getfield 99, 3)) (kk : W p l e R s m args below meth c H locs cells slots Q (F0 m (pc + 3) ls (.ref (h 7) :: rest))) : W p l e R s m args below meth c H locs cells slots Q (F0 m pc ls (.ref (h 4) :: rest)) :=
  va_getN hC.1 hC.2.1 hC.2.2.2.2 inX0 hC.2.2.2.1 hK.1 hP 4 rfl rfl 2 (by decide) (hK.2.at bw_37) (fun _ h9 => h9) rfl hdg kk
theorem rl_S_7 {z : wP2} {i : Int32} (hC : CallFix p m c cc nL s args BIG own) (hK : wKK G s) (hP : va_P G.1 vwCl (wsSearch G h z) H) (hin : vp_in i 6) (hdg : decode cc pc = .ok (.iaload, 1)) (kk : W p l e R s m args below meth c H locs cells slots Q (F0 m (pc + 1) ls (.int ((w_a (w_f z) 2) i.toNatClampNeg) :: rest))) : W p l e R s m args below meth c H locs cells slots Q (F0 m pc ls (.int i :: .ref (h 7) :: rest)) :=
  va_iald hC.1 hC.2.1 hK.1 hP 7 0 rfl rfl hin hdg kk
theorem rs_S_1 {z : wP2} {i : Int32} {v : Int32} (hC : CallFix p m c cc nL s args BIG own) (hK : wKK G s) (hP : va_P G.1 vwCl (wsSearch G h z) H) (hD : va_D A (wsSearch G h z)) (hS : va_S A s.heap H locs) (hin : vp_in i 6) (hdg : decode cc pc = .ok (.iastore, 1)) (kk : ∀ (z1 : wP2) (H1 : Heap) (locs1 : List Loc), z1 = (w_so z (w_sa (w_o z) 1 (upd (w_a (w_o z) 1) i.toNatClampNeg v))) → va_P G.1 vwCl (wsSearch G h z1) H1 → va_D A (wsSearch G h z1) → va_S A s.heap H1 locs1 → W p l e R s m args below meth c H1 locs1 cells slots Q (F0 m (pc + 1) ls rest)) : W p l e R s m args below meth c H locs cells slots Q (F0 m pc ls (.int v :: .int i :: .ref (h 1) :: rest)) :=
  va_iast hC.1 hC.2.1 hK.1 hP hD hS 1 0 rfl rfl hin hdg (fun H1 locs1 hP1 hD1 hS1 => kk (w_so z (w_sa (w_o z) 1 (upd (w_a (w_o z) 1) i.toNatClampNeg v))) H1 locs1 rfl hP1 hD1 hS1)
theorem rg_S_X1_0_5 {z : wP2} (hC : CallFix p m c cc nL s args BIG RX1) (hK : wKK G s) (hP : va_P G.1 vwCl (wsSearch G h z) H) (hdg : decode cc pc = .ok (.getfield 32, 3)) (kk : W p l e R s m args below meth c H locs cells slots Q (F0 m (pc + 3) ls (.int (w_i (w_o z) 5) :: rest))) : W p l e R s m args below meth c H locs cells slots Q (F0 m pc ls (.ref (h 0) :: rest)) :=
  va_get hC.1 hC.2.1 hC.2.2.2.2 inX1 hC.2.2.2.1 hK.1 hP 0 rfl rfl 5 (by decide) (hC.2.2.2.2 _ bw_146) (fun _ h9 => h9) rfl hdg kk
theorem calX1_keep : xCalV yX1_keep cX1_keep 2 none 1 := ⟨bw_437, bs_28, bw_5, bw_438, by decide +kernel, by decide +kernel, by decide +kernel⟩
theorem rg_S_X1_4_4 {z : wP2} (hC : CallFix p m c cc nL s args BIG RX1) (hK : wKK G s) (hP : va_P G.1 vwCl (wsSearch G h z) H) (hdg : decode cc pc = .ok (.getfield 77, 3)) (kk : W p l e R s m args below meth c H locs cells slots Q (F0 m (pc + 3) ls (.int (w_i (w_f z) 4) :: rest))) : W p l e R s m args below meth c H locs cells slots Q (F0 m pc ls (.ref (h 4) :: rest)) :=
  va_getN hC.1 hC.2.1 hC.2.2.2.2 inX0 hC.2.2.2.1 hK.1 hP 4 rfl rfl 4 (by decide) (hK.2.at bw_43) (fun _ h9 => h9) rfl hdg kk
theorem calX1_tryDrawing : xCalV yX1_tryDrawing cX1_tryDrawing 10 none 6 := ⟨bw_441, bs_29, bw_5, bw_442, by decide +kernel, by decide +kernel, by decide +kernel⟩
end XROWS
set_option maxRecDepth 100000 in
theorem cut_all_F {G : wG} {h : Nat → Nat} {z : wSt} : xCut (wsFolk G h z) (wsFolk G h z) (fun u : wSt => (wsFolk G h u)) (fun u : wSt => (wsFolk G h u)) := xCut.all (f := fun u : wSt => (wsFolk G h u)) 5 (fun u => rfl) (by decide)
set_option maxRecDepth 100000 in
theorem cut_SW_F4_F12 {G : wG} {h g : Nat → Nat} {z : wP2 × wP2} : xCut (wsSearch G h z.1 ++ wsWell G g z.2) (wsFolk G (sh h 4) (w_f z.1) ++ wsFolk G (sh g 3) (w_f z.2)) (fun u : wSt × wSt => (wsFolk G (sh h 4) u.1 ++ wsFolk G (sh g 3) u.2)) (fun u : wSt × wSt => (wsSearch G h (((w_sf z.1 u.1), z.2).1, (w_sf ((w_sf z.1 u.1), z.2).2 u.2)).1 ++ wsWell G g (((w_sf z.1 u.1), z.2).1, (w_sf ((w_sf z.1 u.1), z.2).2 u.2)).2)) := ⟨[4, 5, 6, 7, 8, 12, 13, 14, 15, 16], [0, 1, 2, 3, 9, 10, 11], [0, 1, 2, 3, 7, 8, 9, 10, 11, 4, 5, 6, 12, 13, 14, 15, 16], ([0, 1, 2, 3, 9, 10, 11] : List Nat).filterMap (fun i => (wsSearch G h z.1 ++ wsWell G g z.2)[i]?), rfl, rfl, by decide, by decide, by decide, by decide, fun u => rfl⟩
set_option maxRecDepth 100000 in
theorem cut_all_S {G : wG} {h : Nat → Nat} {z : wP2} : xCut (wsSearch G h z) (wsSearch G h z) (fun u : wP2 => (wsSearch G h u)) (fun u : wP2 => (wsSearch G h u)) := xCut.all (f := fun u : wP2 => (wsSearch G h u)) 9 (fun u => rfl) (by decide)
set_option maxRecDepth 100000 in
theorem cut_all_T {G : wG} {h : Nat → Nat} {z : wSt} : xCut (wsTape G h z) (wsTape G h z) (fun u : wSt => (wsTape G h u)) (fun u : wSt => (wsTape G h u)) := xCut.all (f := fun u : wSt => (wsTape G h u)) 2 (fun u => rfl) (by decide)
set_option maxRecDepth 100000 in
theorem cut_TF_T0 {G : wG} {h g : Nat → Nat} {z : wSt × wSt} : xCut (wsTape G h z.1 ++ wsFolk G g z.2) (wsTape G h z.1) (fun u : wSt => (wsTape G h u)) (fun u : wSt => (wsTape G h (u, z.2).1 ++ wsFolk G g (u, z.2).2)) := ⟨[0, 1], [2, 3, 4, 5, 6], [5, 6, 0, 1, 2, 3, 4], ([2, 3, 4, 5, 6] : List Nat).filterMap (fun i => (wsTape G h z.1 ++ wsFolk G g z.2)[i]?), rfl, rfl, by decide, by decide, by decide, by decide, fun u => rfl⟩
set_option maxRecDepth 100000 in
theorem cut_TF_F2 {G : wG} {h g : Nat → Nat} {z : wSt × wSt} : xCut (wsTape G h z.1 ++ wsFolk G g z.2) (wsFolk G g z.2) (fun u : wSt => (wsFolk G g u)) (fun u : wSt => (wsTape G h (z.1, u).1 ++ wsFolk G g (z.1, u).2)) := ⟨[2, 3, 4, 5, 6], [0, 1], [0, 1, 2, 3, 4, 5, 6], ([0, 1] : List Nat).filterMap (fun i => (wsTape G h z.1 ++ wsFolk G g z.2)[i]?), rfl, rfl, by decide, by decide, by decide, by decide, fun u => rfl⟩
set_option maxRecDepth 100000 in
theorem cut_all_TF {G : wG} {h g : Nat → Nat} {z : wSt × wSt} : xCut (wsTape G h z.1 ++ wsFolk G g z.2) (wsTape G h z.1 ++ wsFolk G g z.2) (fun u : wSt × wSt => (wsTape G h u.1 ++ wsFolk G g u.2)) (fun u : wSt × wSt => (wsTape G h u.1 ++ wsFolk G g u.2)) := xCut.all (f := fun u : wSt × wSt => (wsTape G h u.1 ++ wsFolk G g u.2)) 7 (fun u => rfl) (by decide)
set_option maxRecDepth 100000 in
theorem cut_TAF_T0 {G : wG} {h g k : Nat → Nat} {z : wSt × (Nat → Int32) × wSt} : xCut (wsTape G h z.1 ++ (wsArr G g 24 z.2.1 ++ wsFolk G k z.2.2)) (wsTape G h z.1) (fun u : wSt => (wsTape G h u)) (fun u : wSt => (wsTape G h (u, z.2.1, z.2.2).1 ++ (wsArr G g 24 (u, z.2.1, z.2.2).2.1 ++ wsFolk G k (u, z.2.1, z.2.2).2.2))) := ⟨[0, 1], [2, 3, 4, 5, 6, 7], [6, 7, 0, 1, 2, 3, 4, 5], ([2, 3, 4, 5, 6, 7] : List Nat).filterMap (fun i => (wsTape G h z.1 ++ (wsArr G g 24 z.2.1 ++ wsFolk G k z.2.2))[i]?), rfl, rfl, by decide, by decide, by decide, by decide, fun u => rfl⟩
set_option maxRecDepth 100000 in
theorem cut_TAF_F3 {G : wG} {h g k : Nat → Nat} {z : wSt × (Nat → Int32) × wSt} : xCut (wsTape G h z.1 ++ (wsArr G g 24 z.2.1 ++ wsFolk G k z.2.2)) (wsFolk G k z.2.2) (fun u : wSt => (wsFolk G k u)) (fun u : wSt => (wsTape G h (z.1, z.2.1, u).1 ++ (wsArr G g 24 (z.1, z.2.1, u).2.1 ++ wsFolk G k (z.1, z.2.1, u).2.2))) := ⟨[3, 4, 5, 6, 7], [0, 1, 2], [0, 1, 2, 3, 4, 5, 6, 7], ([0, 1, 2] : List Nat).filterMap (fun i => (wsTape G h z.1 ++ (wsArr G g 24 z.2.1 ++ wsFolk G k z.2.2))[i]?), rfl, rfl, by decide, by decide, by decide, by decide, fun u => rfl⟩
set_option maxRecDepth 100000 in
theorem cut_WW_F3_F11 {G : wG} {h g : Nat → Nat} {z : wP2 × wP2} : xCut (wsWell G h z.1 ++ wsWell G g z.2) (wsFolk G (sh h 3) (w_f z.1) ++ wsFolk G (sh g 3) (w_f z.2)) (fun u : wSt × wSt => (wsFolk G (sh h 3) u.1 ++ wsFolk G (sh g 3) u.2)) (fun u : wSt × wSt => (wsWell G h (((w_sf z.1 u.1), z.2).1, (w_sf ((w_sf z.1 u.1), z.2).2 u.2)).1 ++ wsWell G g (((w_sf z.1 u.1), z.2).1, (w_sf ((w_sf z.1 u.1), z.2).2 u.2)).2)) := ⟨[3, 4, 5, 6, 7, 11, 12, 13, 14, 15], [0, 1, 2, 8, 9, 10], [0, 1, 2, 6, 7, 8, 9, 10, 3, 4, 5, 11, 12, 13, 14, 15], ([0, 1, 2, 8, 9, 10] : List Nat).filterMap (fun i => (wsWell G h z.1 ++ wsWell G g z.2)[i]?), rfl, rfl, by decide, by decide, by decide, by decide, fun u => rfl⟩
set_option maxRecDepth 100000 in
theorem cut_WF_F3_F8 {G : wG} {h g : Nat → Nat} {z : wP2 × wSt} : xCut (wsWell G h z.1 ++ wsFolk G g z.2) (wsFolk G (sh h 3) (w_f z.1) ++ wsFolk G g z.2) (fun u : wSt × wSt => (wsFolk G (sh h 3) u.1 ++ wsFolk G g u.2)) (fun u : wSt × wSt => (wsWell G h (((w_sf z.1 u.1), z.2).1, u.2).1 ++ wsFolk G g (((w_sf z.1 u.1), z.2).1, u.2).2)) := ⟨[3, 4, 5, 6, 7, 8, 9, 10, 11, 12], [0, 1, 2], [0, 1, 2, 3, 4, 5, 6, 7, 8, 9, 10, 11, 12], ([0, 1, 2] : List Nat).filterMap (fun i => (wsWell G h z.1 ++ wsFolk G g z.2)[i]?), rfl, rfl, by decide, by decide, by decide, by decide, fun u => rfl⟩
set_option maxRecDepth 100000 in
theorem cut_W_F3 {G : wG} {h : Nat → Nat} {z : wP2} : xCut (wsWell G h z) (wsFolk G (sh h 3) (w_f z)) (fun u : wSt => (wsFolk G (sh h 3) u)) (fun u : wSt => (wsWell G h (w_sf z u))) := ⟨[3, 4, 5, 6, 7], [0, 1, 2], [0, 1, 2, 3, 4, 5, 6, 7], ([0, 1, 2] : List Nat).filterMap (fun i => (wsWell G h z)[i]?), rfl, rfl, by decide, by decide, by decide, by decide, fun u => rfl⟩
set_option maxRecDepth 100000 in
theorem cut_all_W {G : wG} {h : Nat → Nat} {z : wP2} : xCut (wsWell G h z) (wsWell G h z) (fun u : wP2 => (wsWell G h u)) (fun u : wP2 => (wsWell G h u)) := xCut.all (f := fun u : wP2 => (wsWell G h u)) 8 (fun u => rfl) (by decide)
set_option maxRecDepth 100000 in
theorem cut_X_F4 {G : wG} {h : Nat → Nat} {z : wXS} : xCut (wsX G h z) (wsFolk G (sh h 4) (w_f (x_w z))) (fun u : wSt => (wsFolk G (sh h 4) u)) (fun u : wSt => (wsX G h (x_sw z (w_sf (x_w z) u)))) := ⟨[4, 5, 6, 7, 8], [0, 1, 2, 3, 9, 10, 11, 12, 13, 14, 15, 16, 17, 18, 19, 20, 21, 22, 23, 24, 25, 26, 27, 28, 29, 30, 31, 32, 33, 34, 35, 36, 37, 38, 39, 40, 41, 42], [0, 1, 2, 3, 38, 39, 40, 41, 42, 4, 5, 6, 7, 8, 9, 10, 11, 12, 13, 14, 15, 16, 17, 18, 19, 20, 21, 22, 23, 24, 25, 26, 27, 28, 29, 30, 31, 32, 33, 34, 35, 36, 37], ([0, 1, 2, 3, 9, 10, 11, 12, 13, 14, 15, 16, 17, 18, 19, 20, 21, 22, 23, 24, 25, 26, 27, 28, 29, 30, 31, 32, 33, 34, 35, 36, 37, 38, 39, 40, 41, 42] : List Nat).filterMap (fun i => (wsX G h z)[i]?), rfl, rfl, by decide, by decide, by decide, by decide, fun u => rfl⟩
set_option maxRecDepth 100000 in
theorem cut_X_T17 {G : wG} {h : Nat → Nat} {z : wXS} : xCut (wsX G h z) (wsTape G (sh h 17) (x_t z)) (fun u : wSt => (wsTape G (sh h 17) u)) (fun u : wSt => (wsX G h (x_st z u))) := ⟨[17, 18], [0, 1, 2, 3, 4, 5, 6, 7, 8, 9, 10, 11, 12, 13, 14, 15, 16, 19, 20, 21, 22, 23, 24, 25, 26, 27, 28, 29, 30, 31, 32, 33, 34, 35, 36, 37, 38, 39, 40, 41, 42], [0, 1, 2, 3, 4, 5, 6, 7, 8, 9, 10, 11, 12, 13, 14, 15, 16, 41, 42, 17, 18, 19, 20, 21, 22, 23, 24, 25, 26, 27, 28, 29, 30, 31, 32, 33, 34, 35, 36, 37, 38, 39, 40], ([0, 1, 2, 3, 4, 5, 6, 7, 8, 9, 10, 11, 12, 13, 14, 15, 16, 19, 20, 21, 22, 23, 24, 25, 26, 27, 28, 29, 30, 31, 32, 33, 34, 35, 36, 37, 38, 39, 40, 41, 42] : List Nat).filterMap (fun i => (wsX G h z)[i]?), rfl, rfl, by decide, by decide, by decide, by decide, fun u => rfl⟩
set_option maxRecDepth 100000 in
theorem cut_X_T17_F19 {G : wG} {h : Nat → Nat} {z : wXS} : xCut (wsX G h z) (wsTape G (sh h 17) (x_t z) ++ wsFolk G (sh h 19) (x_n z)) (fun u : wSt × wSt => (wsTape G (sh h 17) u.1 ++ wsFolk G (sh h 19) u.2)) (fun u : wSt × wSt => (wsX G h (x_sn (x_st z u.1) u.2))) := ⟨[17, 18, 19, 20, 21, 22, 23], [0, 1, 2, 3, 4, 5, 6, 7, 8, 9, 10, 11, 12, 13, 14, 15, 16, 24, 25, 26, 27, 28, 29, 30, 31, 32, 33, 34, 35, 36, 37, 38, 39, 40, 41, 42], [0, 1, 2, 3, 4, 5, 6, 7, 8, 9, 10, 11, 12, 13, 14, 15, 16, 36, 37, 38, 39, 40, 41, 42, 17, 18, 19, 20, 21, 22, 23, 24, 25, 26, 27, 28, 29, 30, 31, 32, 33, 34, 35], ([0, 1, 2, 3, 4, 5, 6, 7, 8, 9, 10, 11, 12, 13, 14, 15, 16, 24, 25, 26, 27, 28, 29, 30, 31, 32, 33, 34, 35, 36, 37, 38, 39, 40, 41, 42] : List Nat).filterMap (fun i => (wsX G h z)[i]?), rfl, rfl, by decide, by decide, by decide, by decide, fun u => rfl⟩
set_option maxRecDepth 100000 in
theorem cut_X_W1_F19 {G : wG} {h : Nat → Nat} {z : wXS} : xCut (wsX G h z) (wsWell G (sh h 1) (x_w z) ++ wsFolk G (sh h 19) (x_n z)) (fun u : wP2 × wSt => (wsWell G (sh h 1) u.1 ++ wsFolk G (sh h 19) u.2)) (fun u : wP2 × wSt => (wsX G h (x_sn (x_sw z u.1) u.2))) := ⟨[1, 2, 3, 4, 5, 6, 7, 8, 19, 20, 21, 22, 23], [0, 9, 10, 11, 12, 13, 14, 15, 16, 17, 18, 24, 25, 26, 27, 28, 29, 30, 31, 32, 33, 34, 35, 36, 37, 38, 39, 40, 41, 42], [0, 30, 31, 32, 33, 34, 35, 36, 37, 1, 2, 3, 4, 5, 6, 7, 8, 9, 10, 38, 39, 40, 41, 42, 11, 12, 13, 14, 15, 16, 17, 18, 19, 20, 21, 22, 23, 24, 25, 26, 27, 28, 29], ([0, 9, 10, 11, 12, 13, 14, 15, 16, 17, 18, 24, 25, 26, 27, 28, 29, 30, 31, 32, 33, 34, 35, 36, 37, 38, 39, 40, 41, 42] : List Nat).filterMap (fun i => (wsX G h z)[i]?), rfl, rfl, by decide, by decide, by decide, by decide, fun u => rfl⟩
set_option maxRecDepth 100000 in
theorem cut_X_T17_A24_F4 {G : wG} {h : Nat → Nat} {z : wXS} : xCut (wsX G h z) (wsTape G (sh h 17) (x_t z) ++ (wsArr G (sh h 24) 24 (w_a (x_o z) 5) ++ wsFolk G (sh h 4) (w_f (x_w z)))) (fun u : wSt × (Nat → Int32) × wSt => (wsTape G (sh h 17) u.1 ++ (wsArr G (sh h 24) 24 u.2.1 ++ wsFolk G (sh h 4) u.2.2))) (fun u : wSt × (Nat → Int32) × wSt => (wsX G h (x_sw (x_so (x_st z u.1) (w_sa (x_o (x_st z u.1)) 5 u.2.1)) (w_sf (x_w (x_so (x_st z u.1) (w_sa (x_o (x_st z u.1)) 5 u.2.1))) u.2.2)))) := ⟨[17, 18, 24, 4, 5, 6, 7, 8], [0, 1, 2, 3, 9, 10, 11, 12, 13, 14, 15, 16, 19, 20, 21, 22, 23, 25, 26, 27, 28, 29, 30, 31, 32, 33, 34, 35, 36, 37, 38, 39, 40, 41, 42], [0, 1, 2, 3, 38, 39, 40, 41, 42, 4, 5, 6, 7, 8, 9, 10, 11, 35, 36, 12, 13, 14, 15, 16, 37, 17, 18, 19, 20, 21, 22, 23, 24, 25, 26, 27, 28, 29, 30, 31, 32, 33, 34], ([0, 1, 2, 3, 9, 10, 11, 12, 13, 14, 15, 16, 19, 20, 21, 22, 23, 25, 26, 27, 28, 29, 30, 31, 32, 33, 34, 35, 36, 37, 38, 39, 40, 41, 42] : List Nat).filterMap (fun i => (wsX G h z)[i]?), rfl, rfl, by decide, by decide, by decide, by decide, fun u => rfl⟩
set_option maxRecDepth 100000 in
theorem cut_X_W1_A24 {G : wG} {h : Nat → Nat} {z : wXS} : xCut (wsX G h z) (wsWell G (sh h 1) (x_w z) ++ wsArr G (sh h 24) 24 (w_a (x_o z) 5)) (fun u : wP2 × (Nat → Int32) => (wsWell G (sh h 1) u.1 ++ wsArr G (sh h 24) 24 u.2)) (fun u : wP2 × (Nat → Int32) => (wsX G h (x_so (x_sw z u.1) (w_sa (x_o (x_sw z u.1)) 5 u.2)))) := ⟨[1, 2, 3, 4, 5, 6, 7, 8, 24], [0, 9, 10, 11, 12, 13, 14, 15, 16, 17, 18, 19, 20, 21, 22, 23, 25, 26, 27, 28, 29, 30, 31, 32, 33, 34, 35, 36, 37, 38, 39, 40, 41, 42], [0, 34, 35, 36, 37, 38, 39, 40, 41, 1, 2, 3, 4, 5, 6, 7, 8, 9, 10, 11, 12, 13, 14, 15, 42, 16, 17, 18, 19, 20, 21, 22, 23, 24, 25, 26, 27, 28, 29, 30, 31, 32, 33], ([0, 9, 10, 11, 12, 13, 14, 15, 16, 17, 18, 19, 20, 21, 22, 23, 25, 26, 27, 28, 29, 30, 31, 32, 33, 34, 35, 36, 37, 38, 39, 40, 41, 42] : List Nat).filterMap (fun i => (wsX G h z)[i]?), rfl, rfl, by decide, by decide, by decide, by decide, fun u => rfl⟩
set_option maxRecDepth 100000 in
theorem cut_X_W1 {G : wG} {h : Nat → Nat} {z : wXS} : xCut (wsX G h z) (wsWell G (sh h 1) (x_w z)) (fun u : wP2 => (wsWell G (sh h 1) u)) (fun u : wP2 => (wsX G h (x_sw z u))) := ⟨[1, 2, 3, 4, 5, 6, 7, 8], [0, 9, 10, 11, 12, 13, 14, 15, 16, 17, 18, 19, 20, 21, 22, 23, 24, 25, 26, 27, 28, 29, 30, 31, 32, 33, 34, 35, 36, 37, 38, 39, 40, 41, 42], [0, 35, 36, 37, 38, 39, 40, 41, 42, 1, 2, 3, 4, 5, 6, 7, 8, 9, 10, 11, 12, 13, 14, 15, 16, 17, 18, 19, 20, 21, 22, 23, 24, 25, 26, 27, 28, 29, 30, 31, 32, 33, 34], ([0, 9, 10, 11, 12, 13, 14, 15, 16, 17, 18, 19, 20, 21, 22, 23, 24, 25, 26, 27, 28, 29, 30, 31, 32, 33, 34, 35, 36, 37, 38, 39, 40, 41, 42] : List Nat).filterMap (fun i => (wsX G h z)[i]?), rfl, rfl, by decide, by decide, by decide, by decide, fun u => rfl⟩
set_option maxRecDepth 100000 in
theorem cut_X_S25_W1 {G : wG} {h : Nat → Nat} {z : wXS} : xCut (wsX G h z) (wsSearch G (sh h 25) (x_s z) ++ wsWell G (sh h 1) (x_w z)) (fun u : wP2 × wP2 => (wsSearch G (sh h 25) u.1 ++ wsWell G (sh h 1) u.2)) (fun u : wP2 × wP2 => (wsX G h (x_sw (x_ss z u.1) u.2))) := ⟨[25, 26, 27, 28, 29, 30, 31, 32, 33, 1, 2, 3, 4, 5, 6, 7, 8], [0, 9, 10, 11, 12, 13, 14, 15, 16, 17, 18, 19, 20, 21, 22, 23, 24, 34, 35, 36, 37, 38, 39, 40, 41, 42], [0, 35, 36, 37, 38, 39, 40, 41, 42, 1, 2, 3, 4, 5, 6, 7, 8, 9, 10, 11, 12, 13, 14, 15, 16, 26, 27, 28, 29, 30, 31, 32, 33, 34, 17, 18, 19, 20, 21, 22, 23, 24, 25], ([0, 9, 10, 11, 12, 13, 14, 15, 16, 17, 18, 19, 20, 21, 22, 23, 24, 34, 35, 36, 37, 38, 39, 40, 41, 42] : List Nat).filterMap (fun i => (wsX G h z)[i]?), rfl, rfl, by decide, by decide, by decide, by decide, fun u => rfl⟩
set_option maxRecDepth 100000 in
theorem cut_X_S25 {G : wG} {h : Nat → Nat} {z : wXS} : xCut (wsX G h z) (wsSearch G (sh h 25) (x_s z)) (fun u : wP2 => (wsSearch G (sh h 25) u)) (fun u : wP2 => (wsX G h (x_ss z u))) := ⟨[25, 26, 27, 28, 29, 30, 31, 32, 33], [0, 1, 2, 3, 4, 5, 6, 7, 8, 9, 10, 11, 12, 13, 14, 15, 16, 17, 18, 19, 20, 21, 22, 23, 24, 34, 35, 36, 37, 38, 39, 40, 41, 42], [0, 1, 2, 3, 4, 5, 6, 7, 8, 9, 10, 11, 12, 13, 14, 15, 16, 17, 18, 19, 20, 21, 22, 23, 24, 34, 35, 36, 37, 38, 39, 40, 41, 42, 25, 26, 27, 28, 29, 30, 31, 32, 33], ([0, 1, 2, 3, 4, 5, 6, 7, 8, 9, 10, 11, 12, 13, 14, 15, 16, 17, 18, 19, 20, 21, 22, 23, 24, 34, 35, 36, 37, 38, 39, 40, 41, 42] : List Nat).filterMap (fun i => (wsX G h z)[i]?), rfl, rfl, by decide, by decide, by decide, by decide, fun u => rfl⟩
set_option maxRecDepth 100000 in
theorem cut_all_X {G : wG} {h : Nat → Nat} {z : wXS} : xCut (wsX G h z) (wsX G h z) (fun u : wXS => (wsX G h u)) (fun u : wXS => (wsX G h u)) := xCut.all (f := fun u : wXS => (wsX G h u)) 43 (fun u => rfl) (by decide)
set_option maxRecDepth 100000 in
theorem cut_X_F29 {G : wG} {h : Nat → Nat} {z : wXS} : xCut (wsX G h z) (wsFolk G (sh h 29) (w_f (x_s z))) (fun u : wSt => (wsFolk G (sh h 29) u)) (fun u : wSt => (wsX G h (x_ss z (w_sf (x_s z) u)))) := ⟨[29, 30, 31, 32, 33], [0, 1, 2, 3, 4, 5, 6, 7, 8, 9, 10, 11, 12, 13, 14, 15, 16, 17, 18, 19, 20, 21, 22, 23, 24, 25, 26, 27, 28, 34, 35, 36, 37, 38, 39, 40, 41, 42], [0, 1, 2, 3, 4, 5, 6, 7, 8, 9, 10, 11, 12, 13, 14, 15, 16, 17, 18, 19, 20, 21, 22, 23, 24, 25, 26, 27, 28, 38, 39, 40, 41, 42, 29, 30, 31, 32, 33, 34, 35, 36, 37], ([0, 1, 2, 3, 4, 5, 6, 7, 8, 9, 10, 11, 12, 13, 14, 15, 16, 17, 18, 19, 20, 21, 22, 23, 24, 25, 26, 27, 28, 34, 35, 36, 37, 38, 39, 40, 41, 42] : List Nat).filterMap (fun i => (wsX G h z)[i]?), rfl, rfl, by decide, by decide, by decide, by decide, fun u => rfl⟩
set_option maxRecDepth 100000 in
theorem cut_X_W9_W1 {G : wG} {h : Nat → Nat} {z : wXS} : xCut (wsX G h z) (wsWell G (sh h 9) (x_k z) ++ wsWell G (sh h 1) (x_w z)) (fun u : wP2 × wP2 => (wsWell G (sh h 9) u.1 ++ wsWell G (sh h 1) u.2)) (fun u : wP2 × wP2 => (wsX G h (x_sw (x_sk z u.1) u.2))) := ⟨[9, 10, 11, 12, 13, 14, 15, 16, 1, 2, 3, 4, 5, 6, 7, 8], [0, 17, 18, 19, 20, 21, 22, 23, 24, 25, 26, 27, 28, 29, 30, 31, 32, 33, 34, 35, 36, 37, 38, 39, 40, 41, 42], [0, 35, 36, 37, 38, 39, 40, 41, 42, 27, 28, 29, 30, 31, 32, 33, 34, 1, 2, 3, 4, 5, 6, 7, 8, 9, 10, 11, 12, 13, 14, 15, 16, 17, 18, 19, 20, 21, 22, 23, 24, 25, 26], ([0, 17, 18, 19, 20, 21, 22, 23, 24, 25, 26, 27, 28, 29, 30, 31, 32, 33, 34, 35, 36, 37, 38, 39, 40, 41, 42] : List Nat).filterMap (fun i => (wsX G h z)[i]?), rfl, rfl, by decide, by decide, by decide, by decide, fun u => rfl⟩
set_option maxRecDepth 100000 in
theorem cut_X_W1_W9 {G : wG} {h : Nat → Nat} {z : wXS} : xCut (wsX G h z) (wsWell G (sh h 1) (x_w z) ++ wsWell G (sh h 9) (x_k z)) (fun u : wP2 × wP2 => (wsWell G (sh h 1) u.1 ++ wsWell G (sh h 9) u.2)) (fun u : wP2 × wP2 => (wsX G h (x_sk (x_sw z u.1) u.2))) := ⟨[1, 2, 3, 4, 5, 6, 7, 8, 9, 10, 11, 12, 13, 14, 15, 16], [0, 17, 18, 19, 20, 21, 22, 23, 24, 25, 26, 27, 28, 29, 30, 31, 32, 33, 34, 35, 36, 37, 38, 39, 40, 41, 42], [0, 27, 28, 29, 30, 31, 32, 33, 34, 35, 36, 37, 38, 39, 40, 41, 42, 1, 2, 3, 4, 5, 6, 7, 8, 9, 10, 11, 12, 13, 14, 15, 16, 17, 18, 19, 20, 21, 22, 23, 24, 25, 26], ([0, 17, 18, 19, 20, 21, 22, 23, 24, 25, 26, 27, 28, 29, 30, 31, 32, 33, 34, 35, 36, 37, 38, 39, 40, 41, 42] : List Nat).filterMap (fun i => (wsX G h z)[i]?), rfl, rfl, by decide, by decide, by decide, by decide, fun u => rfl⟩
set_option maxRecDepth 100000 in
theorem cut_X_Hn {G : wG} {h : Nat → Nat} {z : wXS} {n : Nat} (hn : n < 4) : xCut (wsX G h z) (wsSheet G (sh h (35 + 2 * n)) (x_h z n)) (fun u : wSt => (wsSheet G (sh h (35 + 2 * n)) u)) (fun u : wSt => (wsX G h (x_sh z n u))) := by
  rcases (show n = 0 ∨ n = 1 ∨ n = 2 ∨ n = 3 by omega) with rfl | rfl | rfl | rfl
  · exact ⟨[35, 36], [0, 1, 2, 3, 4, 5, 6, 7, 8, 9, 10, 11, 12, 13, 14, 15, 16, 17, 18, 19, 20, 21, 22, 23, 24, 25, 26, 27, 28, 29, 30, 31, 32, 33, 34, 37, 38, 39, 40, 41, 42], [0, 1, 2, 3, 4, 5, 6, 7, 8, 9, 10, 11, 12, 13, 14, 15, 16, 17, 18, 19, 20, 21, 22, 23, 24, 25, 26, 27, 28, 29, 30, 31, 32, 33, 34, 41, 42, 35, 36, 37, 38, 39, 40], ([0, 1, 2, 3, 4, 5, 6, 7, 8, 9, 10, 11, 12, 13, 14, 15, 16, 17, 18, 19, 20, 21, 22, 23, 24, 25, 26, 27, 28, 29, 30, 31, 32, 33, 34, 37, 38, 39, 40, 41, 42] : List Nat).filterMap (fun i => (wsX G h z)[i]?), rfl, rfl, by decide, by decide, by decide, by decide, fun u => rfl⟩
  · exact ⟨[37, 38], [0, 1, 2, 3, 4, 5, 6, 7, 8, 9, 10, 11, 12, 13, 14, 15, 16, 17, 18, 19, 20, 21, 22, 23, 24, 25, 26, 27, 28, 29, 30, 31, 32, 33, 34, 35, 36, 39, 40, 41, 42], [0, 1, 2, 3, 4, 5, 6, 7, 8, 9, 10, 11, 12, 13, 14, 15, 16, 17, 18, 19, 20, 21, 22, 23, 24, 25, 26, 27, 28, 29, 30, 31, 32, 33, 34, 35, 36, 41, 42, 37, 38, 39, 40], ([0, 1, 2, 3, 4, 5, 6, 7, 8, 9, 10, 11, 12, 13, 14, 15, 16, 17, 18, 19, 20, 21, 22, 23, 24, 25, 26, 27, 28, 29, 30, 31, 32, 33, 34, 35, 36, 39, 40, 41, 42] : List Nat).filterMap (fun i => (wsX G h z)[i]?), rfl, rfl, by decide, by decide, by decide, by decide, fun u => rfl⟩
  · exact ⟨[39, 40], [0, 1, 2, 3, 4, 5, 6, 7, 8, 9, 10, 11, 12, 13, 14, 15, 16, 17, 18, 19, 20, 21, 22, 23, 24, 25, 26, 27, 28, 29, 30, 31, 32, 33, 34, 35, 36, 37, 38, 41, 42], [0, 1, 2, 3, 4, 5, 6, 7, 8, 9, 10, 11, 12, 13, 14, 15, 16, 17, 18, 19, 20, 21, 22, 23, 24, 25, 26, 27, 28, 29, 30, 31, 32, 33, 34, 35, 36, 37, 38, 41, 42, 39, 40], ([0, 1, 2, 3, 4, 5, 6, 7, 8, 9, 10, 11, 12, 13, 14, 15, 16, 17, 18, 19, 20, 21, 22, 23, 24, 25, 26, 27, 28, 29, 30, 31, 32, 33, 34, 35, 36, 37, 38, 41, 42] : List Nat).filterMap (fun i => (wsX G h z)[i]?), rfl, rfl, by decide, by decide, by decide, by decide, fun u => rfl⟩
  · exact ⟨[41, 42], [0, 1, 2, 3, 4, 5, 6, 7, 8, 9, 10, 11, 12, 13, 14, 15, 16, 17, 18, 19, 20, 21, 22, 23, 24, 25, 26, 27, 28, 29, 30, 31, 32, 33, 34, 35, 36, 37, 38, 39, 40], [0, 1, 2, 3, 4, 5, 6, 7, 8, 9, 10, 11, 12, 13, 14, 15, 16, 17, 18, 19, 20, 21, 22, 23, 24, 25, 26, 27, 28, 29, 30, 31, 32, 33, 34, 35, 36, 37, 38, 39, 40, 41, 42], ([0, 1, 2, 3, 4, 5, 6, 7, 8, 9, 10, 11, 12, 13, 14, 15, 16, 17, 18, 19, 20, 21, 22, 23, 24, 25, 26, 27, 28, 29, 30, 31, 32, 33, 34, 35, 36, 37, 38, 39, 40] : List Nat).filterMap (fun i => (wsX G h z)[i]?), rfl, rfl, by decide, by decide, by decide, by decide, fun u => rfl⟩
set_option maxRecDepth 100000 in
theorem cut_all_M {G : wG} {h : Nat → Nat} {z : wSt} : xCut (wsM G h z) (wsM G h z) (fun u : wSt => (wsM G h u)) (fun u : wSt => (wsM G h u)) := xCut.all (f := fun u : wSt => (wsM G h u)) 17 (fun u => rfl) (by decide)
set_option maxRecDepth 100000 in
theorem cut_S_F4 {G : wG} {h : Nat → Nat} {z : wP2} : xCut (wsSearch G h z) (wsFolk G (sh h 4) (w_f z)) (fun u : wSt => (wsFolk G (sh h 4) u)) (fun u : wSt => (wsSearch G h (w_sf z u))) := ⟨[4, 5, 6, 7, 8], [0, 1, 2, 3], [0, 1, 2, 3, 4, 5, 6, 7, 8], ([0, 1, 2, 3] : List Nat).filterMap (fun i => (wsSearch G h z)[i]?), rfl, rfl, by decide, by decide, by decide, by decide, fun u => rfl⟩
end
section
def wpX0_has (x1 : Int32) (z0 : wSt) (post : Int32 → Prop) : Prop := ((x1 < 0 → (post (0 : Int32))) ∧ (¬ x1 < 0 → (((w_i z0 4) ≤ x1 → (post (0 : Int32))) ∧ (¬ (w_i z0 4) ≤ x1 → (post (1 : Int32))))))
set_option maxHeartbeats 4000000 in
set_option maxRecDepth 100000 in
theorem cX0_has_c {l : Launch} {G : wG} {h : Nat → Nat} {x1 : Int32} {post : Int32 → Prop} {z0 : wSt}  (hw : wpX0_has x1 z0 post) : Met l yX0_has (.code yX0_has cX0_has 2 (some .boolean) :: BIG) { frames := 0, cells := 0, slots := 0, locals := 0 } (xPr G [.ref (h 0), .int x1] (wsFolk G h z0)) (vp_Si post) 0 0 (fun _ => False) := by
  refine xm_rz (by decide) (Nat.le_of_ble_eq_true rfl) (fun p e s m args below meth c ls R Q hC hK hP hl hF hL hret => ?_)
  have hx := hC.1
  have hb := hC.2.1
  have hl : lv_has ls 2 [(0, .ref (h 0)), (1, .int x1)] := hl
  unfold wpX0_has at hw
  refine lv_iload_n hx hb dX0_has_0 rfl (lv_at hl 1 rfl) ?_
  refine lv_if_lt (tgt := 16) hx hb dX0_has_1 (by decide) (fun hc => ?_) (fun hc => ?_)
  · have hw := And.left hw hc
    refine lv_iconst (v := (0 : Int32)) hx hb dX0_has_16 (by decide) ?_
    exact hret _ _ _ rfl hw dX0_has_17
  · have hw := And.right hw hc
    refine lv_iload_n hx hb dX0_has_4 rfl (lv_at hl 1 rfl) ?_
    refine lv_aload_n hx hb dX0_has_5 rfl (lv_at hl 0 rfl) ?_
    refine rg_F_X0_0_4 hC hK hP dX0_has_6 ?_
    refine lv_icmp_ge (tgt := 16) hx hb dX0_has_9 (by decide) (fun hc => ?_) (fun hc => ?_)
    · have hw := And.left hw hc
      refine lv_iconst (v := (0 : Int32)) hx hb dX0_has_16 (by decide) ?_
      exact hret _ _ _ rfl hw dX0_has_17
    · have hw := And.right hw hc
      refine lv_iconst (v := (1 : Int32)) hx hb dX0_has_12 (by decide) ?_
      refine lv_goto (tgt := 17) hx hb dX0_has_13 (by decide) ?_
      exact hret _ _ _ rfl hw dX0_has_17
def wpX0_add (x1 : Int32) (x2 : Int32) (x3 : Int32) (z0 : wSt) (post : Int32 → (wSt) → Prop) : Prop := (((w_i z0 4) < (6 : Int32) → (vp_in (w_i z0 4) 6 ∧ ∀ z1 : wSt, z1 = (w_sa z0 0 (upd (w_a z0 0) (w_i z0 4).toNatClampNeg x1)) → (vp_in (w_i z0 4) 6 ∧ ∀ z2 : wSt, z2 = (w_sa z1 1 (upd (w_a z1 1) (w_i z0 4).toNatClampNeg x2)) → (vp_in (w_i z0 4) 6 ∧ ∀ z3 : wSt, z3 = (w_sa z2 2 (upd (w_a z2 2) (w_i z0 4).toNatClampNeg x3)) → (vp_in (w_i z0 4) 6 ∧ ∀ z4 : wSt, z4 = (w_sa z3 3 (upd (w_a z3 3) (w_i z0 4).toNatClampNeg (0 : Int32))) → (∀ z5 : wSt, z5 = (w_si z4 4 ((w_i z0 4) + (1 : Int32))) → (post (w_i z0 4) z5))))))) ∧ (¬ (w_i z0 4) < (6 : Int32) → (post (-3 : Int32) z0)))
set_option maxHeartbeats 4000000 in
set_option maxRecDepth 100000 in
theorem cX0_add_c {l : Launch} {G : wG} {h : Nat → Nat} {sz : Nat} {x1 : Int32} {x2 : Int32} {x3 : Int32} {post : Int32 → (wSt) → Prop} {z0 : wSt}  (hw : wpX0_add x1 x2 x3 z0 post) : Met l yX0_add (.code yX0_add cX0_add 5 (some .int) :: BIG) { frames := 0, cells := 0, slots := 0, locals := 0 } (xPw G [.ref (h 0), .int x1, .int x2, .int x3] (wsFolk G h z0) sz) (xQi G post (fun q => (wsFolk G h q)) (va_A (wsFolk G h z0) sz)) 0 0 (va_A (wsFolk G h z0) sz) := by
  refine xm_wi (by decide) (Nat.le_of_ble_eq_true rfl) (fun p e s m args below meth c A ls R Q hC hK hA hP hD hS hl hF hL hret => ?_)
  have hx := hC.1
  have hb := hC.2.1
  have hl : lv_has ls 5 [(0, .ref (h 0)), (1, .int x1), (2, .int x2), (3, .int x3)] := hl
  unfold wpX0_add at hw
  refine lv_aload_n hx hb dX0_add_0 rfl (lv_at hl 0 rfl) ?_
  refine rg_F_X0_0_4 hC hK hP dX0_add_1 ?_
  refine lv_istore (lv' := [(4, .int (w_i z0 4)), (0, .ref (h 0)), (1, .int x1), (2, .int x2), (3, .int x3)]) hx hb dX0_add_4 hl (by decide) rfl (fun ls hl => ?_)
  refine lv_iload hx hb dX0_add_6 (lv_at hl 0 rfl) ?_
  refine lv_bipush (v := (6 : Int32)) hx hb dX0_add_8 (by decide) ?_
  refine lv_icmp_lt (tgt := 16) hx hb dX0_add_10 (by decide) (fun hc => ?_) (fun hc => ?_)
  · have hw := And.left hw hc
    refine lv_aload_n hx hb dX0_add_16 rfl (lv_at hl 1 rfl) ?_
    refine rg_F_X0_0_0 hC hK hP dX0_add_17 ?_
    refine lv_iload hx hb dX0_add_20 (lv_at hl 0 rfl) ?_
    refine lv_iload_n hx hb dX0_add_22 rfl (lv_at hl 2 rfl) ?_
    refine rs_F_1 hC hK hP hD hS (And.left hw) dX0_add_23 (fun z1 H locs hz1 hP hD hS => ?_)
    have hw := And.right hw z1 hz1
    refine lv_aload_n hx hb dX0_add_24 rfl (lv_at hl 1 rfl) ?_
    refine rg_F_X0_0_1 hC hK hP dX0_add_25 ?_
    refine lv_iload hx hb dX0_add_28 (lv_at hl 0 rfl) ?_
    refine lv_iload_n hx hb dX0_add_30 rfl (lv_at hl 3 rfl) ?_
    refine rs_F_2 hC hK hP hD hS (And.left hw) dX0_add_31 (fun z2 H locs hz1 hP hD hS => ?_)
    have hw := And.right hw z2 hz1
    refine lv_aload_n hx hb dX0_add_32 rfl (lv_at hl 1 rfl) ?_
    refine rg_F_X0_0_2 hC hK hP dX0_add_33 ?_
    refine lv_iload hx hb dX0_add_36 (lv_at hl 0 rfl) ?_
    refine lv_iload_n hx hb dX0_add_38 rfl (lv_at hl 4 rfl) ?_
    refine rs_F_3 hC hK hP hD hS (And.left hw) dX0_add_39 (fun z3 H locs hz1 hP hD hS => ?_)
    have hw := And.right hw z3 hz1
    refine lv_aload_n hx hb dX0_add_40 rfl (lv_at hl 1 rfl) ?_
    refine rg_F_X0_0_3 hC hK hP dX0_add_41 ?_
    refine lv_iload hx hb dX0_add_44 (lv_at hl 0 rfl) ?_
    refine lv_iconst (v := (0 : Int32)) hx hb dX0_add_46 (by decide) ?_
    refine rs_F_4 hC hK hP hD hS (And.left hw) dX0_add_47 (fun z4 H locs hz1 hP hD hS => ?_)
    have hw := And.right hw z4 hz1
    refine lv_aload_n hx hb dX0_add_48 rfl (lv_at hl 1 rfl) ?_
    refine lv_iload hx hb dX0_add_49 (lv_at hl 0 rfl) ?_
    refine lv_iconst (v := (1 : Int32)) hx hb dX0_add_51 (by decide) ?_
    refine lv_iadd hx hb dX0_add_52 ?_
    refine rp_F_X0_0_4 hC hK hP hD hS dX0_add_53 (fun z5 H locs hz1 hP hD hS => ?_)
    have hw := hw z5 hz1
    refine lv_iload hx hb dX0_add_56 (lv_at hl 0 rfl) ?_
    exact hret _ _ _ _ _ _ hw hP hD hS dX0_add_58
  · have hw := And.right hw hc
    refine lv_bipush (v := (-3 : Int32)) hx hb dX0_add_13 (by decide) ?_
    exact hret _ _ _ _ _ _ hw hP hD hS dX0_add_15
def wpX0_become_2 (k2 : Int32 → (wSt × wSt) → Prop) (post : (wSt × wSt) → Prop) (x2 : Int32) (z0 : wSt × wSt) : Prop := (((6 : Int32) ≤ x2 → (∀ z1 : wSt × wSt, z1 = ((w_si z0.1 4 (w_i z0.2 4)), z0.2) → (post z1))) ∧ (¬ (6 : Int32) ≤ x2 → (vp_in x2 6 ∧ (vp_in x2 6 ∧ ∀ z2 : wSt × wSt, z2 = ((w_sa z0.1 0 (upd (w_a z0.1 0) x2.toNatClampNeg ((w_a z0.2 0) x2.toNatClampNeg))), z0.2) → (vp_in x2 6 ∧ (vp_in x2 6 ∧ ∀ z3 : wSt × wSt, z3 = ((w_sa z2.1 1 (upd (w_a z2.1 1) x2.toNatClampNeg ((w_a z2.2 1) x2.toNatClampNeg))), z2.2) → (vp_in x2 6 ∧ (vp_in x2 6 ∧ ∀ z4 : wSt × wSt, z4 = ((w_sa z3.1 2 (upd (w_a z3.1 2) x2.toNatClampNeg ((w_a z3.2 2) x2.toNatClampNeg))), z3.2) → (vp_in x2 6 ∧ (vp_in x2 6 ∧ ∀ z5 : wSt × wSt, z5 = ((w_sa z4.1 3 (upd (w_a z4.1 3) x2.toNatClampNeg ((w_a z4.2 3) x2.toNatClampNeg))), z4.2) → (k2 (x2 + (1 : Int32)) z5)))))))))))
def wpX0_become_L2  (post : (wSt × wSt) → Prop) : Nat → Int32 → (wSt × wSt) → Prop
  | 0 => fun _ _ => False
  | n + 1 => fun x2 z0 => wpX0_become_2  (wpX0_become_L2  post n) post x2 z0
def wpX0_become (z0 : wSt × wSt) (post : (wSt × wSt) → Prop) : Prop := (∃ n, wpX0_become_L2  post n (0 : Int32) z0)
set_option maxHeartbeats 4000000 in
set_option maxRecDepth 100000 in
theorem cX0_become_c {l : Launch} {G : wG} {h g : Nat → Nat} {sz : Nat}  {post : (wSt × wSt) → Prop} {z0 : wSt × wSt}  (hw : wpX0_become z0 post) : Met l yX0_become (.code yX0_become cX0_become 3 none :: BIG) { frames := 0, cells := 0, slots := 0, locals := 0 } (xPw G [.ref (h 0), .ref (g 0)] (wsFolk G h z0.1 ++ wsFolk G g z0.2) sz) (xQv G post (fun q => (wsFolk G h q.1 ++ wsFolk G g q.2)) (va_A (wsFolk G h z0.1 ++ wsFolk G g z0.2) sz)) 0 0 (va_A (wsFolk G h z0.1 ++ wsFolk G g z0.2) sz) := by
  refine xm_wv (by decide) (Nat.le_of_ble_eq_true rfl) (fun p e s m args below meth c A ls R Q hC hK hA hP hD hS hl hF hL hret => ?_)
  have hx := hC.1
  have hb := hC.2.1
  have hl : lv_has ls 3 [(0, .ref (h 0)), (1, .ref (g 0))] := hl
  have B2 : ∀ n : Nat, ∀ (x2 : Int32) (z0 : wSt × wSt) (H : Heap) (locs : List Loc) (ls : Array Slot), wpX0_become_L2  post n x2 z0 → va_P G.1 vwCl (wsFolk G h z0.1 ++ wsFolk G g z0.2) H → va_D A (wsFolk G h z0.1 ++ wsFolk G g z0.2) → va_S A s.heap H locs → lv_has ls 3 [(0, .ref (h 0)), (1, .ref (g 0)), (2, .int x2)] → W p l e R s m args below meth c H locs 0 0 Q (F0 m 2 ls []) := by
    intro n
    induction n with
    | zero => intro x2 z0 H locs ls hw hP hD hS hl; exact False.elim hw
    | succ n I2 =>
      intro x2 z0 H locs ls hw hP hD hS hl
      have hw : wpX0_become_2  (wpX0_become_L2  post n) post x2 z0 := hw
      unfold wpX0_become_2 at hw
      refine lv_iload_n hx hb dX0_become_2 rfl (lv_at hl 2 rfl) ?_
      refine lv_bipush (v := (6 : Int32)) hx hb dX0_become_3 (by decide) ?_
      refine lv_icmp_ge (tgt := 62) hx hb dX0_become_5 (by decide) (fun hc => ?_) (fun hc => ?_)
      · have hw := And.left hw hc
        refine lv_aload_n hx hb dX0_become_62 rfl (lv_at hl 0 rfl) ?_
        refine lv_aload_n hx hb dX0_become_63 rfl (lv_at hl 1 rfl) ?_
        refine rg_FF_X0_5_4 hC hK hP dX0_become_64 ?_
        refine rp_FF_X0_0_4 hC hK hP hD hS dX0_become_67 (fun z1 H locs hz1 hP hD hS => ?_)
        have hw := hw z1 hz1
        exact hret _ _ _ _ _ hw hP hD hS dX0_become_70
      · have hw := And.right hw hc
        refine lv_aload_n hx hb dX0_become_8 rfl (lv_at hl 0 rfl) ?_
        refine rg_FF_X0_0_0 hC hK hP dX0_become_9 ?_
        refine lv_iload_n hx hb dX0_become_12 rfl (lv_at hl 2 rfl) ?_
        refine lv_aload_n hx hb dX0_become_13 rfl (lv_at hl 1 rfl) ?_
        refine rg_FF_X0_5_0 hC hK hP dX0_become_14 ?_
        refine lv_iload_n hx hb dX0_become_17 rfl (lv_at hl 2 rfl) ?_
        refine rl_FF_6 hC hK hP (And.left hw) dX0_become_18 ?_
        have hw := And.right hw
        refine rs_FF_1 hC hK hP hD hS (And.left hw) dX0_become_19 (fun z2 H locs hz1 hP hD hS => ?_)
        have hw := And.right hw z2 hz1
        refine lv_aload_n hx hb dX0_become_20 rfl (lv_at hl 0 rfl) ?_
        refine rg_FF_X0_0_1 hC hK hP dX0_become_21 ?_
        refine lv_iload_n hx hb dX0_become_24 rfl (lv_at hl 2 rfl) ?_
        refine lv_aload_n hx hb dX0_become_25 rfl (lv_at hl 1 rfl) ?_
        refine rg_FF_X0_5_1 hC hK hP dX0_become_26 ?_
        refine lv_iload_n hx hb dX0_become_29 rfl (lv_at hl 2 rfl) ?_
        refine rl_FF_7 hC hK hP (And.left hw) dX0_become_30 ?_
        have hw := And.right hw
        refine rs_FF_2 hC hK hP hD hS (And.left hw) dX0_become_31 (fun z3 H locs hz1 hP hD hS => ?_)
        have hw := And.right hw z3 hz1
        refine lv_aload_n hx hb dX0_become_32 rfl (lv_at hl 0 rfl) ?_
        refine rg_FF_X0_0_2 hC hK hP dX0_become_33 ?_
        refine lv_iload_n hx hb dX0_become_36 rfl (lv_at hl 2 rfl) ?_
        refine lv_aload_n hx hb dX0_become_37 rfl (lv_at hl 1 rfl) ?_
        refine rg_FF_X0_5_2 hC hK hP dX0_become_38 ?_
        refine lv_iload_n hx hb dX0_become_41 rfl (lv_at hl 2 rfl) ?_
        refine rl_FF_8 hC hK hP (And.left hw) dX0_become_42 ?_
        have hw := And.right hw
        refine rs_FF_3 hC hK hP hD hS (And.left hw) dX0_become_43 (fun z4 H locs hz1 hP hD hS => ?_)
        have hw := And.right hw z4 hz1
        refine lv_aload_n hx hb dX0_become_44 rfl (lv_at hl 0 rfl) ?_
        refine rg_FF_X0_0_3 hC hK hP dX0_become_45 ?_
        refine lv_iload_n hx hb dX0_become_48 rfl (lv_at hl 2 rfl) ?_
        refine lv_aload_n hx hb dX0_become_49 rfl (lv_at hl 1 rfl) ?_
        refine rg_FF_X0_5_3 hC hK hP dX0_become_50 ?_
        refine lv_iload_n hx hb dX0_become_53 rfl (lv_at hl 2 rfl) ?_
        refine rl_FF_9 hC hK hP (And.left hw) dX0_become_54 ?_
        have hw := And.right hw
        refine rs_FF_4 hC hK hP hD hS (And.left hw) dX0_become_55 (fun z5 H locs hz1 hP hD hS => ?_)
        have hw := And.right hw z5 hz1
        refine lv_iinc (v := (x2 + (1 : Int32))) (lv' := [(2, .int (x2 + (1 : Int32))), (0, .ref (h 0)), (1, .ref (g 0))]) hx hb dX0_become_56 hl (k := 2) rfl rfl (by decide) rfl (fun ls hl => ?_)
        refine lv_goto (tgt := 2) hx hb dX0_become_59 (by decide) ?_
        exact I2 (x2 + (1 : Int32)) z5 _ _ _ hw hP hD hS (lv_sub hl [1, 2, 0] rfl)
  unfold wpX0_become at hw
  refine lv_iconst (v := (0 : Int32)) hx hb dX0_become_0 (by decide) ?_
  refine lv_istore_n (lv' := [(2, .int (0 : Int32)), (0, .ref (h 0)), (1, .ref (g 0))]) hx hb dX0_become_1 rfl hl (by decide) rfl (fun ls hl => ?_)
  obtain ⟨n2, hw⟩ := hw
  exact B2 n2 (0 : Int32) z0 _ _ _ hw hP hD hS (lv_sub hl [1, 2, 0] rfl)
def wpX0_areFoes (x1 : Int32) (x2 : Int32) (z0 : wSt) (post : Int32 → Prop) : Prop := (wpX0_has x1 z0 (fun r1 => ((r1 = 0 → (post (0 : Int32))) ∧ (¬ r1 = 0 → (wpX0_has x2 z0 (fun r2 => ((r2 = 0 → (post (0 : Int32))) ∧ (¬ r2 = 0 → (vp_in x1 6 ∧ ((¬ ((((w_a z0 3) x1.toNatClampNeg) >>> (x2 &&& 31)) &&& (1 : Int32)) = (1 : Int32) → (post (0 : Int32))) ∧ (((((w_a z0 3) x1.toNatClampNeg) >>> (x2 &&& 31)) &&& (1 : Int32)) = (1 : Int32) → (post (1 : Int32)))))))))))))
set_option maxHeartbeats 4000000 in
set_option maxRecDepth 100000 in
theorem cX0_areFoes_c {l : Launch} {G : wG} {h : Nat → Nat} {x1 : Int32} {x2 : Int32} {post : Int32 → Prop} {z0 : wSt}  (hw : wpX0_areFoes x1 x2 z0 post) : Met l yX0_areFoes (.code yX0_areFoes cX0_areFoes 3 (some .boolean) :: BIG) { frames := 1, cells := 0, slots := 0, locals := 21 } (xPr G [.ref (h 0), .int x1, .int x2] (wsFolk G h z0)) (vp_Si post) 0 0 (fun _ => False) := by
  refine xm_rz (by decide) (Nat.le_of_ble_eq_true rfl) (fun p e s m args below meth c ls R Q hC hK hP hl hF hL hret => ?_)
  have hx := hC.1
  have hb := hC.2.1
  have hl : lv_has ls 3 [(0, .ref (h 0)), (1, .int x1), (2, .int x2)] := hl
  unfold wpX0_areFoes at hw
  refine lv_aload_n hx hb dX0_areFoes_0 rfl (lv_at hl 0 rfl) ?_
  refine lv_iload_n hx hb dX0_areFoes_1 rfl (lv_at hl 1 rfl) ?_
  refine vp_callSi (xro (xr_V hC (cX0_has_c (h := h) hw) ⟨rfl, rfl⟩ bw_247 calX0_has ⟨Nat.le_trans (Nat.le_of_ble_eq_true rfl) hF, Nat.le_trans (Nat.le_of_ble_eq_true rfl) hL⟩ (rest := []) (xpR hK hP rfl rfl) rfl hl rfl (Nat.le_of_ble_eq_true rfl) dX0_areFoes_2 ⟨Nat.zero_le _, Nat.zero_le _⟩)) (fun r1 hw => ?_)
  refine lv_if_eq (tgt := 34) hx hb dX0_areFoes_5 (by decide) (fun hc => ?_) (fun hc => ?_)
  · have hw := And.left hw hc
    refine lv_iconst (v := (0 : Int32)) hx hb dX0_areFoes_34 (by decide) ?_
    exact hret _ _ _ rfl hw dX0_areFoes_35
  · have hw := And.right hw hc
    refine lv_aload_n hx hb dX0_areFoes_8 rfl (lv_at hl 0 rfl) ?_
    refine lv_iload_n hx hb dX0_areFoes_9 rfl (lv_at hl 2 rfl) ?_
    refine vp_callSi (xro (xr_V hC (cX0_has_c (h := h) hw) ⟨rfl, rfl⟩ bw_247 calX0_has ⟨Nat.le_trans (Nat.le_of_ble_eq_true rfl) hF, Nat.le_trans (Nat.le_of_ble_eq_true rfl) hL⟩ (rest := []) (xpR hK hP rfl rfl) rfl hl rfl (Nat.le_of_ble_eq_true rfl) dX0_areFoes_10 ⟨Nat.zero_le _, Nat.zero_le _⟩)) (fun r2 hw => ?_)
    refine lv_if_eq (tgt := 34) hx hb dX0_areFoes_13 (by decide) (fun hc => ?_) (fun hc => ?_)
    · have hw := And.left hw hc
      refine lv_iconst (v := (0 : Int32)) hx hb dX0_areFoes_34 (by decide) ?_
      exact hret _ _ _ rfl hw dX0_areFoes_35
    · have hw := And.right hw hc
      refine lv_aload_n hx hb dX0_areFoes_16 rfl (lv_at hl 0 rfl) ?_
      refine rg_F_X0_0_3 hC hK hP dX0_areFoes_17 ?_
      refine lv_iload_n hx hb dX0_areFoes_20 rfl (lv_at hl 1 rfl) ?_
      refine rl_F_4 hC hK hP (And.left hw) dX0_areFoes_21 ?_
      have hw := And.right hw
      refine lv_iload_n hx hb dX0_areFoes_22 rfl (lv_at hl 2 rfl) ?_
      refine lv_ishr hx hb dX0_areFoes_23 ?_
      refine lv_iconst (v := (1 : Int32)) hx hb dX0_areFoes_24 (by decide) ?_
      refine lv_iand hx hb dX0_areFoes_25 ?_
      refine lv_iconst (v := (1 : Int32)) hx hb dX0_areFoes_26 (by decide) ?_
      refine lv_icmp_ne (tgt := 34) hx hb dX0_areFoes_27 (by decide) (fun hc => ?_) (fun hc => ?_)
      · have hw := And.left hw hc
        refine lv_iconst (v := (0 : Int32)) hx hb dX0_areFoes_34 (by decide) ?_
        exact hret _ _ _ rfl hw dX0_areFoes_35
      · have hw := And.right hw hc
        refine lv_iconst (v := (1 : Int32)) hx hb dX0_areFoes_30 (by decide) ?_
        refine lv_goto (tgt := 35) hx hb dX0_areFoes_31 (by decide) ?_
        exact hret _ _ _ rfl hw dX0_areFoes_35
def wpX0_makeFoes_86  (post : (wSt) → Prop) (t0 : Int32) (t1 : Int32) (z0 : wSt) : Prop := (vp_in t1 6 ∧ ∀ z1 : wSt, z1 = (w_sa z0 3 (upd (w_a z0 3) t1.toNatClampNeg t0)) → (post z1))
def wpX0_makeFoes_51  (post : (wSt) → Prop) (x1 : Int32) (x2 : Int32) (x3 : Int32) (t0 : Int32) (t1 : Int32) (z0 : wSt) : Prop := (vp_in t1 6 ∧ ∀ z1 : wSt, z1 = (w_sa z0 3 (upd (w_a z0 3) t1.toNatClampNeg t0)) → ((x3 = 0 → (vp_in x2 6 ∧ (wpX0_makeFoes_86  post (((w_a z1 3) x2.toNatClampNeg) &&& (((1 : Int32) <<< (x1 &&& 31)) ^^^ (-1 : Int32))) x2 z1))) ∧ (¬ x3 = 0 → (vp_in x2 6 ∧ (wpX0_makeFoes_86  post (((w_a z1 3) x2.toNatClampNeg) ||| ((1 : Int32) <<< (x1 &&& 31))) x2 z1)))))
def wpX0_makeFoes (x1 : Int32) (x2 : Int32) (x3 : Int32) (z0 : wSt) (post : (wSt) → Prop) : Prop := (wpX0_has x1 z0 (fun r1 => ((r1 = 0 → (post z0)) ∧ (¬ r1 = 0 → (wpX0_has x2 z0 (fun r2 => ((¬ r2 = 0 → ((x3 = 0 → (vp_in x1 6 ∧ (wpX0_makeFoes_51  post x1 x2 x3 (((w_a z0 3) x1.toNatClampNeg) &&& (((1 : Int32) <<< (x2 &&& 31)) ^^^ (-1 : Int32))) x1 z0))) ∧ (¬ x3 = 0 → (vp_in x1 6 ∧ (wpX0_makeFoes_51  post x1 x2 x3 (((w_a z0 3) x1.toNatClampNeg) ||| ((1 : Int32) <<< (x2 &&& 31))) x1 z0))))) ∧ (r2 = 0 → (post z0)))))))))
set_option maxHeartbeats 4000000 in
set_option maxRecDepth 100000 in
theorem cX0_makeFoes_c {l : Launch} {G : wG} {h : Nat → Nat} {sz : Nat} {x1 : Int32} {x2 : Int32} {x3 : Int32} {post : (wSt) → Prop} {z0 : wSt}  (hw : wpX0_makeFoes x1 x2 x3 z0 post) : Met l yX0_makeFoes (.code yX0_makeFoes cX0_makeFoes 4 none :: BIG) { frames := 1, cells := 0, slots := 0, locals := 21 } (xPw G [.ref (h 0), .int x1, .int x2, .int x3] (wsFolk G h z0) sz) (xQv G post (fun q => (wsFolk G h q)) (va_A (wsFolk G h z0) sz)) 0 0 (va_A (wsFolk G h z0) sz) := by
  refine xm_wv (by decide) (Nat.le_of_ble_eq_true rfl) (fun p e s m args below meth c A ls R Q hC hK hA hP hD hS hl hF hL hret => ?_)
  have hx := hC.1
  have hb := hC.2.1
  have hl : lv_has ls 4 [(0, .ref (h 0)), (1, .int x1), (2, .int x2), (3, .int x3)] := hl
  have B86 : ∀ (t0 : Int32) (t1 : Int32) (z0 : wSt) (H : Heap) (locs : List Loc) (ls : Array Slot), wpX0_makeFoes_86  post t0 t1 z0 → va_P G.1 vwCl (wsFolk G h z0) H → va_D A (wsFolk G h z0) → va_S A s.heap H locs → lv_has ls 4 [] → W p l e R s m args below meth c H locs 0 0 Q (F0 m 86 ls [.int t0, .int t1, .ref (h 4)]) := by
    intro t0 t1 z0 H locs ls hw hP hD hS hl
    unfold wpX0_makeFoes_86 at hw
    refine rs_F_4 hC hK hP hD hS (And.left hw) dX0_makeFoes_86 (fun z1 H locs hz1 hP hD hS => ?_)
    have hw := And.right hw z1 hz1
    exact hret _ _ _ _ _ hw hP hD hS dX0_makeFoes_87
  have B51 : ∀ (x1 : Int32) (x2 : Int32) (x3 : Int32) (t0 : Int32) (t1 : Int32) (z0 : wSt) (H : Heap) (locs : List Loc) (ls : Array Slot), wpX0_makeFoes_51  post x1 x2 x3 t0 t1 z0 → va_P G.1 vwCl (wsFolk G h z0) H → va_D A (wsFolk G h z0) → va_S A s.heap H locs → lv_has ls 4 [(0, .ref (h 0)), (1, .int x1), (2, .int x2), (3, .int x3)] → W p l e R s m args below meth c H locs 0 0 Q (F0 m 51 ls [.int t0, .int t1, .ref (h 4)]) := by
    intro x1 x2 x3 t0 t1 z0 H locs ls hw hP hD hS hl
    unfold wpX0_makeFoes_51 at hw
    refine rs_F_4 hC hK hP hD hS (And.left hw) dX0_makeFoes_51 (fun z1 H locs hz1 hP hD hS => ?_)
    have hw := And.right hw z1 hz1
    refine lv_aload_n hx hb dX0_makeFoes_52 rfl (lv_at hl 0 rfl) ?_
    refine rg_F_X0_0_3 hC hK hP dX0_makeFoes_53 ?_
    refine lv_iload_n hx hb dX0_makeFoes_56 rfl (lv_at hl 2 rfl) ?_
    refine lv_iload_n hx hb dX0_makeFoes_57 rfl (lv_at hl 3 rfl) ?_
    refine lv_if_eq (tgt := 74) hx hb dX0_makeFoes_58 (by decide) (fun hc => ?_) (fun hc => ?_)
    · have hw := And.left hw hc
      refine lv_aload_n hx hb dX0_makeFoes_74 rfl (lv_at hl 0 rfl) ?_
      refine rg_F_X0_0_3 hC hK hP dX0_makeFoes_75 ?_
      refine lv_iload_n hx hb dX0_makeFoes_78 rfl (lv_at hl 2 rfl) ?_
      refine rl_F_4 hC hK hP (And.left hw) dX0_makeFoes_79 ?_
      have hw := And.right hw
      refine lv_iconst (v := (1 : Int32)) hx hb dX0_makeFoes_80 (by decide) ?_
      refine lv_iload_n hx hb dX0_makeFoes_81 rfl (lv_at hl 1 rfl) ?_
      refine lv_ishl hx hb dX0_makeFoes_82 ?_
      refine lv_iconst (v := (-1 : Int32)) hx hb dX0_makeFoes_83 (by decide) ?_
      refine lv_ixor hx hb dX0_makeFoes_84 ?_
      refine lv_iand hx hb dX0_makeFoes_85 ?_
      exact B86 (((w_a z1 3) x2.toNatClampNeg) &&& (((1 : Int32) <<< (x1 &&& 31)) ^^^ (-1 : Int32))) x2 z1 _ _ _ hw hP hD hS (lv_sub hl [] rfl)
    · have hw := And.right hw hc
      refine lv_aload_n hx hb dX0_makeFoes_61 rfl (lv_at hl 0 rfl) ?_
      refine rg_F_X0_0_3 hC hK hP dX0_makeFoes_62 ?_
      refine lv_iload_n hx hb dX0_makeFoes_65 rfl (lv_at hl 2 rfl) ?_
      refine rl_F_4 hC hK hP (And.left hw) dX0_makeFoes_66 ?_
      have hw := And.right hw
      refine lv_iconst (v := (1 : Int32)) hx hb dX0_makeFoes_67 (by decide) ?_
      refine lv_iload_n hx hb dX0_makeFoes_68 rfl (lv_at hl 1 rfl) ?_
      refine lv_ishl hx hb dX0_makeFoes_69 ?_
      refine lv_ior hx hb dX0_makeFoes_70 ?_
      refine lv_goto (tgt := 86) hx hb dX0_makeFoes_71 (by decide) ?_
      exact B86 (((w_a z1 3) x2.toNatClampNeg) ||| ((1 : Int32) <<< (x1 &&& 31))) x2 z1 _ _ _ hw hP hD hS (lv_sub hl [] rfl)
  unfold wpX0_makeFoes at hw
  refine lv_aload_n hx hb dX0_makeFoes_0 rfl (lv_at hl 0 rfl) ?_
  refine lv_iload_n hx hb dX0_makeFoes_1 rfl (lv_at hl 1 rfl) ?_
  refine vp_callSi (xro (xr_V hC (cX0_has_c (h := h) hw) ⟨rfl, rfl⟩ bw_247 calX0_has ⟨Nat.le_trans (Nat.le_of_ble_eq_true rfl) hF, Nat.le_trans (Nat.le_of_ble_eq_true rfl) hL⟩ (rest := []) (xpR hK hP rfl rfl) rfl hl rfl (Nat.le_of_ble_eq_true rfl) dX0_makeFoes_2 ⟨Nat.zero_le _, Nat.zero_le _⟩)) (fun r1 hw => ?_)
  refine lv_if_eq (tgt := 16) hx hb dX0_makeFoes_5 (by decide) (fun hc => ?_) (fun hc => ?_)
  · have hw := And.left hw hc
    exact hret _ _ _ _ _ hw hP hD hS dX0_makeFoes_16
  · have hw := And.right hw hc
    refine lv_aload_n hx hb dX0_makeFoes_8 rfl (lv_at hl 0 rfl) ?_
    refine lv_iload_n hx hb dX0_makeFoes_9 rfl (lv_at hl 2 rfl) ?_
    refine vp_callSi (xro (xr_V hC (cX0_has_c (h := h) hw) ⟨rfl, rfl⟩ bw_247 calX0_has ⟨Nat.le_trans (Nat.le_of_ble_eq_true rfl) hF, Nat.le_trans (Nat.le_of_ble_eq_true rfl) hL⟩ (rest := []) (xpR hK hP rfl rfl) rfl hl rfl (Nat.le_of_ble_eq_true rfl) dX0_makeFoes_10 ⟨Nat.zero_le _, Nat.zero_le _⟩)) (fun r2 hw => ?_)
    refine lv_if_ne (tgt := 17) hx hb dX0_makeFoes_13 (by decide) (fun hc => ?_) (fun hc => ?_)
    · have hw := And.left hw hc
      refine lv_aload_n hx hb dX0_makeFoes_17 rfl (lv_at hl 0 rfl) ?_
      refine rg_F_X0_0_3 hC hK hP dX0_makeFoes_18 ?_
      refine lv_iload_n hx hb dX0_makeFoes_21 rfl (lv_at hl 1 rfl) ?_
      refine lv_iload_n hx hb dX0_makeFoes_22 rfl (lv_at hl 3 rfl) ?_
      refine lv_if_eq (tgt := 39) hx hb dX0_makeFoes_23 (by decide) (fun hc => ?_) (fun hc => ?_)
      · have hw := And.left hw hc
        refine lv_aload_n hx hb dX0_makeFoes_39 rfl (lv_at hl 0 rfl) ?_
        refine rg_F_X0_0_3 hC hK hP dX0_makeFoes_40 ?_
        refine lv_iload_n hx hb dX0_makeFoes_43 rfl (lv_at hl 1 rfl) ?_
        refine rl_F_4 hC hK hP (And.left hw) dX0_makeFoes_44 ?_
        have hw := And.right hw
        refine lv_iconst (v := (1 : Int32)) hx hb dX0_makeFoes_45 (by decide) ?_
        refine lv_iload_n hx hb dX0_makeFoes_46 rfl (lv_at hl 2 rfl) ?_
        refine lv_ishl hx hb dX0_makeFoes_47 ?_
        refine lv_iconst (v := (-1 : Int32)) hx hb dX0_makeFoes_48 (by decide) ?_
        refine lv_ixor hx hb dX0_makeFoes_49 ?_
        refine lv_iand hx hb dX0_makeFoes_50 ?_
        exact B51 x1 x2 x3 (((w_a z0 3) x1.toNatClampNeg) &&& (((1 : Int32) <<< (x2 &&& 31)) ^^^ (-1 : Int32))) x1 z0 _ _ _ hw hP hD hS (lv_sub hl [0, 1, 2, 3] rfl)
      · have hw := And.right hw hc
        refine lv_aload_n hx hb dX0_makeFoes_26 rfl (lv_at hl 0 rfl) ?_
        refine rg_F_X0_0_3 hC hK hP dX0_makeFoes_27 ?_
        refine lv_iload_n hx hb dX0_makeFoes_30 rfl (lv_at hl 1 rfl) ?_
        refine rl_F_4 hC hK hP (And.left hw) dX0_makeFoes_31 ?_
        have hw := And.right hw
        refine lv_iconst (v := (1 : Int32)) hx hb dX0_makeFoes_32 (by decide) ?_
        refine lv_iload_n hx hb dX0_makeFoes_33 rfl (lv_at hl 2 rfl) ?_
        refine lv_ishl hx hb dX0_makeFoes_34 ?_
        refine lv_ior hx hb dX0_makeFoes_35 ?_
        refine lv_goto (tgt := 51) hx hb dX0_makeFoes_36 (by decide) ?_
        exact B51 x1 x2 x3 (((w_a z0 3) x1.toNatClampNeg) ||| ((1 : Int32) <<< (x2 &&& 31))) x1 z0 _ _ _ hw hP hD hS (lv_sub hl [0, 1, 2, 3] rfl)
    · have hw := And.right hw hc
      exact hret _ _ _ _ _ hw hP hD hS dX0_makeFoes_16
def wpX0_pailsAt_29  (z0 : wSt) (post : Int32 → Prop) (x2 : Int32) (x3 : Int32) : Prop := (post (if (0 : Int32) < (if (x3 + x2) < (9 : Int32) then (x3 + x2) else (9 : Int32)) then (if (x3 + x2) < (9 : Int32) then (x3 + x2) else (9 : Int32)) else (0 : Int32)))
def wpX0_pailsAt (x1 : Int32) (x2 : Int32) (z0 : wSt) (post : Int32 → Prop) : Prop := (vp_in x1 6 ∧ ((¬ ((w_a z0 0) x1.toNatClampNeg) = (1 : Int32) → (vp_in x1 6 ∧ ((¬ ((w_a z0 0) x1.toNatClampNeg) = (3 : Int32) → (wpX0_pailsAt_29  z0 post x2 (4 : Int32))) ∧ (((w_a z0 0) x1.toNatClampNeg) = (3 : Int32) → (wpX0_pailsAt_29  z0 post x2 (2 : Int32)))))) ∧ (((w_a z0 0) x1.toNatClampNeg) = (1 : Int32) → (wpX0_pailsAt_29  z0 post x2 (5 : Int32)))))
set_option maxHeartbeats 4000000 in
set_option maxRecDepth 100000 in
theorem cX0_pailsAt_c {l : Launch} {G : wG} {h : Nat → Nat} {x1 : Int32} {x2 : Int32} {post : Int32 → Prop} {z0 : wSt}  (hw : wpX0_pailsAt x1 x2 z0 post) : Met l yX0_pailsAt (.code yX0_pailsAt cX0_pailsAt 4 (some .int) :: BIG) { frames := 1, cells := 0, slots := 0, locals := 21 } (xPr G [.ref (h 0), .int x1, .int x2] (wsFolk G h z0)) (vp_Si post) 0 0 (fun _ => False) := by
  refine xm_ri (by decide) (Nat.le_of_ble_eq_true rfl) (fun p e s m args below meth c ls R Q hC hK hP hl hF hL hret => ?_)
  have hx := hC.1
  have hb := hC.2.1
  have hl : lv_has ls 4 [(0, .ref (h 0)), (1, .int x1), (2, .int x2)] := hl
  have B29 : ∀ (x2 : Int32) (x3 : Int32) (ls : Array Slot), wpX0_pailsAt_29  z0 post x2 x3 → lv_has ls 4 [(2, .int x2), (3, .int x3)] → W p l e R s m args below meth c s.heap [] 0 0 Q (F0 m 29 ls []) := by
    intro x2 x3 ls hw hl
    unfold wpX0_pailsAt_29 at hw
    refine lv_iconst (v := (0 : Int32)) hx hb dX0_pailsAt_29 (by decide) ?_
    refine lv_bipush (v := (9 : Int32)) hx hb dX0_pailsAt_30 (by decide) ?_
    refine lv_iload_n hx hb dX0_pailsAt_32 rfl (lv_at hl 1 rfl) ?_
    refine lv_iload_n hx hb dX0_pailsAt_33 rfl (lv_at hl 0 rfl) ?_
    refine lv_iadd hx hb dX0_pailsAt_34 ?_
    refine va_mmin hx hb (hC.2.2.1.trans hl.1.symm) hC.2.2.2.1 (hC.2.2.2.2 _ bw_368) (hC.2.2.2.2 _ bw_328) (hC.2.2.2.2 _ bw_8) (hC.2.2.2.2 _ bw_code_min) (Nat.le_trans (Nat.le_of_ble_eq_true rfl) hF) (Nat.le_trans (Nat.le_of_ble_eq_true rfl) hL) (Nat.zero_le _) (Nat.zero_le _) dX0_pailsAt_35 ?_
    refine va_mmax hx hb (hC.2.2.1.trans hl.1.symm) hC.2.2.2.1 (hC.2.2.2.2 _ bw_369) (hC.2.2.2.2 _ bw_370) (hC.2.2.2.2 _ bw_8) (hC.2.2.2.2 _ bw_code_max) (Nat.le_trans (Nat.le_of_ble_eq_true rfl) hF) (Nat.le_trans (Nat.le_of_ble_eq_true rfl) hL) (Nat.zero_le _) (Nat.zero_le _) dX0_pailsAt_38 ?_
    exact hret _ _ _ hw dX0_pailsAt_41
  unfold wpX0_pailsAt at hw
  refine lv_iconst (v := (4 : Int32)) hx hb dX0_pailsAt_0 (by decide) ?_
  refine lv_istore_n (lv' := [(3, .int (4 : Int32)), (0, .ref (h 0)), (1, .int x1), (2, .int x2)]) hx hb dX0_pailsAt_1 rfl hl (by decide) rfl (fun ls hl => ?_)
  refine lv_aload_n hx hb dX0_pailsAt_2 rfl (lv_at hl 1 rfl) ?_
  refine rg_F_X0_0_0 hC hK hP dX0_pailsAt_3 ?_
  refine lv_iload_n hx hb dX0_pailsAt_6 rfl (lv_at hl 2 rfl) ?_
  refine rl_F_1 hC hK hP (And.left hw) dX0_pailsAt_7 ?_
  have hw := And.right hw
  refine lv_iconst (v := (1 : Int32)) hx hb dX0_pailsAt_8 (by decide) ?_
  refine lv_icmp_ne (tgt := 17) hx hb dX0_pailsAt_9 (by decide) (fun hc => ?_) (fun hc => ?_)
  · have hw := And.left hw hc
    refine lv_aload_n hx hb dX0_pailsAt_17 rfl (lv_at hl 1 rfl) ?_
    refine rg_F_X0_0_0 hC hK hP dX0_pailsAt_18 ?_
    refine lv_iload_n hx hb dX0_pailsAt_21 rfl (lv_at hl 2 rfl) ?_
    refine rl_F_1 hC hK hP (And.left hw) dX0_pailsAt_22 ?_
    have hw := And.right hw
    refine lv_iconst (v := (3 : Int32)) hx hb dX0_pailsAt_23 (by decide) ?_
    refine lv_icmp_ne (tgt := 29) hx hb dX0_pailsAt_24 (by decide) (fun hc => ?_) (fun hc => ?_)
    · have hw := And.left hw hc
      exact B29 x2 (4 : Int32) _ hw (lv_sub hl [3, 0] rfl)
    · have hw := And.right hw hc
      refine lv_iconst (v := (2 : Int32)) hx hb dX0_pailsAt_27 (by decide) ?_
      refine lv_istore_n (lv' := [(3, .int (2 : Int32)), (0, .ref (h 0)), (1, .int x1), (2, .int x2)]) hx hb dX0_pailsAt_28 rfl hl (by decide) rfl (fun ls hl => ?_)
      exact B29 x2 (2 : Int32) _ hw (lv_sub hl [3, 0] rfl)
  · have hw := And.right hw hc
    refine lv_iconst (v := (5 : Int32)) hx hb dX0_pailsAt_12 (by decide) ?_
    refine lv_istore_n (lv' := [(3, .int (5 : Int32)), (0, .ref (h 0)), (1, .int x1), (2, .int x2)]) hx hb dX0_pailsAt_13 rfl hl (by decide) rfl (fun ls hl => ?_)
    refine lv_goto (tgt := 29) hx hb dX0_pailsAt_14 (by decide) ?_
    exact B29 x2 (5 : Int32) _ hw (lv_sub hl [3, 0] rfl)
def wpX0_pailsBehind (x1 : Int32) (x2 : Int32) (x3 : Int32) (x4 : Int32) (z0 : wSt) (post : Int32 → Prop) : Prop := (wpX0_areFoes x1 x2 z0 (fun r1 => ((r1 = 0 → (wpX0_pailsAt x2 x3 z0 (fun r2 => (post (if r2 < x4 then r2 else x4))))) ∧ (¬ r1 = 0 → (post (0 : Int32))))))
set_option maxHeartbeats 4000000 in
set_option maxRecDepth 100000 in
theorem cX0_pailsBehind_c {l : Launch} {G : wG} {h : Nat → Nat} {x1 : Int32} {x2 : Int32} {x3 : Int32} {x4 : Int32} {post : Int32 → Prop} {z0 : wSt}  (hw : wpX0_pailsBehind x1 x2 x3 x4 z0 post) : Met l yX0_pailsBehind (.code yX0_pailsBehind cX0_pailsBehind 5 (some .int) :: BIG) { frames := 2, cells := 0, slots := 0, locals := 44 } (xPr G [.ref (h 0), .int x1, .int x2, .int x3, .int x4] (wsFolk G h z0)) (vp_Si post) 0 0 (fun _ => False) := by
  refine xm_ri (by decide) (Nat.le_of_ble_eq_true rfl) (fun p e s m args below meth c ls R Q hC hK hP hl hF hL hret => ?_)
  have hx := hC.1
  have hb := hC.2.1
  have hl : lv_has ls 5 [(0, .ref (h 0)), (1, .int x1), (2, .int x2), (3, .int x3), (4, .int x4)] := hl
  unfold wpX0_pailsBehind at hw
  refine lv_aload_n hx hb dX0_pailsBehind_0 rfl (lv_at hl 0 rfl) ?_
  refine lv_iload_n hx hb dX0_pailsBehind_1 rfl (lv_at hl 1 rfl) ?_
  refine lv_iload_n hx hb dX0_pailsBehind_2 rfl (lv_at hl 2 rfl) ?_
  refine vp_callSi (xro (xr_V hC (cX0_areFoes_c (h := h) hw) ⟨rfl, rfl⟩ bw_363 calX0_areFoes ⟨Nat.le_trans (Nat.le_of_ble_eq_true rfl) hF, Nat.le_trans (Nat.le_of_ble_eq_true rfl) hL⟩ (rest := []) (xpR hK hP rfl rfl) rfl hl rfl (Nat.le_of_ble_eq_true rfl) dX0_pailsBehind_3 ⟨Nat.zero_le _, Nat.zero_le _⟩)) (fun r1 hw => ?_)
  refine lv_if_eq (tgt := 13) hx hb dX0_pailsBehind_6 (by decide) (fun hc => ?_) (fun hc => ?_)
  · have hw := And.left hw hc
    refine lv_iload hx hb dX0_pailsBehind_13 (lv_at hl 4 rfl) ?_
    refine lv_aload_n hx hb dX0_pailsBehind_15 rfl (lv_at hl 0 rfl) ?_
    refine lv_iload_n hx hb dX0_pailsBehind_16 rfl (lv_at hl 2 rfl) ?_
    refine lv_iload_n hx hb dX0_pailsBehind_17 rfl (lv_at hl 3 rfl) ?_
    refine vp_callSi (xro (xr_V hC (cX0_pailsAt_c (h := h) hw) ⟨rfl, rfl⟩ bw_364 calX0_pailsAt ⟨Nat.le_trans (Nat.le_of_ble_eq_true rfl) hF, Nat.le_trans (Nat.le_of_ble_eq_true rfl) hL⟩ (rest := [.int x4]) (xpR hK hP rfl rfl) rfl hl rfl (Nat.le_of_ble_eq_true rfl) dX0_pailsBehind_18 ⟨Nat.zero_le _, Nat.zero_le _⟩)) (fun r2 hw => ?_)
    refine va_mmin hx hb (hC.2.2.1.trans hl.1.symm) hC.2.2.2.1 (hC.2.2.2.2 _ bw_368) (hC.2.2.2.2 _ bw_328) (hC.2.2.2.2 _ bw_8) (hC.2.2.2.2 _ bw_code_min) (Nat.le_trans (Nat.le_of_ble_eq_true rfl) hF) (Nat.le_trans (Nat.le_of_ble_eq_true rfl) hL) (Nat.zero_le _) (Nat.zero_le _) dX0_pailsBehind_21 ?_
    exact hret _ _ _ hw dX0_pailsBehind_24
  · have hw := And.right hw hc
    refine lv_iconst (v := (0 : Int32)) hx hb dX0_pailsBehind_9 (by decide) ?_
    refine lv_goto (tgt := 24) hx hb dX0_pailsBehind_10 (by decide) ?_
    exact hret _ _ _ hw dX0_pailsBehind_24
def wpX0_isSweet_23  (z0 : wSt) (post : Int32 → Prop)  : Prop := (post (1 : Int32))
def wpX0_isSweet (x1 : Int32) (x2 : Int32) (z0 : wSt) (post : Int32 → Prop) : Prop := (vp_in x1 6 ∧ ((((w_a z0 0) x1.toNatClampNeg) = (1 : Int32) → (wpX0_isSweet_23  z0 post )) ∧ (¬ ((w_a z0 0) x1.toNatClampNeg) = (1 : Int32) → (vp_in x1 6 ∧ ((¬ ((w_a z0 0) x1.toNatClampNeg) = 0 → (post (0 : Int32))) ∧ (((w_a z0 0) x1.toNatClampNeg) = 0 → ((x2 < 0 → (post (0 : Int32))) ∧ (¬ x2 < 0 → (wpX0_isSweet_23  z0 post )))))))))
set_option maxHeartbeats 4000000 in
set_option maxRecDepth 100000 in
theorem cX0_isSweet_c {l : Launch} {G : wG} {h : Nat → Nat} {x1 : Int32} {x2 : Int32} {post : Int32 → Prop} {z0 : wSt}  (hw : wpX0_isSweet x1 x2 z0 post) : Met l yX0_isSweet (.code yX0_isSweet cX0_isSweet 3 (some .boolean) :: BIG) { frames := 0, cells := 0, slots := 0, locals := 0 } (xPr G [.ref (h 0), .int x1, .int x2] (wsFolk G h z0)) (vp_Si post) 0 0 (fun _ => False) := by
  refine xm_rz (by decide) (Nat.le_of_ble_eq_true rfl) (fun p e s m args below meth c ls R Q hC hK hP hl hF hL hret => ?_)
  have hx := hC.1
  have hb := hC.2.1
  have hl : lv_has ls 3 [(0, .ref (h 0)), (1, .int x1), (2, .int x2)] := hl
  have B23 : ∀  (ls : Array Slot), wpX0_isSweet_23  z0 post  → lv_has ls 3 [] → W p l e R s m args below meth c s.heap [] 0 0 Q (F0 m 23 ls []) := by
    intro  ls hw hl
    unfold wpX0_isSweet_23 at hw
    refine lv_iconst (v := (1 : Int32)) hx hb dX0_isSweet_23 (by decide) ?_
    refine lv_goto (tgt := 28) hx hb dX0_isSweet_24 (by decide) ?_
    exact hret _ _ _ rfl hw dX0_isSweet_28
  unfold wpX0_isSweet at hw
  refine lv_aload_n hx hb dX0_isSweet_0 rfl (lv_at hl 0 rfl) ?_
  refine rg_F_X0_0_0 hC hK hP dX0_isSweet_1 ?_
  refine lv_iload_n hx hb dX0_isSweet_4 rfl (lv_at hl 1 rfl) ?_
  refine rl_F_1 hC hK hP (And.left hw) dX0_isSweet_5 ?_
  have hw := And.right hw
  refine lv_iconst (v := (1 : Int32)) hx hb dX0_isSweet_6 (by decide) ?_
  refine lv_icmp_eq (tgt := 23) hx hb dX0_isSweet_7 (by decide) (fun hc => ?_) (fun hc => ?_)
  · have hw := And.left hw hc
    exact B23  _ hw (lv_sub hl [] rfl)
  · have hw := And.right hw hc
    refine lv_aload_n hx hb dX0_isSweet_10 rfl (lv_at hl 0 rfl) ?_
    refine rg_F_X0_0_0 hC hK hP dX0_isSweet_11 ?_
    refine lv_iload_n hx hb dX0_isSweet_14 rfl (lv_at hl 1 rfl) ?_
    refine rl_F_1 hC hK hP (And.left hw) dX0_isSweet_15 ?_
    have hw := And.right hw
    refine lv_if_ne (tgt := 27) hx hb dX0_isSweet_16 (by decide) (fun hc => ?_) (fun hc => ?_)
    · have hw := And.left hw hc
      refine lv_iconst (v := (0 : Int32)) hx hb dX0_isSweet_27 (by decide) ?_
      exact hret _ _ _ rfl hw dX0_isSweet_28
    · have hw := And.right hw hc
      refine lv_iload_n hx hb dX0_isSweet_19 rfl (lv_at hl 2 rfl) ?_
      refine lv_if_lt (tgt := 27) hx hb dX0_isSweet_20 (by decide) (fun hc => ?_) (fun hc => ?_)
      · have hw := And.left hw hc
        refine lv_iconst (v := (0 : Int32)) hx hb dX0_isSweet_27 (by decide) ?_
        exact hret _ _ _ rfl hw dX0_isSweet_28
      · have hw := And.right hw hc
        exact B23  _ hw (lv_sub hl [] rfl)
def wpX5_asMood (x0 : Int32) (post : Int32 → Prop) : Prop := (post (if (-9 : Int32) < (if x0 < (9 : Int32) then x0 else (9 : Int32)) then (if x0 < (9 : Int32) then x0 else (9 : Int32)) else (-9 : Int32)))
set_option maxHeartbeats 4000000 in
set_option maxRecDepth 100000 in
theorem cX5_asMood_c {l : Launch} {G : wG} {x0 : Int32} {post : Int32 → Prop}  (hw : wpX5_asMood x0 post) : Met l yX5_asMood (.code yX5_asMood cX5_asMood 1 (some .int) :: BIG) { frames := 1, cells := 0, slots := 0, locals := 21 } (xPr G [.int x0] ([] : va_W)) (vp_Si post) 0 0 (fun _ => False) := by
  refine xm_ri (by decide) (Nat.le_of_ble_eq_true rfl) (fun p e s m args below meth c ls R Q hC hK hP hl hF hL hret => ?_)
  have hx := hC.1
  have hb := hC.2.1
  have hl : lv_has ls 1 [(0, .int x0)] := hl
  unfold wpX5_asMood at hw
  refine lv_bipush (v := (-9 : Int32)) hx hb dX5_asMood_0 (by decide) ?_
  refine lv_bipush (v := (9 : Int32)) hx hb dX5_asMood_2 (by decide) ?_
  refine lv_iload_n hx hb dX5_asMood_4 rfl (lv_at hl 0 rfl) ?_
  refine va_mmin hx hb (hC.2.2.1.trans hl.1.symm) hC.2.2.2.1 (hC.2.2.2.2 _ bw_383) (hC.2.2.2.2 _ bw_328) (hC.2.2.2.2 _ bw_8) (hC.2.2.2.2 _ bw_code_min) (Nat.le_trans (Nat.le_of_ble_eq_true rfl) hF) (Nat.le_trans (Nat.le_of_ble_eq_true rfl) hL) (Nat.zero_le _) (Nat.zero_le _) dX5_asMood_5 ?_
  refine va_mmax hx hb (hC.2.2.1.trans hl.1.symm) hC.2.2.2.1 (hC.2.2.2.2 _ bw_384) (hC.2.2.2.2 _ bw_370) (hC.2.2.2.2 _ bw_8) (hC.2.2.2.2 _ bw_code_max) (Nat.le_trans (Nat.le_of_ble_eq_true rfl) hF) (Nat.le_trans (Nat.le_of_ble_eq_true rfl) hL) (Nat.zero_le _) (Nat.zero_le _) dX5_asMood_8 ?_
  exact hret _ _ _ hw dX5_asMood_11
def wpX0_moodBehind_29  (z0 : wSt) (post : Int32 → Prop) (t0 : Int32) : Prop := (wpX5_asMood t0 (fun r1 => (post r1)))
def wpX0_moodBehind (x1 : Int32) (x2 : Int32) (z0 : wSt) (post : Int32 → Prop) : Prop := (vp_in x1 6 ∧ ((¬ ((w_a z0 0) x1.toNatClampNeg) = (3 : Int32) → (vp_in x1 6 ∧ (wpX0_moodBehind_29  z0 post (x2 + ((w_a z0 1) x1.toNatClampNeg))))) ∧ (((w_a z0 0) x1.toNatClampNeg) = (3 : Int32) → (vp_in x1 6 ∧ (wpX0_moodBehind_29  z0 post (x2 - ((w_a z0 1) x1.toNatClampNeg)))))))
set_option maxHeartbeats 4000000 in
set_option maxRecDepth 100000 in
theorem cX0_moodBehind_c {l : Launch} {G : wG} {h : Nat → Nat} {x1 : Int32} {x2 : Int32} {post : Int32 → Prop} {z0 : wSt}  (hw : wpX0_moodBehind x1 x2 z0 post) : Met l yX0_moodBehind (.code yX0_moodBehind cX0_moodBehind 3 (some .int) :: BIG) { frames := 2, cells := 0, slots := 0, locals := 41 } (xPr G [.ref (h 0), .int x1, .int x2] (wsFolk G h z0)) (vp_Si post) 0 0 (fun _ => False) := by
  refine xm_ri (by decide) (Nat.le_of_ble_eq_true rfl) (fun p e s m args below meth c ls R Q hC hK hP hl hF hL hret => ?_)
  have hx := hC.1
  have hb := hC.2.1
  have hl : lv_has ls 3 [(0, .ref (h 0)), (1, .int x1), (2, .int x2)] := hl
  have B29 : ∀ (t0 : Int32) (ls : Array Slot), wpX0_moodBehind_29  z0 post t0 → lv_has ls 3 [] → W p l e R s m args below meth c s.heap [] 0 0 Q (F0 m 29 ls [.int t0]) := by
    intro t0 ls hw hl
    unfold wpX0_moodBehind_29 at hw
    refine vp_callSi (xro (xr_SN hC hK.2 (cX5_asMood_c hw) ⟨rfl, rfl⟩ bw_380 calX5_asMood ⟨Nat.le_trans (Nat.le_of_ble_eq_true rfl) hF, Nat.le_trans (Nat.le_of_ble_eq_true rfl) hL⟩ (rest := []) (xpS hK) rfl hl rfl (Nat.le_of_ble_eq_true rfl) dX0_moodBehind_29 ⟨Nat.zero_le _, Nat.zero_le _⟩)) (fun r1 hw => ?_)
    exact hret _ _ _ hw dX0_moodBehind_32
  unfold wpX0_moodBehind at hw
  refine lv_aload_n hx hb dX0_moodBehind_0 rfl (lv_at hl 0 rfl) ?_
  refine rg_F_X0_0_0 hC hK hP dX0_moodBehind_1 ?_
  refine lv_iload_n hx hb dX0_moodBehind_4 rfl (lv_at hl 1 rfl) ?_
  refine rl_F_1 hC hK hP (And.left hw) dX0_moodBehind_5 ?_
  have hw := And.right hw
  refine lv_iconst (v := (3 : Int32)) hx hb dX0_moodBehind_6 (by decide) ?_
  refine lv_icmp_ne (tgt := 21) hx hb dX0_moodBehind_7 (by decide) (fun hc => ?_) (fun hc => ?_)
  · have hw := And.left hw hc
    refine lv_iload_n hx hb dX0_moodBehind_21 rfl (lv_at hl 2 rfl) ?_
    refine lv_aload_n hx hb dX0_moodBehind_22 rfl (lv_at hl 0 rfl) ?_
    refine rg_F_X0_0_1 hC hK hP dX0_moodBehind_23 ?_
    refine lv_iload_n hx hb dX0_moodBehind_26 rfl (lv_at hl 1 rfl) ?_
    refine rl_F_2 hC hK hP (And.left hw) dX0_moodBehind_27 ?_
    have hw := And.right hw
    refine lv_iadd hx hb dX0_moodBehind_28 ?_
    exact B29 (x2 + ((w_a z0 1) x1.toNatClampNeg)) _ hw (lv_sub hl [] rfl)
  · have hw := And.right hw hc
    refine lv_iload_n hx hb dX0_moodBehind_10 rfl (lv_at hl 2 rfl) ?_
    refine lv_aload_n hx hb dX0_moodBehind_11 rfl (lv_at hl 0 rfl) ?_
    refine rg_F_X0_0_1 hC hK hP dX0_moodBehind_12 ?_
    refine lv_iload_n hx hb dX0_moodBehind_15 rfl (lv_at hl 1 rfl) ?_
    refine rl_F_2 hC hK hP (And.left hw) dX0_moodBehind_16 ?_
    have hw := And.right hw
    refine lv_isub hx hb dX0_moodBehind_17 ?_
    refine lv_goto (tgt := 29) hx hb dX0_moodBehind_18 (by decide) ?_
    exact B29 (x2 - ((w_a z0 1) x1.toNatClampNeg)) _ hw (lv_sub hl [] rfl)
def wpJ6_compare_7cf53 (x0 : Int32) (x1 : Int32) (post : Int32 → Prop) : Prop := ((x1 ≤ x0 → ((¬ x0 = x1 → (post (1 : Int32))) ∧ (x0 = x1 → (post (0 : Int32))))) ∧ (¬ x1 ≤ x0 → (post (-1 : Int32))))
set_option maxHeartbeats 4000000 in
set_option maxRecDepth 100000 in
theorem cJ6_compare_7cf53_c {l : Launch} {G : wG} {x0 : Int32} {x1 : Int32} {post : Int32 → Prop}  (hw : wpJ6_compare_7cf53 x0 x1 post) : Met l yJ6_compare_7cf53 (.code yJ6_compare_7cf53 cJ6_compare_7cf53 2 (some .int) :: BIG) { frames := 0, cells := 0, slots := 0, locals := 0 } (xPr G [.int x0, .int x1] ([] : va_W)) (vp_Si post) 0 0 (fun _ => False) := by
  refine xm_ri (by decide) (Nat.le_of_ble_eq_true rfl) (fun p e s m args below meth c ls R Q hC hK hP hl hF hL hret => ?_)
  have hx := hC.1
  have hb := hC.2.1
  have hl : lv_has ls 2 [(0, .int x0), (1, .int x1)] := hl
  unfold wpJ6_compare_7cf53 at hw
  refine lv_iload_n hx hb dJ6_compare_7cf53_0 rfl (lv_at hl 0 rfl) ?_
  refine lv_iload_n hx hb dJ6_compare_7cf53_1 rfl (lv_at hl 1 rfl) ?_
  refine lv_icmp_ge (tgt := 9) hx hb dJ6_compare_7cf53_2 (by decide) (fun hc => ?_) (fun hc => ?_)
  · have hw := And.left hw hc
    refine lv_iload_n hx hb dJ6_compare_7cf53_9 rfl (lv_at hl 0 rfl) ?_
    refine lv_iload_n hx hb dJ6_compare_7cf53_10 rfl (lv_at hl 1 rfl) ?_
    refine lv_icmp_ne (tgt := 18) hx hb dJ6_compare_7cf53_11 (by decide) (fun hc => ?_) (fun hc => ?_)
    · have hw := And.left hw hc
      refine lv_iconst (v := (1 : Int32)) hx hb dJ6_compare_7cf53_18 (by decide) ?_
      exact hret _ _ _ hw dJ6_compare_7cf53_19
    · have hw := And.right hw hc
      refine lv_iconst (v := (0 : Int32)) hx hb dJ6_compare_7cf53_14 (by decide) ?_
      refine lv_goto (tgt := 19) hx hb dJ6_compare_7cf53_15 (by decide) ?_
      exact hret _ _ _ hw dJ6_compare_7cf53_19
  · have hw := And.right hw hc
    refine lv_iconst (v := (-1 : Int32)) hx hb dJ6_compare_7cf53_5 (by decide) ?_
    refine lv_goto (tgt := 19) hx hb dJ6_compare_7cf53_6 (by decide) ?_
    exact hret _ _ _ hw dJ6_compare_7cf53_19
def wpX5_waned (x0 : Int32) (post : Int32 → Prop) : Prop := (wpJ6_compare_7cf53 x0 (0 : Int32) (fun r1 => (post (x0 - r1))))
set_option maxHeartbeats 4000000 in
set_option maxRecDepth 100000 in
theorem cX5_waned_c {l : Launch} {G : wG} {x0 : Int32} {post : Int32 → Prop}  (hw : wpX5_waned x0 post) : Met l yX5_waned (.code yX5_waned cX5_waned 1 (some .int) :: BIG) { frames := 1, cells := 0, slots := 0, locals := 21 } (xPr G [.int x0] ([] : va_W)) (vp_Si post) 0 0 (fun _ => False) := by
  refine xm_ri (by decide) (Nat.le_of_ble_eq_true rfl) (fun p e s m args below meth c ls R Q hC hK hP hl hF hL hret => ?_)
  have hx := hC.1
  have hb := hC.2.1
  have hl : lv_has ls 1 [(0, .int x0)] := hl
  unfold wpX5_waned at hw
  refine lv_iload_n hx hb dX5_waned_0 rfl (lv_at hl 0 rfl) ?_
  refine lv_iload_n hx hb dX5_waned_1 rfl (lv_at hl 0 rfl) ?_
  refine lv_iconst (v := (0 : Int32)) hx hb dX5_waned_2 (by decide) ?_
  refine vp_callSi (xro (xr_S hC (cJ6_compare_7cf53_c hw) ⟨rfl, rfl⟩ bw_392 calJ6_compare_7cf53 ⟨Nat.le_trans (Nat.le_of_ble_eq_true rfl) hF, Nat.le_trans (Nat.le_of_ble_eq_true rfl) hL⟩ (rest := [.int x0]) (xpS hK) rfl hl rfl (Nat.le_of_ble_eq_true rfl) dX5_waned_3 ⟨Nat.zero_le _, Nat.zero_le _⟩)) (fun r1 hw => ?_)
  refine lv_isub hx hb dX5_waned_6 ?_
  exact hret _ _ _ hw dX5_waned_7
def wpX5_rained (x0 : Int32) (x1 : Int32) (post : Int32 → Prop) : Prop := (post (if (x0 + x1) < (999 : Int32) then (x0 + x1) else (999 : Int32)))
set_option maxHeartbeats 4000000 in
set_option maxRecDepth 100000 in
theorem cX5_rained_c {l : Launch} {G : wG} {x0 : Int32} {x1 : Int32} {post : Int32 → Prop}  (hw : wpX5_rained x0 x1 post) : Met l yX5_rained (.code yX5_rained cX5_rained 2 (some .int) :: BIG) { frames := 1, cells := 0, slots := 0, locals := 21 } (xPr G [.int x0, .int x1] ([] : va_W)) (vp_Si post) 0 0 (fun _ => False) := by
  refine xm_ri (by decide) (Nat.le_of_ble_eq_true rfl) (fun p e s m args below meth c ls R Q hC hK hP hl hF hL hret => ?_)
  have hx := hC.1
  have hb := hC.2.1
  have hl : lv_has ls 2 [(0, .int x0), (1, .int x1)] := hl
  unfold wpX5_rained at hw
  refine lv_sipush (v := (999 : Int32)) hx hb dX5_rained_0 (by decide) ?_
  refine lv_iload_n hx hb dX5_rained_3 rfl (lv_at hl 0 rfl) ?_
  refine lv_iload_n hx hb dX5_rained_4 rfl (lv_at hl 1 rfl) ?_
  refine lv_iadd hx hb dX5_rained_5 ?_
  refine va_mmin hx hb (hC.2.2.1.trans hl.1.symm) hC.2.2.2.1 (hC.2.2.2.2 _ bw_383) (hC.2.2.2.2 _ bw_328) (hC.2.2.2.2 _ bw_8) (hC.2.2.2.2 _ bw_code_min) (Nat.le_trans (Nat.le_of_ble_eq_true rfl) hF) (Nat.le_trans (Nat.le_of_ble_eq_true rfl) hL) (Nat.zero_le _) (Nat.zero_le _) dX5_rained_6 ?_
  exact hret _ _ _ hw dX5_rained_9
def wpX5_within (x0 : Int32) (x1 : Int32) (x2 : Int32) (post : Int32 → Prop) : Prop := ((x0 < x1 → (post (0 : Int32))) ∧ (¬ x0 < x1 → ((x2 < x0 → (post (0 : Int32))) ∧ (¬ x2 < x0 → (post (1 : Int32))))))
set_option maxHeartbeats 4000000 in
set_option maxRecDepth 100000 in
theorem cX5_within_c {l : Launch} {G : wG} {x0 : Int32} {x1 : Int32} {x2 : Int32} {post : Int32 → Prop}  (hw : wpX5_within x0 x1 x2 post) : Met l yX5_within (.code yX5_within cX5_within 3 (some .boolean) :: BIG) { frames := 0, cells := 0, slots := 0, locals := 0 } (xPr G [.int x0, .int x1, .int x2] ([] : va_W)) (vp_Si post) 0 0 (fun _ => False) := by
  refine xm_rz (by decide) (Nat.le_of_ble_eq_true rfl) (fun p e s m args below meth c ls R Q hC hK hP hl hF hL hret => ?_)
  have hx := hC.1
  have hb := hC.2.1
  have hl : lv_has ls 3 [(0, .int x0), (1, .int x1), (2, .int x2)] := hl
  unfold wpX5_within at hw
  refine lv_iload_n hx hb dX5_within_0 rfl (lv_at hl 0 rfl) ?_
  refine lv_iload_n hx hb dX5_within_1 rfl (lv_at hl 1 rfl) ?_
  refine lv_icmp_lt (tgt := 14) hx hb dX5_within_2 (by decide) (fun hc => ?_) (fun hc => ?_)
  · have hw := And.left hw hc
    refine lv_iconst (v := (0 : Int32)) hx hb dX5_within_14 (by decide) ?_
    exact hret _ _ _ rfl hw dX5_within_15
  · have hw := And.right hw hc
    refine lv_iload_n hx hb dX5_within_5 rfl (lv_at hl 0 rfl) ?_
    refine lv_iload_n hx hb dX5_within_6 rfl (lv_at hl 2 rfl) ?_
    refine lv_icmp_gt (tgt := 14) hx hb dX5_within_7 (by decide) (fun hc => ?_) (fun hc => ?_)
    · have hw := And.left hw hc
      refine lv_iconst (v := (0 : Int32)) hx hb dX5_within_14 (by decide) ?_
      exact hret _ _ _ rfl hw dX5_within_15
    · have hw := And.right hw hc
      refine lv_iconst (v := (1 : Int32)) hx hb dX5_within_10 (by decide) ?_
      refine lv_goto (tgt := 15) hx hb dX5_within_11 (by decide) ?_
      exact hret _ _ _ rfl hw dX5_within_15
def wpX5_isMood (x0 : Int32) (post : Int32 → Prop) : Prop := (wpX5_within x0 (-9 : Int32) (9 : Int32) (fun r1 => (narrow .boolean (.int r1) = .int r1 ∧ post r1)))
set_option maxHeartbeats 4000000 in
set_option maxRecDepth 100000 in
theorem cX5_isMood_c {l : Launch} {G : wG} {x0 : Int32} {post : Int32 → Prop}  (hw : wpX5_isMood x0 post) : Met l yX5_isMood (.code yX5_isMood cX5_isMood 1 (some .boolean) :: BIG) { frames := 1, cells := 0, slots := 0, locals := 22 } (xPr G [.int x0] ([] : va_W)) (vp_Si post) 0 0 (fun _ => False) := by
  refine xm_rz (by decide) (Nat.le_of_ble_eq_true rfl) (fun p e s m args below meth c ls R Q hC hK hP hl hF hL hret => ?_)
  have hx := hC.1
  have hb := hC.2.1
  have hl : lv_has ls 1 [(0, .int x0)] := hl
  unfold wpX5_isMood at hw
  refine lv_iload_n hx hb dX5_isMood_0 rfl (lv_at hl 0 rfl) ?_
  refine lv_bipush (v := (-9 : Int32)) hx hb dX5_isMood_1 (by decide) ?_
  refine lv_bipush (v := (9 : Int32)) hx hb dX5_isMood_3 (by decide) ?_
  refine vp_callSi (xro (xr_S hC (cX5_within_c hw) ⟨rfl, rfl⟩ bw_223 calX5_within ⟨Nat.le_trans (Nat.le_of_ble_eq_true rfl) hF, Nat.le_trans (Nat.le_of_ble_eq_true rfl) hL⟩ (rest := []) (xpS hK) rfl hl rfl (Nat.le_of_ble_eq_true rfl) dX5_isMood_5 ⟨Nat.zero_le _, Nat.zero_le _⟩)) (fun r1 hw => ?_)
  exact hret _ _ _ (And.left hw) (And.right hw) dX5_isMood_8
def wpX5_byteOf (x0 : Int64) (x2 : Int32) (post : Int32 → Prop) : Prop := (post (((x0 >>> (((8 : Int32) * x2).toInt64 &&& 63)).toInt32) &&& (255 : Int32)))
set_option maxHeartbeats 4000000 in
set_option maxRecDepth 100000 in
theorem cX5_byteOf_c {l : Launch} {G : wG} {x0 : Int64} {x2 : Int32} {post : Int32 → Prop}  (hw : wpX5_byteOf x0 x2 post) : Met l yX5_byteOf (.code yX5_byteOf cX5_byteOf 3 (some .int) :: BIG) { frames := 0, cells := 0, slots := 0, locals := 0 } (xPr G [.long x0, .int x2] ([] : va_W)) (vp_Si post) 0 0 (fun _ => False) := by
  refine xm_ri (by decide) (Nat.le_of_ble_eq_true rfl) (fun p e s m args below meth c ls R Q hC hK hP hl hF hL hret => ?_)
  have hx := hC.1
  have hb := hC.2.1
  have hl : lv_has ls 3 [(0, .long x0), (2, .int x2)] := hl
  unfold wpX5_byteOf at hw
  refine lv_lload_n hx hb dX5_byteOf_0 rfl (lv_at hl 0 rfl) ?_
  refine lv_bipush (v := (8 : Int32)) hx hb dX5_byteOf_1 (by decide) ?_
  refine lv_iload_n hx hb dX5_byteOf_3 rfl (lv_at hl 1 rfl) ?_
  refine lv_imul hx hb dX5_byteOf_4 ?_
  refine lv_lshr (v := (x0 >>> (((8 : Int32) * x2).toInt64 &&& 63))) hx hb dX5_byteOf_5 rfl ?_
  refine lv_l2i (v := ((x0 >>> (((8 : Int32) * x2).toInt64 &&& 63)).toInt32)) hx hb dX5_byteOf_6 rfl ?_
  refine lv_sipush (v := (255 : Int32)) hx hb dX5_byteOf_7 (by decide) ?_
  refine lv_iand hx hb dX5_byteOf_10 ?_
  exact hret _ _ _ hw dX5_byteOf_11
def wpX5_areSigns_2 (k2 : Int64 → Int32 → Int32 → Prop) (post : Int32 → Prop) (x0 : Int64) (x2 : Int32) (x3 : Int32) : Prop := ((x2 ≤ x3 → (post (1 : Int32))) ∧ (¬ x2 ≤ x3 → (wpX5_byteOf x0 x3 (fun r1 => (wpX5_within r1 (32 : Int32) (126 : Int32) (fun r2 => ((¬ r2 = 0 → (k2 x0 x2 (x3 + (1 : Int32)))) ∧ (r2 = 0 → (post (0 : Int32))))))))))
def wpX5_areSigns_L2  (post : Int32 → Prop) : Nat → Int64 → Int32 → Int32 → Prop
  | 0 => fun _ _ _ => False
  | n + 1 => fun x0 x2 x3 => wpX5_areSigns_2  (wpX5_areSigns_L2  post n) post x0 x2 x3
def wpX5_areSigns (x0 : Int64) (x2 : Int32) (post : Int32 → Prop) : Prop := (∃ n, wpX5_areSigns_L2  post n x0 x2 (0 : Int32))
set_option maxHeartbeats 4000000 in
set_option maxRecDepth 100000 in
theorem cX5_areSigns_c {l : Launch} {G : wG} {x0 : Int64} {x2 : Int32} {post : Int32 → Prop}  (hw : wpX5_areSigns x0 x2 post) : Met l yX5_areSigns (.code yX5_areSigns cX5_areSigns 4 (some .boolean) :: BIG) { frames := 1, cells := 0, slots := 0, locals := 22 } (xPr G [.long x0, .int x2] ([] : va_W)) (vp_Si post) 0 0 (fun _ => False) := by
  refine xm_rz (by decide) (Nat.le_of_ble_eq_true rfl) (fun p e s m args below meth c ls R Q hC hK hP hl hF hL hret => ?_)
  have hx := hC.1
  have hb := hC.2.1
  have hl : lv_has ls 4 [(0, .long x0), (2, .int x2)] := hl
  have B2 : ∀ n : Nat, ∀ (x0 : Int64) (x2 : Int32) (x3 : Int32) (ls : Array Slot), wpX5_areSigns_L2  post n x0 x2 x3 → lv_has ls 4 [(0, .long x0), (2, .int x2), (3, .int x3)] → W p l e R s m args below meth c s.heap [] 0 0 Q (F0 m 2 ls []) := by
    intro n
    induction n with
    | zero => intro x0 x2 x3 ls hw hl; exact False.elim hw
    | succ n I2 =>
      intro x0 x2 x3 ls hw hl
      have hw : wpX5_areSigns_2  (wpX5_areSigns_L2  post n) post x0 x2 x3 := hw
      unfold wpX5_areSigns_2 at hw
      refine lv_iload_n hx hb dX5_areSigns_2 rfl (lv_at hl 2 rfl) ?_
      refine lv_iload_n hx hb dX5_areSigns_3 rfl (lv_at hl 1 rfl) ?_
      refine lv_icmp_ge (tgt := 30) hx hb dX5_areSigns_4 (by decide) (fun hc => ?_) (fun hc => ?_)
      · have hw := And.left hw hc
        refine lv_iconst (v := (1 : Int32)) hx hb dX5_areSigns_30 (by decide) ?_
        exact hret _ _ _ rfl hw dX5_areSigns_31
      · have hw := And.right hw hc
        refine lv_lload_n hx hb dX5_areSigns_7 rfl (lv_at hl 0 rfl) ?_
        refine lv_iload_n hx hb dX5_areSigns_8 rfl (lv_at hl 2 rfl) ?_
        refine vp_callSi (xro (xr_S hC (cX5_byteOf_c hw) ⟨rfl, rfl⟩ bw_270 calX5_byteOf ⟨Nat.le_trans (Nat.le_of_ble_eq_true rfl) hF, Nat.le_trans (Nat.le_of_ble_eq_true rfl) hL⟩ (rest := []) (xpS hK) rfl hl rfl (Nat.le_of_ble_eq_true rfl) dX5_areSigns_9 ⟨Nat.zero_le _, Nat.zero_le _⟩)) (fun r1 hw => ?_)
        refine lv_bipush (v := (32 : Int32)) hx hb dX5_areSigns_12 (by decide) ?_
        refine lv_bipush (v := (126 : Int32)) hx hb dX5_areSigns_14 (by decide) ?_
        refine vp_callSi (xro (xr_S hC (cX5_within_c hw) ⟨rfl, rfl⟩ bw_223 calX5_within ⟨Nat.le_trans (Nat.le_of_ble_eq_true rfl) hF, Nat.le_trans (Nat.le_of_ble_eq_true rfl) hL⟩ (rest := []) (xpS hK) rfl hl rfl (Nat.le_of_ble_eq_true rfl) dX5_areSigns_16 ⟨Nat.zero_le _, Nat.zero_le _⟩)) (fun r2 hw => ?_)
        refine lv_if_ne (tgt := 24) hx hb dX5_areSigns_19 (by decide) (fun hc => ?_) (fun hc => ?_)
        · have hw := And.left hw hc
          refine lv_iinc (v := (x3 + (1 : Int32))) (lv' := [(3, .int (x3 + (1 : Int32))), (0, .long x0), (2, .int x2)]) hx hb dX5_areSigns_24 hl (k := 2) rfl rfl (by decide) rfl (fun ls hl => ?_)
          refine lv_goto (tgt := 2) hx hb dX5_areSigns_27 (by decide) ?_
          exact I2 x0 x2 (x3 + (1 : Int32)) _ hw (lv_sub hl [1, 2, 0] rfl)
        · have hw := And.right hw hc
          refine lv_iconst (v := (0 : Int32)) hx hb dX5_areSigns_22 (by decide) ?_
          exact hret _ _ _ rfl hw dX5_areSigns_23
  unfold wpX5_areSigns at hw
  refine lv_iconst (v := (0 : Int32)) hx hb dX5_areSigns_0 (by decide) ?_
  refine lv_istore_n (lv' := [(3, .int (0 : Int32)), (0, .long x0), (2, .int x2)]) hx hb dX5_areSigns_1 rfl hl (by decide) rfl (fun ls hl => ?_)
  obtain ⟨n2, hw⟩ := hw
  exact B2 n2 x0 x2 (0 : Int32) _ hw (lv_sub hl [1, 2, 0] rfl)
def wpX5_isPails (x0 : Int64) (post : Int32 → Prop) : Prop := (((lg_cmp x0 (0 : Int64)) < 0 → (post (0 : Int32))) ∧ (¬ (lg_cmp x0 (0 : Int64)) < 0 → ((0 < (lg_cmp x0 (9 : Int64)) → (post (0 : Int32))) ∧ (¬ 0 < (lg_cmp x0 (9 : Int64)) → (post (1 : Int32))))))
set_option maxHeartbeats 4000000 in
set_option maxRecDepth 100000 in
theorem cX5_isPails_c {l : Launch} {G : wG} {x0 : Int64} {post : Int32 → Prop}  (hw : wpX5_isPails x0 post) : Met l yX5_isPails (.code yX5_isPails cX5_isPails 2 (some .boolean) :: BIG) { frames := 0, cells := 0, slots := 0, locals := 0 } (xPr G [.long x0] ([] : va_W)) (vp_Si post) 0 0 (fun _ => False) := by
  refine xm_rz (by decide) (Nat.le_of_ble_eq_true rfl) (fun p e s m args below meth c ls R Q hC hK hP hl hF hL hret => ?_)
  have hx := hC.1
  have hb := hC.2.1
  have hl : lv_has ls 2 [(0, .long x0)] := hl
  unfold wpX5_isPails at hw
  refine lv_lload_n hx hb dX5_isPails_0 rfl (lv_at hl 0 rfl) ?_
  refine lv_lconst (v := (0 : Int64)) hx hb dX5_isPails_1 (by decide) ?_
  refine W.lcmp hx hb dX5_isPails_2 ?_
  refine lv_if_lt (tgt := 18) hx hb dX5_isPails_3 (by decide) (fun hc => ?_) (fun hc => ?_)
  · have hw := And.left hw hc
    refine lv_iconst (v := (0 : Int32)) hx hb dX5_isPails_18 (by decide) ?_
    exact hret _ _ _ rfl hw dX5_isPails_19
  · have hw := And.right hw hc
    refine lv_lload_n hx hb dX5_isPails_6 rfl (lv_at hl 0 rfl) ?_
    refine lv_ldc2 (v := (9 : Int64)) hx hb hC.2.2.2.1 (hC.2.2.2.2 _ bw_480) dX5_isPails_7 ?_
    refine W.lcmp hx hb dX5_isPails_10 ?_
    refine lv_if_gt (tgt := 18) hx hb dX5_isPails_11 (by decide) (fun hc => ?_) (fun hc => ?_)
    · have hw := And.left hw hc
      refine lv_iconst (v := (0 : Int32)) hx hb dX5_isPails_18 (by decide) ?_
      exact hret _ _ _ rfl hw dX5_isPails_19
    · have hw := And.right hw hc
      refine lv_iconst (v := (1 : Int32)) hx hb dX5_isPails_14 (by decide) ?_
      refine lv_goto (tgt := 19) hx hb dX5_isPails_15 (by decide) ?_
      exact hret _ _ _ rfl hw dX5_isPails_19
def wpX5_isSheet (x0 : Int32) (post : Int32 → Prop) : Prop := (wpX5_within x0 (0 : Int32) (3 : Int32) (fun r1 => (narrow .boolean (.int r1) = .int r1 ∧ post r1)))
set_option maxHeartbeats 4000000 in
set_option maxRecDepth 100000 in
theorem cX5_isSheet_c {l : Launch} {G : wG} {x0 : Int32} {post : Int32 → Prop}  (hw : wpX5_isSheet x0 post) : Met l yX5_isSheet (.code yX5_isSheet cX5_isSheet 1 (some .boolean) :: BIG) { frames := 1, cells := 0, slots := 0, locals := 22 } (xPr G [.int x0] ([] : va_W)) (vp_Si post) 0 0 (fun _ => False) := by
  refine xm_rz (by decide) (Nat.le_of_ble_eq_true rfl) (fun p e s m args below meth c ls R Q hC hK hP hl hF hL hret => ?_)
  have hx := hC.1
  have hb := hC.2.1
  have hl : lv_has ls 1 [(0, .int x0)] := hl
  unfold wpX5_isSheet at hw
  refine lv_iload_n hx hb dX5_isSheet_0 rfl (lv_at hl 0 rfl) ?_
  refine lv_iconst (v := (0 : Int32)) hx hb dX5_isSheet_1 (by decide) ?_
  refine lv_iconst (v := (3 : Int32)) hx hb dX5_isSheet_2 (by decide) ?_
  refine vp_callSi (xro (xr_S hC (cX5_within_c hw) ⟨rfl, rfl⟩ bw_223 calX5_within ⟨Nat.le_trans (Nat.le_of_ble_eq_true rfl) hF, Nat.le_trans (Nat.le_of_ble_eq_true rfl) hL⟩ (rest := []) (xpS hK) rfl hl rfl (Nat.le_of_ble_eq_true rfl) dX5_isSheet_3 ⟨Nat.zero_le _, Nat.zero_le _⟩)) (fun r1 hw => ?_)
  exact hret _ _ _ (And.left hw) (And.right hw) dX5_isSheet_6
def wpX5_isLane (x0 : Int32) (post : Int32 → Prop) : Prop := (wpX5_within x0 (0 : Int32) (2 : Int32) (fun r1 => (narrow .boolean (.int r1) = .int r1 ∧ post r1)))
set_option maxHeartbeats 4000000 in
set_option maxRecDepth 100000 in
theorem cX5_isLane_c {l : Launch} {G : wG} {x0 : Int32} {post : Int32 → Prop}  (hw : wpX5_isLane x0 post) : Met l yX5_isLane (.code yX5_isLane cX5_isLane 1 (some .boolean) :: BIG) { frames := 1, cells := 0, slots := 0, locals := 22 } (xPr G [.int x0] ([] : va_W)) (vp_Si post) 0 0 (fun _ => False) := by
  refine xm_rz (by decide) (Nat.le_of_ble_eq_true rfl) (fun p e s m args below meth c ls R Q hC hK hP hl hF hL hret => ?_)
  have hx := hC.1
  have hb := hC.2.1
  have hl : lv_has ls 1 [(0, .int x0)] := hl
  unfold wpX5_isLane at hw
  refine lv_iload_n hx hb dX5_isLane_0 rfl (lv_at hl 0 rfl) ?_
  refine lv_iconst (v := (0 : Int32)) hx hb dX5_isLane_1 (by decide) ?_
  refine lv_iconst (v := (2 : Int32)) hx hb dX5_isLane_2 (by decide) ?_
  refine vp_callSi (xro (xr_S hC (cX5_within_c hw) ⟨rfl, rfl⟩ bw_223 calX5_within ⟨Nat.le_trans (Nat.le_of_ble_eq_true rfl) hF, Nat.le_trans (Nat.le_of_ble_eq_true rfl) hL⟩ (rest := []) (xpS hK) rfl hl rfl (Nat.le_of_ble_eq_true rfl) dX5_isLane_3 ⟨Nat.zero_le _, Nat.zero_le _⟩)) (fun r1 hw => ?_)
  exact hret _ _ _ (And.left hw) (And.right hw) dX5_isLane_6
end
