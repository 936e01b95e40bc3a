section
-- ===== PART A: goes FIRST, ahead of the names: the tables' words, and 'selects' of the private methods out of them =====
/-- a private method of a class that the tables say can be made, by its rows of tables_1 -/
def lw_okq (q : MethodName × Nat) : Prop := (q.1.cls ≠ "java/lang/invoke/MethodHandle" ∧ q.1.cls ≠ "java/lang/invoke/VarHandle") ∧ Cond.instantiable q.1.cls q.2 ∈ tables_1 ∧ Cond.privateMethod q.1 ∈ tables_1 ∧ Cond.instanceMethod q.1 ∈ tables_1
theorem lw_p0 : lw_okq (⟨"OrganBarrel$Barrel", "begin", "(III)V"⟩, 9) := ⟨⟨by decide +kernel, by decide +kernel⟩, List.mem_of_getElem? (i := 22) (by decide +kernel), List.mem_of_getElem? (i := 118) (by decide +kernel), List.mem_of_getElem? (i := 119) (by decide +kernel)⟩
theorem lw_p1 : lw_okq (⟨"OrganBarrel", "remember", "()V"⟩, 11) := ⟨⟨by decide +kernel, by decide +kernel⟩, List.mem_of_getElem? (i := 14) (by decide +kernel), List.mem_of_getElem? (i := 323) (by decide +kernel), List.mem_of_getElem? (i := 324) (by decide +kernel)⟩
theorem lw_p2 : lw_okq (⟨"OrganBarrel", "changed", "(I)I"⟩, 11) := ⟨⟨by decide +kernel, by decide +kernel⟩, List.mem_of_getElem? (i := 14) (by decide +kernel), List.mem_of_getElem? (i := 352) (by decide +kernel), List.mem_of_getElem? (i := 353) (by decide +kernel)⟩
theorem lw_p3 : lw_okq (⟨"OrganBarrel", "refused", "(I)I"⟩, 11) := ⟨⟨by decide +kernel, by decide +kernel⟩, List.mem_of_getElem? (i := 14) (by decide +kernel), List.mem_of_getElem? (i := 356) (by decide +kernel), List.mem_of_getElem? (i := 357) (by decide +kernel)⟩
theorem lw_p4 : lw_okq (⟨"OrganBarrel", "keepSpare", "()V"⟩, 11) := ⟨⟨by decide +kernel, by decide +kernel⟩, List.mem_of_getElem? (i := 14) (by decide +kernel), List.mem_of_getElem? (i := 360) (by decide +kernel), List.mem_of_getElem? (i := 361) (by decide +kernel)⟩
theorem lw_p5 : lw_okq (⟨"OrganBarrel$Pinner", "isTooSoon", "(LOrganBarrel$Barrel;ILOrganBarrel$Cause;)Z"⟩, 3) := ⟨⟨by decide +kernel, by decide +kernel⟩, List.mem_of_getElem? (i := 172) (by decide +kernel), List.mem_of_getElem? (i := 484) (by decide +kernel), List.mem_of_getElem? (i := 485) (by decide +kernel)⟩
theorem lw_p6 : lw_okq (⟨"OrganBarrel$Pinner", "firstTooSoon", "(LOrganBarrel$Barrel;I)I"⟩, 3) := ⟨⟨by decide +kernel, by decide +kernel⟩, List.mem_of_getElem? (i := 172) (by decide +kernel), List.mem_of_getElem? (i := 488) (by decide +kernel), List.mem_of_getElem? (i := 489) (by decide +kernel)⟩
theorem lw_p7 : lw_okq (⟨"OrganBarrel$Pinner", "isTouching", "(LOrganBarrel$Barrel;ILOrganBarrel$Cause;)Z"⟩, 3) := ⟨⟨by decide +kernel, by decide +kernel⟩, List.mem_of_getElem? (i := 172) (by decide +kernel), List.mem_of_getElem? (i := 502) (by decide +kernel), List.mem_of_getElem? (i := 503) (by decide +kernel)⟩
theorem lw_p8 : lw_okq (⟨"OrganBarrel$Pinner", "firstTouched", "(LOrganBarrel$Barrel;III)I"⟩, 3) := ⟨⟨by decide +kernel, by decide +kernel⟩, List.mem_of_getElem? (i := 172) (by decide +kernel), List.mem_of_getElem? (i := 506) (by decide +kernel), List.mem_of_getElem? (i := 507) (by decide +kernel)⟩
theorem lw_p9 : lw_okq (⟨"OrganBarrel$Pinner", "firstInTheWay", "(LOrganBarrel$Barrel;IIIILOrganBarrel$Pins;)I"⟩, 3) := ⟨⟨by decide +kernel, by decide +kernel⟩, List.mem_of_getElem? (i := 172) (by decide +kernel), List.mem_of_getElem? (i := 510) (by decide +kernel), List.mem_of_getElem? (i := 511) (by decide +kernel)⟩
theorem lw_p10 : lw_okq (⟨"OrganBarrel$Pinner", "isClear", "(LOrganBarrel$Barrel;II)Z"⟩, 3) := ⟨⟨by decide +kernel, by decide +kernel⟩, List.mem_of_getElem? (i := 172) (by decide +kernel), List.mem_of_getElem? (i := 544) (by decide +kernel), List.mem_of_getElem? (i := 545) (by decide +kernel)⟩
theorem lw_p11 : lw_okq (⟨"OrganBarrel$Pinner", "planAll", "(LOrganBarrel$Barrel;)Z"⟩, 3) := ⟨⟨by decide +kernel, by decide +kernel⟩, List.mem_of_getElem? (i := 172) (by decide +kernel), List.mem_of_getElem? (i := 556) (by decide +kernel), List.mem_of_getElem? (i := 557) (by decide +kernel)⟩
theorem lw_p12 : lw_okq (⟨"OrganBarrel$Pinner", "compareAll", "(LOrganBarrel$Barrel;)V"⟩, 3) := ⟨⟨by decide +kernel, by decide +kernel⟩, List.mem_of_getElem? (i := 172) (by decide +kernel), List.mem_of_getElem? (i := 560) (by decide +kernel), List.mem_of_getElem? (i := 561) (by decide +kernel)⟩
theorem lw_p13 : lw_okq (⟨"OrganBarrel$Pinner", "canLieBeside", "(LOrganBarrel$Barrel;III)Z"⟩, 3) := ⟨⟨by decide +kernel, by decide +kernel⟩, List.mem_of_getElem? (i := 172) (by decide +kernel), List.mem_of_getElem? (i := 567) (by decide +kernel), List.mem_of_getElem? (i := 568) (by decide +kernel)⟩
theorem lw_p14 : lw_okq (⟨"OrganBarrel$Pinner", "searchShifts", "(LOrganBarrel$Barrel;)I"⟩, 3) := ⟨⟨by decide +kernel, by decide +kernel⟩, List.mem_of_getElem? (i := 172) (by decide +kernel), List.mem_of_getElem? (i := 571) (by decide +kernel), List.mem_of_getElem? (i := 572) (by decide +kernel)⟩
theorem lw_p15 : lw_okq (⟨"OrganBarrel$Pinner", "searchBehind", "(LOrganBarrel$Barrel;II)I"⟩, 3) := ⟨⟨by decide +kernel, by decide +kernel⟩, List.mem_of_getElem? (i := 172) (by decide +kernel), List.mem_of_getElem? (i := 578) (by decide +kernel), List.mem_of_getElem? (i := 579) (by decide +kernel)⟩
def lw_privs_1 : List (MethodName × Nat) := [(⟨"OrganBarrel$Barrel", "begin", "(III)V"⟩, 9), (⟨"OrganBarrel", "remember", "()V"⟩, 11), (⟨"OrganBarrel", "changed", "(I)I"⟩, 11), (⟨"OrganBarrel", "refused", "(I)I"⟩, 11), (⟨"OrganBarrel", "keepSpare", "()V"⟩, 11), (⟨"OrganBarrel$Pinner", "isTooSoon", "(LOrganBarrel$Barrel;ILOrganBarrel$Cause;)Z"⟩, 3), (⟨"OrganBarrel$Pinner", "firstTooSoon", "(LOrganBarrel$Barrel;I)I"⟩, 3), (⟨"OrganBarrel$Pinner", "isTouching", "(LOrganBarrel$Barrel;ILOrganBarrel$Cause;)Z"⟩, 3), (⟨"OrganBarrel$Pinner", "firstTouched", "(LOrganBarrel$Barrel;III)I"⟩, 3), (⟨"OrganBarrel$Pinner", "firstInTheWay", "(LOrganBarrel$Barrel;IIIILOrganBarrel$Pins;)I"⟩, 3), (⟨"OrganBarrel$Pinner", "isClear", "(LOrganBarrel$Barrel;II)Z"⟩, 3), (⟨"OrganBarrel$Pinner", "planAll", "(LOrganBarrel$Barrel;)Z"⟩, 3), (⟨"OrganBarrel$Pinner", "compareAll", "(LOrganBarrel$Barrel;)V"⟩, 3), (⟨"OrganBarrel$Pinner", "canLieBeside", "(LOrganBarrel$Barrel;III)Z"⟩, 3), (⟨"OrganBarrel$Pinner", "searchShifts", "(LOrganBarrel$Barrel;)I"⟩, 3), (⟨"OrganBarrel$Pinner", "searchBehind", "(LOrganBarrel$Barrel;II)I"⟩, 3)]
theorem lw_r1 : ∀ q ∈ lw_privs_1, lw_okq q := List.forall_mem_cons.mpr ⟨lw_p0, List.forall_mem_cons.mpr ⟨lw_p1, List.forall_mem_cons.mpr ⟨lw_p2, List.forall_mem_cons.mpr ⟨lw_p3, List.forall_mem_cons.mpr ⟨lw_p4, List.forall_mem_cons.mpr ⟨lw_p5, List.forall_mem_cons.mpr ⟨lw_p6, List.forall_mem_cons.mpr ⟨lw_p7, List.forall_mem_cons.mpr ⟨lw_p8, List.forall_mem_cons.mpr ⟨lw_p9, List.forall_mem_cons.mpr ⟨lw_p10, List.forall_mem_cons.mpr ⟨lw_p11, List.forall_mem_cons.mpr ⟨lw_p12, List.forall_mem_cons.mpr ⟨lw_p13, List.forall_mem_cons.mpr ⟨lw_p14, List.forall_mem_cons.mpr ⟨lw_p15, fun _ h => absurd h List.not_mem_nil⟩⟩⟩⟩⟩⟩⟩⟩⟩⟩⟩⟩⟩⟩⟩⟩
theorem lw_p16 : lw_okq (⟨"OrganBarrel$Pinner", "leastThird", "(LOrganBarrel$Barrel;II)I"⟩, 3) := ⟨⟨by decide +kernel, by decide +kernel⟩, List.mem_of_getElem? (i := 172) (by decide +kernel), List.mem_of_getElem? (i := 582) (by decide +kernel), List.mem_of_getElem? (i := 583) (by decide +kernel)⟩
theorem lw_p17 : lw_okq (⟨"OrganBarrel$Pinner", "pinAll", "(LOrganBarrel$Barrel;)V"⟩, 3) := ⟨⟨by decide +kernel, by decide +kernel⟩, List.mem_of_getElem? (i := 172) (by decide +kernel), List.mem_of_getElem? (i := 586) (by decide +kernel), List.mem_of_getElem? (i := 587) (by decide +kernel)⟩
theorem lw_p18 : lw_okq (⟨"OrganBarrel", "pinValue", "(III)I"⟩, 11) := ⟨⟨by decide +kernel, by decide +kernel⟩, List.mem_of_getElem? (i := 14) (by decide +kernel), List.mem_of_getElem? (i := 598) (by decide +kernel), List.mem_of_getElem? (i := 599) (by decide +kernel)⟩
theorem lw_p19 : lw_okq (⟨"OrganBarrel$Bridges", "placePins", "(LOrganBarrel$Barrel;)V"⟩, 8) := ⟨⟨by decide +kernel, by decide +kernel⟩, List.mem_of_getElem? (i := 191) (by decide +kernel), List.mem_of_getElem? (i := 606) (by decide +kernel), List.mem_of_getElem? (i := 607) (by decide +kernel)⟩
theorem lw_p20 : lw_okq (⟨"OrganBarrel$Bridges", "join", "(LOrganBarrel$Barrel;III)V"⟩, 8) := ⟨⟨by decide +kernel, by decide +kernel⟩, List.mem_of_getElem? (i := 191) (by decide +kernel), List.mem_of_getElem? (i := 617) (by decide +kernel), List.mem_of_getElem? (i := 618) (by decide +kernel)⟩
theorem lw_p21 : lw_okq (⟨"OrganBarrel", "allValue", "(I)I"⟩, 11) := ⟨⟨by decide +kernel, by decide +kernel⟩, List.mem_of_getElem? (i := 14) (by decide +kernel), List.mem_of_getElem? (i := 638) (by decide +kernel), List.mem_of_getElem? (i := 639) (by decide +kernel)⟩
theorem lw_p22 : lw_okq (⟨"OrganBarrel", "goRound", "(II)I"⟩, 11) := ⟨⟨by decide +kernel, by decide +kernel⟩, List.mem_of_getElem? (i := 14) (by decide +kernel), List.mem_of_getElem? (i := 708) (by decide +kernel), List.mem_of_getElem? (i := 709) (by decide +kernel)⟩
theorem lw_p23 : lw_okq (⟨"OrganBarrel", "mendBridge", "(I)I"⟩, 11) := ⟨⟨by decide +kernel, by decide +kernel⟩, List.mem_of_getElem? (i := 14) (by decide +kernel), List.mem_of_getElem? (i := 721) (by decide +kernel), List.mem_of_getElem? (i := 722) (by decide +kernel)⟩
theorem lw_p24 : lw_okq (⟨"OrganBarrel", "keysHeard", "(II)I"⟩, 11) := ⟨⟨by decide +kernel, by decide +kernel⟩, List.mem_of_getElem? (i := 14) (by decide +kernel), List.mem_of_getElem? (i := 729) (by decide +kernel), List.mem_of_getElem? (i := 730) (by decide +kernel)⟩
theorem lw_p25 : lw_okq (⟨"OrganBarrel", "wrongTicks", "(I)I"⟩, 11) := ⟨⟨by decide +kernel, by decide +kernel⟩, List.mem_of_getElem? (i := 14) (by decide +kernel), List.mem_of_getElem? (i := 747) (by decide +kernel), List.mem_of_getElem? (i := 748) (by decide +kernel)⟩
theorem lw_p26 : lw_okq (⟨"OrganBarrel$Text", "opensNumber", "()Z"⟩, 10) := ⟨⟨by decide +kernel, by decide +kernel⟩, List.mem_of_getElem? (i := 244) (by decide +kernel), List.mem_of_getElem? (i := 778) (by decide +kernel), List.mem_of_getElem? (i := 779) (by decide +kernel)⟩
theorem lw_p27 : lw_okq (⟨"OrganBarrel$Text", "takesMark", "(I)Z"⟩, 10) := ⟨⟨by decide +kernel, by decide +kernel⟩, List.mem_of_getElem? (i := 244) (by decide +kernel), List.mem_of_getElem? (i := 782) (by decide +kernel), List.mem_of_getElem? (i := 783) (by decide +kernel)⟩
theorem lw_p28 : lw_okq (⟨"OrganBarrel$Text", "opensOrder", "(I)Z"⟩, 10) := ⟨⟨by decide +kernel, by decide +kernel⟩, List.mem_of_getElem? (i := 244) (by decide +kernel), List.mem_of_getElem? (i := 786) (by decide +kernel), List.mem_of_getElem? (i := 787) (by decide +kernel)⟩
theorem lw_p29 : lw_okq (⟨"OrganBarrel$Text", "endOrder", "()V"⟩, 10) := ⟨⟨by decide +kernel, by decide +kernel⟩, List.mem_of_getElem? (i := 244) (by decide +kernel), List.mem_of_getElem? (i := 793) (by decide +kernel), List.mem_of_getElem? (i := 794) (by decide +kernel)⟩
theorem lw_p30 : lw_okq (⟨"OrganBarrel$Text", "takesNotes", "(I)Z"⟩, 10) := ⟨⟨by decide +kernel, by decide +kernel⟩, List.mem_of_getElem? (i := 244) (by decide +kernel), List.mem_of_getElem? (i := 797) (by decide +kernel), List.mem_of_getElem? (i := 798) (by decide +kernel)⟩
theorem lw_p31 : lw_okq (⟨"OrganBarrel$Text", "addFigure", "(I)V"⟩, 10) := ⟨⟨by decide +kernel, by decide +kernel⟩, List.mem_of_getElem? (i := 244) (by decide +kernel), List.mem_of_getElem? (i := 801) (by decide +kernel), List.mem_of_getElem? (i := 802) (by decide +kernel)⟩
def lw_privs_2 : List (MethodName × Nat) := [(⟨"OrganBarrel$Pinner", "leastThird", "(LOrganBarrel$Barrel;II)I"⟩, 3), (⟨"OrganBarrel$Pinner", "pinAll", "(LOrganBarrel$Barrel;)V"⟩, 3), (⟨"OrganBarrel", "pinValue", "(III)I"⟩, 11), (⟨"OrganBarrel$Bridges", "placePins", "(LOrganBarrel$Barrel;)V"⟩, 8), (⟨"OrganBarrel$Bridges", "join", "(LOrganBarrel$Barrel;III)V"⟩, 8), (⟨"OrganBarrel", "allValue", "(I)I"⟩, 11), (⟨"OrganBarrel", "goRound", "(II)I"⟩, 11), (⟨"OrganBarrel", "mendBridge", "(I)I"⟩, 11), (⟨"OrganBarrel", "keysHeard", "(II)I"⟩, 11), (⟨"OrganBarrel", "wrongTicks", "(I)I"⟩, 11), (⟨"OrganBarrel$Text", "opensNumber", "()Z"⟩, 10), (⟨"OrganBarrel$Text", "takesMark", "(I)Z"⟩, 10), (⟨"OrganBarrel$Text", "opensOrder", "(I)Z"⟩, 10), (⟨"OrganBarrel$Text", "endOrder", "()V"⟩, 10), (⟨"OrganBarrel$Text", "takesNotes", "(I)Z"⟩, 10), (⟨"OrganBarrel$Text", "addFigure", "(I)V"⟩, 10)]
theorem lw_r2 : ∀ q ∈ lw_privs_2, lw_okq q := List.forall_mem_cons.mpr ⟨lw_p16, List.forall_mem_cons.mpr ⟨lw_p17, List.forall_mem_cons.mpr ⟨lw_p18, List.forall_mem_cons.mpr ⟨lw_p19, List.forall_mem_cons.mpr ⟨lw_p20, List.forall_mem_cons.mpr ⟨lw_p21, List.forall_mem_cons.mpr ⟨lw_p22, List.forall_mem_cons.mpr ⟨lw_p23, List.forall_mem_cons.mpr ⟨lw_p24, List.forall_mem_cons.mpr ⟨lw_p25, List.forall_mem_cons.mpr ⟨lw_p26, List.forall_mem_cons.mpr ⟨lw_p27, List.forall_mem_cons.mpr ⟨lw_p28, List.forall_mem_cons.mpr ⟨lw_p29, List.forall_mem_cons.mpr ⟨lw_p30, List.forall_mem_cons.mpr ⟨lw_p31, fun _ h => absurd h List.not_mem_nil⟩⟩⟩⟩⟩⟩⟩⟩⟩⟩⟩⟩⟩⟩⟩⟩
theorem lw_p32 : lw_okq (⟨"OrganBarrel", "obey", "(I)I"⟩, 11) := ⟨⟨by decide +kernel, by decide +kernel⟩, List.mem_of_getElem? (i := 14) (by decide +kernel), List.mem_of_getElem? (i := 805) (by decide +kernel), List.mem_of_getElem? (i := 806) (by decide +kernel)⟩
theorem lw_p33 : lw_okq (⟨"OrganBarrel", "obeyTicks", "(III)I"⟩, 11) := ⟨⟨by decide +kernel, by decide +kernel⟩, List.mem_of_getElem? (i := 14) (by decide +kernel), List.mem_of_getElem? (i := 817) (by decide +kernel), List.mem_of_getElem? (i := 818) (by decide +kernel)⟩
theorem lw_p34 : lw_okq (⟨"OrganBarrel", "blame", "(II)V"⟩, 11) := ⟨⟨by decide +kernel, by decide +kernel⟩, List.mem_of_getElem? (i := 14) (by decide +kernel), List.mem_of_getElem? (i := 822) (by decide +kernel), List.mem_of_getElem? (i := 823) (by decide +kernel)⟩
theorem lw_p35 : lw_okq (⟨"OrganBarrel", "toldValue", "(I)I"⟩, 11) := ⟨⟨by decide +kernel, by decide +kernel⟩, List.mem_of_getElem? (i := 14) (by decide +kernel), List.mem_of_getElem? (i := 835) (by decide +kernel), List.mem_of_getElem? (i := 836) (by decide +kernel)⟩
theorem lw_p36 : lw_okq (⟨"OrganBarrel", "digestOfTune", "(JI)J"⟩, 11) := ⟨⟨by decide +kernel, by decide +kernel⟩, List.mem_of_getElem? (i := 14) (by decide +kernel), List.mem_of_getElem? (i := 845) (by decide +kernel), List.mem_of_getElem? (i := 846) (by decide +kernel)⟩
theorem lw_p37 : lw_okq (⟨"OrganBarrelModel", "begins", "(III)V"⟩, 26) := ⟨⟨by decide +kernel, by decide +kernel⟩, List.mem_of_getElem? (i := 849) (by decide +kernel), List.mem_of_getElem? (i := 855) (by decide +kernel), List.mem_of_getElem? (i := 856) (by decide +kernel)⟩
theorem lw_p38 : lw_okq (⟨"OrganBarrelModel", "refuses", "(I)I"⟩, 26) := ⟨⟨by decide +kernel, by decide +kernel⟩, List.mem_of_getElem? (i := 849) (by decide +kernel), List.mem_of_getElem? (i := 949) (by decide +kernel), List.mem_of_getElem? (i := 950) (by decide +kernel)⟩
theorem lw_p39 : lw_okq (⟨"OrganBarrelModel", "round", "()I"⟩, 26) := ⟨⟨by decide +kernel, by decide +kernel⟩, List.mem_of_getElem? (i := 849) (by decide +kernel), List.mem_of_getElem? (i := 953) (by decide +kernel), List.mem_of_getElem? (i := 954) (by decide +kernel)⟩
theorem lw_p40 : lw_okq (⟨"OrganBarrelModel", "keep", "()V"⟩, 26) := ⟨⟨by decide +kernel, by decide +kernel⟩, List.mem_of_getElem? (i := 849) (by decide +kernel), List.mem_of_getElem? (i := 957) (by decide +kernel), List.mem_of_getElem? (i := 958) (by decide +kernel)⟩
theorem lw_p41 : lw_okq (⟨"OrganBarrelModel", "setNow", "(II)I"⟩, 26) := ⟨⟨by decide +kernel, by decide +kernel⟩, List.mem_of_getElem? (i := 849) (by decide +kernel), List.mem_of_getElem? (i := 966) (by decide +kernel), List.mem_of_getElem? (i := 967) (by decide +kernel)⟩
theorem lw_p42 : lw_okq (⟨"OrganBarrelModel", "canGap", "(II)I"⟩, 26) := ⟨⟨by decide +kernel, by decide +kernel⟩, List.mem_of_getElem? (i := 849) (by decide +kernel), List.mem_of_getElem? (i := 974) (by decide +kernel), List.mem_of_getElem? (i := 975) (by decide +kernel)⟩
theorem lw_p43 : lw_okq (⟨"OrganBarrelModel", "isKey", "(I)Z"⟩, 26) := ⟨⟨by decide +kernel, by decide +kernel⟩, List.mem_of_getElem? (i := 849) (by decide +kernel), List.mem_of_getElem? (i := 978) (by decide +kernel), List.mem_of_getElem? (i := 979) (by decide +kernel)⟩
theorem lw_p44 : lw_okq (⟨"OrganBarrelModel", "canSide", "(I)I"⟩, 26) := ⟨⟨by decide +kernel, by decide +kernel⟩, List.mem_of_getElem? (i := 849) (by decide +kernel), List.mem_of_getElem? (i := 986) (by decide +kernel), List.mem_of_getElem? (i := 987) (by decide +kernel)⟩
theorem lw_p45 : lw_okq (⟨"OrganBarrelModel", "canTicks", "(II)I"⟩, 26) := ⟨⟨by decide +kernel, by decide +kernel⟩, List.mem_of_getElem? (i := 849) (by decide +kernel), List.mem_of_getElem? (i := 994) (by decide +kernel), List.mem_of_getElem? (i := 995) (by decide +kernel)⟩
theorem lw_p46 : lw_okq (⟨"OrganBarrelModel", "isTune", "(I)Z"⟩, 26) := ⟨⟨by decide +kernel, by decide +kernel⟩, List.mem_of_getElem? (i := 849) (by decide +kernel), List.mem_of_getElem? (i := 998) (by decide +kernel), List.mem_of_getElem? (i := 999) (by decide +kernel)⟩
theorem lw_p47 : lw_okq (⟨"OrganBarrelModel", "tunes", "()I"⟩, 26) := ⟨⟨by decide +kernel, by decide +kernel⟩, List.mem_of_getElem? (i := 849) (by decide +kernel), List.mem_of_getElem? (i := 1002) (by decide +kernel), List.mem_of_getElem? (i := 1003) (by decide +kernel)⟩
def lw_privs_3 : List (MethodName × Nat) := [(⟨"OrganBarrel", "obey", "(I)I"⟩, 11), (⟨"OrganBarrel", "obeyTicks", "(III)I"⟩, 11), (⟨"OrganBarrel", "blame", "(II)V"⟩, 11), (⟨"OrganBarrel", "toldValue", "(I)I"⟩, 11), (⟨"OrganBarrel", "digestOfTune", "(JI)J"⟩, 11), (⟨"OrganBarrelModel", "begins", "(III)V"⟩, 26), (⟨"OrganBarrelModel", "refuses", "(I)I"⟩, 26), (⟨"OrganBarrelModel", "round", "()I"⟩, 26), (⟨"OrganBarrelModel", "keep", "()V"⟩, 26), (⟨"OrganBarrelModel", "setNow", "(II)I"⟩, 26), (⟨"OrganBarrelModel", "canGap", "(II)I"⟩, 26), (⟨"OrganBarrelModel", "isKey", "(I)Z"⟩, 26), (⟨"OrganBarrelModel", "canSide", "(I)I"⟩, 26), (⟨"OrganBarrelModel", "canTicks", "(II)I"⟩, 26), (⟨"OrganBarrelModel", "isTune", "(I)Z"⟩, 26), (⟨"OrganBarrelModel", "tunes", "()I"⟩, 26)]
theorem lw_r3 : ∀ q ∈ lw_privs_3, lw_okq q := List.forall_mem_cons.mpr ⟨lw_p32, List.forall_mem_cons.mpr ⟨lw_p33, List.forall_mem_cons.mpr ⟨lw_p34, List.forall_mem_cons.mpr ⟨lw_p35, List.forall_mem_cons.mpr ⟨lw_p36, List.forall_mem_cons.mpr ⟨lw_p37, List.forall_mem_cons.mpr ⟨lw_p38, List.forall_mem_cons.mpr ⟨lw_p39, List.forall_mem_cons.mpr ⟨lw_p40, List.forall_mem_cons.mpr ⟨lw_p41, List.forall_mem_cons.mpr ⟨lw_p42, List.forall_mem_cons.mpr ⟨lw_p43, List.forall_mem_cons.mpr ⟨lw_p44, List.forall_mem_cons.mpr ⟨lw_p45, List.forall_mem_cons.mpr ⟨lw_p46, List.forall_mem_cons.mpr ⟨lw_p47, fun _ h => absurd h List.not_mem_nil⟩⟩⟩⟩⟩⟩⟩⟩⟩⟩⟩⟩⟩⟩⟩⟩
theorem lw_p48 : lw_okq (⟨"OrganBarrelModel", "ticksNow", "(II)I"⟩, 26) := ⟨⟨by decide +kernel, by decide +kernel⟩, List.mem_of_getElem? (i := 849) (by decide +kernel), List.mem_of_getElem? (i := 1006) (by decide +kernel), List.mem_of_getElem? (i := 1007) (by decide +kernel)⟩
theorem lw_p49 : lw_okq (⟨"OrganBarrelModel", "of", "(II)I"⟩, 26) := ⟨⟨by decide +kernel, by decide +kernel⟩, List.mem_of_getElem? (i := 849) (by decide +kernel), List.mem_of_getElem? (i := 1010) (by decide +kernel), List.mem_of_getElem? (i := 1011) (by decide +kernel)⟩
theorem lw_p50 : lw_okq (⟨"OrganBarrelModel", "set", "(III)V"⟩, 26) := ⟨⟨by decide +kernel, by decide +kernel⟩, List.mem_of_getElem? (i := 849) (by decide +kernel), List.mem_of_getElem? (i := 1014) (by decide +kernel), List.mem_of_getElem? (i := 1015) (by decide +kernel)⟩
theorem lw_p51 : lw_okq (⟨"OrganBarrelModel", "canNote", "(IIII)I"⟩, 26) := ⟨⟨by decide +kernel, by decide +kernel⟩, List.mem_of_getElem? (i := 849) (by decide +kernel), List.mem_of_getElem? (i := 1022) (by decide +kernel), List.mem_of_getElem? (i := 1023) (by decide +kernel)⟩
theorem lw_p52 : lw_okq (⟨"OrganBarrelModel", "key", "(II)I"⟩, 26) := ⟨⟨by decide +kernel, by decide +kernel⟩, List.mem_of_getElem? (i := 849) (by decide +kernel), List.mem_of_getElem? (i := 1026) (by decide +kernel), List.mem_of_getElem? (i := 1027) (by decide +kernel)⟩
theorem lw_p53 : lw_okq (⟨"OrganBarrelModel", "start", "(II)I"⟩, 26) := ⟨⟨by decide +kernel, by decide +kernel⟩, List.mem_of_getElem? (i := 849) (by decide +kernel), List.mem_of_getElem? (i := 1030) (by decide +kernel), List.mem_of_getElem? (i := 1031) (by decide +kernel)⟩
theorem lw_p54 : lw_okq (⟨"OrganBarrelModel", "length", "(II)I"⟩, 26) := ⟨⟨by decide +kernel, by decide +kernel⟩, List.mem_of_getElem? (i := 849) (by decide +kernel), List.mem_of_getElem? (i := 1034) (by decide +kernel), List.mem_of_getElem? (i := 1035) (by decide +kernel)⟩
theorem lw_p55 : lw_okq (⟨"OrganBarrelModel", "noteNow", "(IIII)I"⟩, 26) := ⟨⟨by decide +kernel, by decide +kernel⟩, List.mem_of_getElem? (i := 849) (by decide +kernel), List.mem_of_getElem? (i := 1038) (by decide +kernel), List.mem_of_getElem? (i := 1039) (by decide +kernel)⟩
theorem lw_p56 : lw_okq (⟨"OrganBarrelModel", "isNote", "(II)Z"⟩, 26) := ⟨⟨by decide +kernel, by decide +kernel⟩, List.mem_of_getElem? (i := 849) (by decide +kernel), List.mem_of_getElem? (i := 1046) (by decide +kernel), List.mem_of_getElem? (i := 1047) (by decide +kernel)⟩
theorem lw_p57 : lw_okq (⟨"OrganBarrelModel", "canShift", "(II)I"⟩, 26) := ⟨⟨by decide +kernel, by decide +kernel⟩, List.mem_of_getElem? (i := 849) (by decide +kernel), List.mem_of_getElem? (i := 1054) (by decide +kernel), List.mem_of_getElem? (i := 1055) (by decide +kernel)⟩
theorem lw_p58 : lw_okq (⟨"OrganBarrelModel", "shiftNow", "(II)I"⟩, 26) := ⟨⟨by decide +kernel, by decide +kernel⟩, List.mem_of_getElem? (i := 849) (by decide +kernel), List.mem_of_getElem? (i := 1058) (by decide +kernel), List.mem_of_getElem? (i := 1059) (by decide +kernel)⟩
theorem lw_p59 : lw_okq (⟨"OrganBarrelModel", "tuneNow", "(II)I"⟩, 26) := ⟨⟨by decide +kernel, by decide +kernel⟩, List.mem_of_getElem? (i := 849) (by decide +kernel), List.mem_of_getElem? (i := 1067) (by decide +kernel), List.mem_of_getElem? (i := 1068) (by decide +kernel)⟩
theorem lw_p60 : lw_okq (⟨"OrganBarrelModel", "isPinned", "(I)Z"⟩, 26) := ⟨⟨by decide +kernel, by decide +kernel⟩, List.mem_of_getElem? (i := 849) (by decide +kernel), List.mem_of_getElem? (i := 1071) (by decide +kernel), List.mem_of_getElem? (i := 1072) (by decide +kernel)⟩
theorem lw_p61 : lw_okq (⟨"OrganBarrelModel", "noteTold", "(III)I"⟩, 26) := ⟨⟨by decide +kernel, by decide +kernel⟩, List.mem_of_getElem? (i := 849) (by decide +kernel), List.mem_of_getElem? (i := 1080) (by decide +kernel), List.mem_of_getElem? (i := 1081) (by decide +kernel)⟩
theorem lw_p62 : lw_okq (⟨"OrganBarrelModel", "begin", "(III)I"⟩, 26) := ⟨⟨by decide +kernel, by decide +kernel⟩, List.mem_of_getElem? (i := 849) (by decide +kernel), List.mem_of_getElem? (i := 1084) (by decide +kernel), List.mem_of_getElem? (i := 1085) (by decide +kernel)⟩
theorem lw_p63 : lw_okq (⟨"OrganBarrelModel", "angleNow", "(II)I"⟩, 26) := ⟨⟨by decide +kernel, by decide +kernel⟩, List.mem_of_getElem? (i := 849) (by decide +kernel), List.mem_of_getElem? (i := 1088) (by decide +kernel), List.mem_of_getElem? (i := 1089) (by decide +kernel)⟩
def lw_privs_4 : List (MethodName × Nat) := [(⟨"OrganBarrelModel", "ticksNow", "(II)I"⟩, 26), (⟨"OrganBarrelModel", "of", "(II)I"⟩, 26), (⟨"OrganBarrelModel", "set", "(III)V"⟩, 26), (⟨"OrganBarrelModel", "canNote", "(IIII)I"⟩, 26), (⟨"OrganBarrelModel", "key", "(II)I"⟩, 26), (⟨"OrganBarrelModel", "start", "(II)I"⟩, 26), (⟨"OrganBarrelModel", "length", "(II)I"⟩, 26), (⟨"OrganBarrelModel", "noteNow", "(IIII)I"⟩, 26), (⟨"OrganBarrelModel", "isNote", "(II)Z"⟩, 26), (⟨"OrganBarrelModel", "canShift", "(II)I"⟩, 26), (⟨"OrganBarrelModel", "shiftNow", "(II)I"⟩, 26), (⟨"OrganBarrelModel", "tuneNow", "(II)I"⟩, 26), (⟨"OrganBarrelModel", "isPinned", "(I)Z"⟩, 26), (⟨"OrganBarrelModel", "noteTold", "(III)I"⟩, 26), (⟨"OrganBarrelModel", "begin", "(III)I"⟩, 26), (⟨"OrganBarrelModel", "angleNow", "(II)I"⟩, 26)]
theorem lw_r4 : ∀ q ∈ lw_privs_4, lw_okq q := List.forall_mem_cons.mpr ⟨lw_p48, List.forall_mem_cons.mpr ⟨lw_p49, List.forall_mem_cons.mpr ⟨lw_p50, List.forall_mem_cons.mpr ⟨lw_p51, List.forall_mem_cons.mpr ⟨lw_p52, List.forall_mem_cons.mpr ⟨lw_p53, List.forall_mem_cons.mpr ⟨lw_p54, List.forall_mem_cons.mpr ⟨lw_p55, List.forall_mem_cons.mpr ⟨lw_p56, List.forall_mem_cons.mpr ⟨lw_p57, List.forall_mem_cons.mpr ⟨lw_p58, List.forall_mem_cons.mpr ⟨lw_p59, List.forall_mem_cons.mpr ⟨lw_p60, List.forall_mem_cons.mpr ⟨lw_p61, List.forall_mem_cons.mpr ⟨lw_p62, List.forall_mem_cons.mpr ⟨lw_p63, fun _ h => absurd h List.not_mem_nil⟩⟩⟩⟩⟩⟩⟩⟩⟩⟩⟩⟩⟩⟩⟩⟩
theorem lw_p64 : lw_okq (⟨"OrganBarrelModel", "angle", "(III)I"⟩, 26) := ⟨⟨by decide +kernel, by decide +kernel⟩, List.mem_of_getElem? (i := 849) (by decide +kernel), List.mem_of_getElem? (i := 1092) (by decide +kernel), List.mem_of_getElem? (i := 1093) (by decide +kernel)⟩
theorem lw_p65 : lw_okq (⟨"OrganBarrelModel", "hold", "(II)I"⟩, 26) := ⟨⟨by decide +kernel, by decide +kernel⟩, List.mem_of_getElem? (i := 849) (by decide +kernel), List.mem_of_getElem? (i := 1096) (by decide +kernel), List.mem_of_getElem? (i := 1097) (by decide +kernel)⟩
theorem lw_p66 : lw_okq (⟨"OrganBarrelModel", "canPin", "(I)I"⟩, 26) := ⟨⟨by decide +kernel, by decide +kernel⟩, List.mem_of_getElem? (i := 849) (by decide +kernel), List.mem_of_getElem? (i := 1104) (by decide +kernel), List.mem_of_getElem? (i := 1105) (by decide +kernel)⟩
theorem lw_p67 : lw_okq (⟨"OrganBarrelModel", "because", "(III)I"⟩, 26) := ⟨⟨by decide +kernel, by decide +kernel⟩, List.mem_of_getElem? (i := 849) (by decide +kernel), List.mem_of_getElem? (i := 1108) (by decide +kernel), List.mem_of_getElem? (i := 1109) (by decide +kernel)⟩
theorem lw_p68 : lw_okq (⟨"OrganBarrelModel", "isWide", "(I)Z"⟩, 26) := ⟨⟨by decide +kernel, by decide +kernel⟩, List.mem_of_getElem? (i := 849) (by decide +kernel), List.mem_of_getElem? (i := 1112) (by decide +kernel), List.mem_of_getElem? (i := 1113) (by decide +kernel)⟩
theorem lw_p69 : lw_okq (⟨"OrganBarrelModel", "freeBehind", "(II)I"⟩, 26) := ⟨⟨by decide +kernel, by decide +kernel⟩, List.mem_of_getElem? (i := 849) (by decide +kernel), List.mem_of_getElem? (i := 1116) (by decide +kernel), List.mem_of_getElem? (i := 1117) (by decide +kernel)⟩
theorem lw_p70 : lw_okq (⟨"OrganBarrelModel", "from", "(II)I"⟩, 26) := ⟨⟨by decide +kernel, by decide +kernel⟩, List.mem_of_getElem? (i := 849) (by decide +kernel), List.mem_of_getElem? (i := 1120) (by decide +kernel), List.mem_of_getElem? (i := 1121) (by decide +kernel)⟩
theorem lw_p71 : lw_okq (⟨"OrganBarrelModel", "isFree", "(II)Z"⟩, 26) := ⟨⟨by decide +kernel, by decide +kernel⟩, List.mem_of_getElem? (i := 849) (by decide +kernel), List.mem_of_getElem? (i := 1124) (by decide +kernel), List.mem_of_getElem? (i := 1125) (by decide +kernel)⟩
theorem lw_p72 : lw_okq (⟨"OrganBarrelModel", "strange", "(IIII)I"⟩, 26) := ⟨⟨by decide +kernel, by decide +kernel⟩, List.mem_of_getElem? (i := 849) (by decide +kernel), List.mem_of_getElem? (i := 1128) (by decide +kernel), List.mem_of_getElem? (i := 1129) (by decide +kernel)⟩
theorem lw_p73 : lw_okq (⟨"OrganBarrelModel", "track", "(II)I"⟩, 26) := ⟨⟨by decide +kernel, by decide +kernel⟩, List.mem_of_getElem? (i := 849) (by decide +kernel), List.mem_of_getElem? (i := 1132) (by decide +kernel), List.mem_of_getElem? (i := 1133) (by decide +kernel)⟩
theorem lw_p74 : lw_okq (⟨"OrganBarrelModel", "pinOf", "(III)I"⟩, 26) := ⟨⟨by decide +kernel, by decide +kernel⟩, List.mem_of_getElem? (i := 849) (by decide +kernel), List.mem_of_getElem? (i := 1136) (by decide +kernel), List.mem_of_getElem? (i := 1137) (by decide +kernel)⟩
theorem lw_p75 : lw_okq (⟨"OrganBarrelModel", "isBeside", "(IIII)Z"⟩, 26) := ⟨⟨by decide +kernel, by decide +kernel⟩, List.mem_of_getElem? (i := 849) (by decide +kernel), List.mem_of_getElem? (i := 1143) (by decide +kernel), List.mem_of_getElem? (i := 1144) (by decide +kernel)⟩
theorem lw_p76 : lw_okq (⟨"OrganBarrelModel", "blames", "(II)V"⟩, 26) := ⟨⟨by decide +kernel, by decide +kernel⟩, List.mem_of_getElem? (i := 849) (by decide +kernel), List.mem_of_getElem? (i := 1147) (by decide +kernel), List.mem_of_getElem? (i := 1148) (by decide +kernel)⟩
theorem lw_p77 : lw_okq (⟨"OrganBarrelModel", "pinNow", "(I)I"⟩, 26) := ⟨⟨by decide +kernel, by decide +kernel⟩, List.mem_of_getElem? (i := 849) (by decide +kernel), List.mem_of_getElem? (i := 1151) (by decide +kernel), List.mem_of_getElem? (i := 1152) (by decide +kernel)⟩
theorem lw_p78 : lw_okq (⟨"OrganBarrelModel", "canOff", "(I)I"⟩, 26) := ⟨⟨by decide +kernel, by decide +kernel⟩, List.mem_of_getElem? (i := 849) (by decide +kernel), List.mem_of_getElem? (i := 1159) (by decide +kernel), List.mem_of_getElem? (i := 1160) (by decide +kernel)⟩
theorem lw_p79 : lw_okq (⟨"OrganBarrelModel", "offNow", "(I)I"⟩, 26) := ⟨⟨by decide +kernel, by decide +kernel⟩, List.mem_of_getElem? (i := 849) (by decide +kernel), List.mem_of_getElem? (i := 1163) (by decide +kernel), List.mem_of_getElem? (i := 1164) (by decide +kernel)⟩
def lw_privs_5 : List (MethodName × Nat) := [(⟨"OrganBarrelModel", "angle", "(III)I"⟩, 26), (⟨"OrganBarrelModel", "hold", "(II)I"⟩, 26), (⟨"OrganBarrelModel", "canPin", "(I)I"⟩, 26), (⟨"OrganBarrelModel", "because", "(III)I"⟩, 26), (⟨"OrganBarrelModel", "isWide", "(I)Z"⟩, 26), (⟨"OrganBarrelModel", "freeBehind", "(II)I"⟩, 26), (⟨"OrganBarrelModel", "from", "(II)I"⟩, 26), (⟨"OrganBarrelModel", "isFree", "(II)Z"⟩, 26), (⟨"OrganBarrelModel", "strange", "(IIII)I"⟩, 26), (⟨"OrganBarrelModel", "track", "(II)I"⟩, 26), (⟨"OrganBarrelModel", "pinOf", "(III)I"⟩, 26), (⟨"OrganBarrelModel", "isBeside", "(IIII)Z"⟩, 26), (⟨"OrganBarrelModel", "blames", "(II)V"⟩, 26), (⟨"OrganBarrelModel", "pinNow", "(I)I"⟩, 26), (⟨"OrganBarrelModel", "canOff", "(I)I"⟩, 26), (⟨"OrganBarrelModel", "offNow", "(I)I"⟩, 26)]
theorem lw_r5 : ∀ q ∈ lw_privs_5, lw_okq q := List.forall_mem_cons.mpr ⟨lw_p64, List.forall_mem_cons.mpr ⟨lw_p65, List.forall_mem_cons.mpr ⟨lw_p66, List.forall_mem_cons.mpr ⟨lw_p67, List.forall_mem_cons.mpr ⟨lw_p68, List.forall_mem_cons.mpr ⟨lw_p69, List.forall_mem_cons.mpr ⟨lw_p70, List.forall_mem_cons.mpr ⟨lw_p71, List.forall_mem_cons.mpr ⟨lw_p72, List.forall_mem_cons.mpr ⟨lw_p73, List.forall_mem_cons.mpr ⟨lw_p74, List.forall_mem_cons.mpr ⟨lw_p75, List.forall_mem_cons.mpr ⟨lw_p76, List.forall_mem_cons.mpr ⟨lw_p77, List.forall_mem_cons.mpr ⟨lw_p78, List.forall_mem_cons.mpr ⟨lw_p79, fun _ h => absurd h List.not_mem_nil⟩⟩⟩⟩⟩⟩⟩⟩⟩⟩⟩⟩⟩⟩⟩⟩
theorem lw_p80 : lw_okq (⟨"OrganBarrelModel", "canSettle", "()I"⟩, 26) := ⟨⟨by decide +kernel, by decide +kernel⟩, List.mem_of_getElem? (i := 849) (by decide +kernel), List.mem_of_getElem? (i := 1175) (by decide +kernel), List.mem_of_getElem? (i := 1176) (by decide +kernel)⟩
theorem lw_p81 : lw_okq (⟨"OrganBarrelModel", "settled", "()I"⟩, 26) := ⟨⟨by decide +kernel, by decide +kernel⟩, List.mem_of_getElem? (i := 849) (by decide +kernel), List.mem_of_getElem? (i := 1179) (by decide +kernel), List.mem_of_getElem? (i := 1180) (by decide +kernel)⟩
theorem lw_p82 : lw_okq (⟨"OrganBarrelModel", "triesAll", "()V"⟩, 26) := ⟨⟨by decide +kernel, by decide +kernel⟩, List.mem_of_getElem? (i := 849) (by decide +kernel), List.mem_of_getElem? (i := 1183) (by decide +kernel), List.mem_of_getElem? (i := 1184) (by decide +kernel)⟩
theorem lw_p83 : lw_okq (⟨"OrganBarrelModel", "areBeside", "(III)Z"⟩, 26) := ⟨⟨by decide +kernel, by decide +kernel⟩, List.mem_of_getElem? (i := 849) (by decide +kernel), List.mem_of_getElem? (i := 1187) (by decide +kernel), List.mem_of_getElem? (i := 1188) (by decide +kernel)⟩
theorem lw_p84 : lw_okq (⟨"OrganBarrelModel", "shifts", "(I)I"⟩, 26) := ⟨⟨by decide +kernel, by decide +kernel⟩, List.mem_of_getElem? (i := 849) (by decide +kernel), List.mem_of_getElem? (i := 1191) (by decide +kernel), List.mem_of_getElem? (i := 1192) (by decide +kernel)⟩
theorem lw_p85 : lw_okq (⟨"OrganBarrelModel", "laysBridges", "()V"⟩, 26) := ⟨⟨by decide +kernel, by decide +kernel⟩, List.mem_of_getElem? (i := 849) (by decide +kernel), List.mem_of_getElem? (i := 1201) (by decide +kernel), List.mem_of_getElem? (i := 1202) (by decide +kernel)⟩
theorem lw_p86 : lw_okq (⟨"OrganBarrelModel", "laysPins", "()V"⟩, 26) := ⟨⟨by decide +kernel, by decide +kernel⟩, List.mem_of_getElem? (i := 849) (by decide +kernel), List.mem_of_getElem? (i := 1205) (by decide +kernel), List.mem_of_getElem? (i := 1206) (by decide +kernel)⟩
theorem lw_p87 : lw_okq (⟨"OrganBarrelModel", "tracks", "()I"⟩, 26) := ⟨⟨by decide +kernel, by decide +kernel⟩, List.mem_of_getElem? (i := 849) (by decide +kernel), List.mem_of_getElem? (i := 1209) (by decide +kernel), List.mem_of_getElem? (i := 1210) (by decide +kernel)⟩
theorem lw_p88 : lw_okq (⟨"OrganBarrelModel", "found", "(II)I"⟩, 26) := ⟨⟨by decide +kernel, by decide +kernel⟩, List.mem_of_getElem? (i := 849) (by decide +kernel), List.mem_of_getElem? (i := 1213) (by decide +kernel), List.mem_of_getElem? (i := 1214) (by decide +kernel)⟩
theorem lw_p89 : lw_okq (⟨"OrganBarrelModel", "pinAt", "(II)I"⟩, 26) := ⟨⟨by decide +kernel, by decide +kernel⟩, List.mem_of_getElem? (i := 849) (by decide +kernel), List.mem_of_getElem? (i := 1217) (by decide +kernel), List.mem_of_getElem? (i := 1218) (by decide +kernel)⟩
theorem lw_p90 : lw_okq (⟨"OrganBarrelModel", "indexOf", "(II)I"⟩, 26) := ⟨⟨by decide +kernel, by decide +kernel⟩, List.mem_of_getElem? (i := 849) (by decide +kernel), List.mem_of_getElem? (i := 1221) (by decide +kernel), List.mem_of_getElem? (i := 1222) (by decide +kernel)⟩
theorem lw_p91 : lw_okq (⟨"OrganBarrelModel", "freeNow", "(I)I"⟩, 26) := ⟨⟨by decide +kernel, by decide +kernel⟩, List.mem_of_getElem? (i := 849) (by decide +kernel), List.mem_of_getElem? (i := 1225) (by decide +kernel), List.mem_of_getElem? (i := 1226) (by decide +kernel)⟩
theorem lw_p92 : lw_okq (⟨"OrganBarrelModel", "allNow", "(I)I"⟩, 26) := ⟨⟨by decide +kernel, by decide +kernel⟩, List.mem_of_getElem? (i := 849) (by decide +kernel), List.mem_of_getElem? (i := 1237) (by decide +kernel), List.mem_of_getElem? (i := 1238) (by decide +kernel)⟩
theorem lw_p93 : lw_okq (⟨"OrganBarrelModel", "isWorn", "(I)Z"⟩, 26) := ⟨⟨by decide +kernel, by decide +kernel⟩, List.mem_of_getElem? (i := 849) (by decide +kernel), List.mem_of_getElem? (i := 1241) (by decide +kernel), List.mem_of_getElem? (i := 1242) (by decide +kernel)⟩
theorem lw_p94 : lw_okq (⟨"OrganBarrelModel", "pinnedSet", "()I"⟩, 26) := ⟨⟨by decide +kernel, by decide +kernel⟩, List.mem_of_getElem? (i := 849) (by decide +kernel), List.mem_of_getElem? (i := 1245) (by decide +kernel), List.mem_of_getElem? (i := 1246) (by decide +kernel)⟩
theorem lw_p95 : lw_okq (⟨"OrganBarrelModel", "emptyTracks", "()I"⟩, 26) := ⟨⟨by decide +kernel, by decide +kernel⟩, List.mem_of_getElem? (i := 849) (by decide +kernel), List.mem_of_getElem? (i := 1249) (by decide +kernel), List.mem_of_getElem? (i := 1250) (by decide +kernel)⟩
def lw_privs_6 : List (MethodName × Nat) := [(⟨"OrganBarrelModel", "canSettle", "()I"⟩, 26), (⟨"OrganBarrelModel", "settled", "()I"⟩, 26), (⟨"OrganBarrelModel", "triesAll", "()V"⟩, 26), (⟨"OrganBarrelModel", "areBeside", "(III)Z"⟩, 26), (⟨"OrganBarrelModel", "shifts", "(I)I"⟩, 26), (⟨"OrganBarrelModel", "laysBridges", "()V"⟩, 26), (⟨"OrganBarrelModel", "laysPins", "()V"⟩, 26), (⟨"OrganBarrelModel", "tracks", "()I"⟩, 26), (⟨"OrganBarrelModel", "found", "(II)I"⟩, 26), (⟨"OrganBarrelModel", "pinAt", "(II)I"⟩, 26), (⟨"OrganBarrelModel", "indexOf", "(II)I"⟩, 26), (⟨"OrganBarrelModel", "freeNow", "(I)I"⟩, 26), (⟨"OrganBarrelModel", "allNow", "(I)I"⟩, 26), (⟨"OrganBarrelModel", "isWorn", "(I)Z"⟩, 26), (⟨"OrganBarrelModel", "pinnedSet", "()I"⟩, 26), (⟨"OrganBarrelModel", "emptyTracks", "()I"⟩, 26)]
theorem lw_r6 : ∀ q ∈ lw_privs_6, lw_okq q := List.forall_mem_cons.mpr ⟨lw_p80, List.forall_mem_cons.mpr ⟨lw_p81, List.forall_mem_cons.mpr ⟨lw_p82, List.forall_mem_cons.mpr ⟨lw_p83, List.forall_mem_cons.mpr ⟨lw_p84, List.forall_mem_cons.mpr ⟨lw_p85, List.forall_mem_cons.mpr ⟨lw_p86, List.forall_mem_cons.mpr ⟨lw_p87, List.forall_mem_cons.mpr ⟨lw_p88, List.forall_mem_cons.mpr ⟨lw_p89, List.forall_mem_cons.mpr ⟨lw_p90, List.forall_mem_cons.mpr ⟨lw_p91, List.forall_mem_cons.mpr ⟨lw_p92, List.forall_mem_cons.mpr ⟨lw_p93, List.forall_mem_cons.mpr ⟨lw_p94, List.forall_mem_cons.mpr ⟨lw_p95, fun _ h => absurd h List.not_mem_nil⟩⟩⟩⟩⟩⟩⟩⟩⟩⟩⟩⟩⟩⟩⟩⟩
theorem lw_p96 : lw_okq (⟨"OrganBarrelModel", "longest", "(I)I"⟩, 26) := ⟨⟨by decide +kernel, by decide +kernel⟩, List.mem_of_getElem? (i := 849) (by decide +kernel), List.mem_of_getElem? (i := 1253) (by decide +kernel), List.mem_of_getElem? (i := 1254) (by decide +kernel)⟩
theorem lw_p97 : lw_okq (⟨"OrganBarrelModel", "bridgeNow", "(II)I"⟩, 26) := ⟨⟨by decide +kernel, by decide +kernel⟩, List.mem_of_getElem? (i := 849) (by decide +kernel), List.mem_of_getElem? (i := 1261) (by decide +kernel), List.mem_of_getElem? (i := 1262) (by decide +kernel)⟩
theorem lw_p98 : lw_okq (⟨"OrganBarrelModel", "dumb", "(I)I"⟩, 26) := ⟨⟨by decide +kernel, by decide +kernel⟩, List.mem_of_getElem? (i := 849) (by decide +kernel), List.mem_of_getElem? (i := 1265) (by decide +kernel), List.mem_of_getElem? (i := 1266) (by decide +kernel)⟩
theorem lw_p99 : lw_okq (⟨"OrganBarrelModel", "heardNow", "(II)I"⟩, 26) := ⟨⟨by decide +kernel, by decide +kernel⟩, List.mem_of_getElem? (i := 849) (by decide +kernel), List.mem_of_getElem? (i := 1286) (by decide +kernel), List.mem_of_getElem? (i := 1287) (by decide +kernel)⟩
theorem lw_p100 : lw_okq (⟨"OrganBarrelModel", "toldAt", "(II)I"⟩, 26) := ⟨⟨by decide +kernel, by decide +kernel⟩, List.mem_of_getElem? (i := 849) (by decide +kernel), List.mem_of_getElem? (i := 1294) (by decide +kernel), List.mem_of_getElem? (i := 1295) (by decide +kernel)⟩
theorem lw_p101 : lw_okq (⟨"OrganBarrelModel", "readsOrder", "(Z)Z"⟩, 26) := ⟨⟨by decide +kernel, by decide +kernel⟩, List.mem_of_getElem? (i := 849) (by decide +kernel), List.mem_of_getElem? (i := 1315) (by decide +kernel), List.mem_of_getElem? (i := 1316) (by decide +kernel)⟩
theorem lw_p102 : lw_okq (⟨"OrganBarrelModel", "here", "()I"⟩, 26) := ⟨⟨by decide +kernel, by decide +kernel⟩, List.mem_of_getElem? (i := 849) (by decide +kernel), List.mem_of_getElem? (i := 1319) (by decide +kernel), List.mem_of_getElem? (i := 1320) (by decide +kernel)⟩
theorem lw_p103 : lw_okq (⟨"OrganBarrelModel", "takes", "(I)Z"⟩, 26) := ⟨⟨by decide +kernel, by decide +kernel⟩, List.mem_of_getElem? (i := 849) (by decide +kernel), List.mem_of_getElem? (i := 1323) (by decide +kernel), List.mem_of_getElem? (i := 1324) (by decide +kernel)⟩
theorem lw_p104 : lw_okq (⟨"OrganBarrelModel", "isFigure", "(I)Z"⟩, 26) := ⟨⟨by decide +kernel, by decide +kernel⟩, List.mem_of_getElem? (i := 849) (by decide +kernel), List.mem_of_getElem? (i := 1327) (by decide +kernel), List.mem_of_getElem? (i := 1328) (by decide +kernel)⟩
theorem lw_p105 : lw_okq (⟨"OrganBarrelModel", "does", "(III)V"⟩, 26) := ⟨⟨by decide +kernel, by decide +kernel⟩, List.mem_of_getElem? (i := 849) (by decide +kernel), List.mem_of_getElem? (i := 1333) (by decide +kernel), List.mem_of_getElem? (i := 1334) (by decide +kernel)⟩
theorem lw_p106 : lw_okq (⟨"OrganBarrelModel", "readsNotes", "(IZ)Z"⟩, 26) := ⟨⟨by decide +kernel, by decide +kernel⟩, List.mem_of_getElem? (i := 849) (by decide +kernel), List.mem_of_getElem? (i := 1337) (by decide +kernel), List.mem_of_getElem? (i := 1338) (by decide +kernel)⟩
theorem lw_p107 : lw_okq (⟨"OrganBarrelModel", "keepsAside", "()V"⟩, 26) := ⟨⟨by decide +kernel, by decide +kernel⟩, List.mem_of_getElem? (i := 849) (by decide +kernel), List.mem_of_getElem? (i := 1341) (by decide +kernel), List.mem_of_getElem? (i := 1342) (by decide +kernel)⟩
theorem lw_p108 : lw_okq (⟨"OrganBarrelModel", "toldOf", "(I)I"⟩, 26) := ⟨⟨by decide +kernel, by decide +kernel⟩, List.mem_of_getElem? (i := 849) (by decide +kernel), List.mem_of_getElem? (i := 1354) (by decide +kernel), List.mem_of_getElem? (i := 1355) (by decide +kernel)⟩
def lw_privs_7 : List (MethodName × Nat) := [(⟨"OrganBarrelModel", "longest", "(I)I"⟩, 26), (⟨"OrganBarrelModel", "bridgeNow", "(II)I"⟩, 26), (⟨"OrganBarrelModel", "dumb", "(I)I"⟩, 26), (⟨"OrganBarrelModel", "heardNow", "(II)I"⟩, 26), (⟨"OrganBarrelModel", "toldAt", "(II)I"⟩, 26), (⟨"OrganBarrelModel", "readsOrder", "(Z)Z"⟩, 26), (⟨"OrganBarrelModel", "here", "()I"⟩, 26), (⟨"OrganBarrelModel", "takes", "(I)Z"⟩, 26), (⟨"OrganBarrelModel", "isFigure", "(I)Z"⟩, 26), (⟨"OrganBarrelModel", "does", "(III)V"⟩, 26), (⟨"OrganBarrelModel", "readsNotes", "(IZ)Z"⟩, 26), (⟨"OrganBarrelModel", "keepsAside", "()V"⟩, 26), (⟨"OrganBarrelModel", "toldOf", "(I)I"⟩, 26)]
theorem lw_r7 : ∀ q ∈ lw_privs_7, lw_okq q := List.forall_mem_cons.mpr ⟨lw_p96, List.forall_mem_cons.mpr ⟨lw_p97, List.forall_mem_cons.mpr ⟨lw_p98, List.forall_mem_cons.mpr ⟨lw_p99, List.forall_mem_cons.mpr ⟨lw_p100, List.forall_mem_cons.mpr ⟨lw_p101, List.forall_mem_cons.mpr ⟨lw_p102, List.forall_mem_cons.mpr ⟨lw_p103, List.forall_mem_cons.mpr ⟨lw_p104, List.forall_mem_cons.mpr ⟨lw_p105, List.forall_mem_cons.mpr ⟨lw_p106, List.forall_mem_cons.mpr ⟨lw_p107, List.forall_mem_cons.mpr ⟨lw_p108, fun _ h => absurd h List.not_mem_nil⟩⟩⟩⟩⟩⟩⟩⟩⟩⟩⟩⟩⟩
def lw_privs : List (MethodName × Nat) := lw_privs_1 ++ (lw_privs_2 ++ (lw_privs_3 ++ (lw_privs_4 ++ (lw_privs_5 ++ (lw_privs_6 ++ (lw_privs_7))))))
def lw_tbl : List Cond := k2_sels lw_privs ++ tables_1
theorem lw_privs_ok : ∀ q ∈ lw_privs, lw_okq q := by
  show ∀ q ∈ lw_privs_1 ++ (lw_privs_2 ++ (lw_privs_3 ++ (lw_privs_4 ++ (lw_privs_5 ++ (lw_privs_6 ++ (lw_privs_7)))))), lw_okq q
  exact List.forall_mem_append.mpr ⟨lw_r1, List.forall_mem_append.mpr ⟨lw_r2, List.forall_mem_append.mpr ⟨lw_r3, List.forall_mem_append.mpr ⟨lw_r4, List.forall_mem_append.mpr ⟨lw_r5, List.forall_mem_append.mpr ⟨lw_r6, lw_r7⟩⟩⟩⟩⟩⟩
end
section
-- GENERATED by wip/whole/gen.py: the program as tables: classes, fields, methods, resolved code
def ob_T0 : u_T := fun k => match k with
  | 0 => ("OrganBarrel$Barrel", "angles", "I", false)
  | 1 => ("OrganBarrel$Barrel", "keys", "I", false)
  | 2 => ("OrganBarrel$Barrel", "tunes", "I", false)
  | 3 => ("OrganBarrel$Barrel", "way", "I", false)
  | 4 => ("OrganBarrel$Barrel", "side", "I", false)
  | 5 => ("OrganBarrel$Barrel", "limit", "I", false)
  | 6 => ("OrganBarrel$Barrel", "gaps", "[I", true)
  | 7 => ("OrganBarrel$Barrel", "notes", "[LOrganBarrel$Notes;", true)
  | _ => ("OrganBarrel$Barrel", "pins", "[LOrganBarrel$Pins;", true)
def ob_ty0 : Nat → FieldType := fun k => match k with
  | 0 => .int
  | 1 => .int
  | 2 => .int
  | 3 => .int
  | 4 => .int
  | 5 => .int
  | 6 => .array .int
  | 7 => .array (.object "OrganBarrel$Notes")
  | _ => .array (.object "OrganBarrel$Pins")
def ob_T1 : u_T := fun k => match k with
  | 0 => ("OrganBarrel$Bridges", "count", "I", false)
  | 1 => ("OrganBarrel$Bridges", "wear", "[I", true)
  | 2 => ("OrganBarrel$Bridges", "begin", "[I", true)
  | 3 => ("OrganBarrel$Bridges", "holds", "[I", true)
  | 4 => ("OrganBarrel$Bridges", "firstTrack", "[I", true)
  | 5 => ("OrganBarrel$Bridges", "size", "[I", true)
  | 6 => ("OrganBarrel$Bridges", "number", "[I", true)
  | _ => ("OrganBarrel$Bridges", "pinAt", "[I", true)
def ob_ty1 : Nat → FieldType := fun k => match k with
  | 0 => .int
  | 1 => .array .int
  | 2 => .array .int
  | 3 => .array .int
  | 4 => .array .int
  | 5 => .array .int
  | 6 => .array .int
  | _ => .array .int
def ob_T2 : u_T := fun k => match k with
  | 0 => ("OrganBarrel$Cause", "order", "I", false)
  | 1 => ("OrganBarrel$Cause", "kind", "I", false)
  | 2 => ("OrganBarrel$Cause", "first", "I", false)
  | _ => ("OrganBarrel$Cause", "second", "I", false)
def ob_ty2 : Nat → FieldType := fun k => match k with
  | 0 => .int
  | 1 => .int
  | 2 => .int
  | _ => .int
def ob_T3 : u_T := fun k => match k with
  | 0 => ("OrganBarrel$Notes", "ticks", "I", false)
  | 1 => ("OrganBarrel$Notes", "shift", "I", false)
  | 2 => ("OrganBarrel$Notes", "count", "I", false)
  | 3 => ("OrganBarrel$Notes", "key", "[I", true)
  | 4 => ("OrganBarrel$Notes", "start", "[I", true)
  | _ => ("OrganBarrel$Notes", "length", "[I", true)
def ob_ty3 : Nat → FieldType := fun k => match k with
  | 0 => .int
  | 1 => .int
  | 2 => .int
  | 3 => .array .int
  | 4 => .array .int
  | _ => .array .int
def ob_T4 : u_T := fun k => match k with
  | 0 => ("OrganBarrel$Pinner", "plan", "[LOrganBarrel$Pins;", true)
  | 1 => ("OrganBarrel$Pinner", "beside", "[Z", true)
  | _ => ("OrganBarrel$Pinner", "best", "[I", true)
def ob_ty4 : Nat → FieldType := fun k => match k with
  | 0 => .array (.object "OrganBarrel$Pins")
  | 1 => .array .boolean
  | _ => .array .int
def ob_T5 : u_T := fun k => match k with
  | 0 => ("OrganBarrel$Pins", "lying", "Z", false)
  | 1 => ("OrganBarrel$Pins", "way", "I", false)
  | 2 => ("OrganBarrel$Pins", "notes", "LOrganBarrel$Notes;", true)
  | 3 => ("OrganBarrel$Pins", "begin", "[I", true)
  | 4 => ("OrganBarrel$Pins", "holds", "[I", true)
  | _ => ("OrganBarrel$Pins", "wear", "[I", true)
def ob_ty5 : Nat → FieldType := fun k => match k with
  | 0 => .boolean
  | 1 => .int
  | 2 => .object "OrganBarrel$Notes"
  | 3 => .array .int
  | 4 => .array .int
  | _ => .array .int
def ob_T6 : u_T := fun k => match k with
  | 0 => ("OrganBarrel$Text", "length", "I", false)
  | 1 => ("OrganBarrel$Text", "orders", "I", false)
  | 2 => ("OrganBarrel$Text", "letter", "[I", true)
  | 3 => ("OrganBarrel$Text", "bytes", "[B", true)
  | 4 => ("OrganBarrel$Text", "firstNumber", "[I", true)
  | 5 => ("OrganBarrel$Text", "numbers", "[I", true)
  | 6 => ("OrganBarrel$Text", "numbersUsed", "I", false)
  | 7 => ("OrganBarrel$Text", "orderOpen", "Z", false)
  | 8 => ("OrganBarrel$Text", "notesOpen", "Z", false)
  | _ => ("OrganBarrel$Text", "numbersWanted", "I", false)
def ob_ty6 : Nat → FieldType := fun k => match k with
  | 0 => .int
  | 1 => .int
  | 2 => .array .int
  | 3 => .array .byte
  | 4 => .array .int
  | 5 => .array .int
  | 6 => .int
  | 7 => .boolean
  | 8 => .boolean
  | _ => .int
def ob_T7 : u_T := fun k => match k with
  | 0 => ("OrganBarrel", "now", "LOrganBarrel$Barrel;", false)
  | 1 => ("OrganBarrel", "spare", "LOrganBarrel$Barrel;", false)
  | 2 => ("OrganBarrel", "kept", "[LOrganBarrel$Barrel;", true)
  | 3 => ("OrganBarrel", "states", "I", false)
  | 4 => ("OrganBarrel", "pinner", "LOrganBarrel$Pinner;", true)
  | 5 => ("OrganBarrel", "bridges", "LOrganBarrel$Bridges;", true)
  | 6 => ("OrganBarrel", "cause", "LOrganBarrel$Cause;", true)
  | 7 => ("OrganBarrel", "text", "LOrganBarrel$Text;", true)
  | 8 => ("OrganBarrel", "refusedBad", "I", false)
  | 9 => ("OrganBarrel", "refusedNo", "I", false)
  | _ => ("OrganBarrel", "refusedFull", "I", false)
def ob_ty7 : Nat → FieldType := fun k => match k with
  | 0 => .object "OrganBarrel$Barrel"
  | 1 => .object "OrganBarrel$Barrel"
  | 2 => .array (.object "OrganBarrel$Barrel")
  | 3 => .int
  | 4 => .object "OrganBarrel$Pinner"
  | 5 => .object "OrganBarrel$Bridges"
  | 6 => .object "OrganBarrel$Cause"
  | 7 => .object "OrganBarrel$Text"
  | 8 => .int
  | 9 => .int
  | _ => .int
def ob_T8 : u_T := fun k => match k with
  | 0 => ("OrganBarrelModel", "all", "[I", true)
  | 1 => ("OrganBarrelModel", "past", "[I", true)
  | 2 => ("OrganBarrelModel", "aside", "[I", true)
  | 3 => ("OrganBarrelModel", "states", "I", false)
  | 4 => ("OrganBarrelModel", "refused", "[I", true)
  | 5 => ("OrganBarrelModel", "cause", "[I", true)
  | 6 => ("OrganBarrelModel", "kind", "I", false)
  | 7 => ("OrganBarrelModel", "first", "I", false)
  | 8 => ("OrganBarrelModel", "second", "I", false)
  | 9 => ("OrganBarrelModel", "can", "[Z", true)
  | 10 => ("OrganBarrelModel", "pinTune", "[I", true)
  | 11 => ("OrganBarrelModel", "pinNumber", "[I", true)
  | 12 => ("OrganBarrelModel", "pinTrack", "[I", true)
  | 13 => ("OrganBarrelModel", "pinBridge", "[I", true)
  | 14 => ("OrganBarrelModel", "pinsMany", "I", false)
  | 15 => ("OrganBarrelModel", "bridgeBegin", "[I", true)
  | 16 => ("OrganBarrelModel", "bridgeHolds", "[I", true)
  | 17 => ("OrganBarrelModel", "bridgeFirst", "[I", true)
  | 18 => ("OrganBarrelModel", "bridgePins", "[I", true)
  | 19 => ("OrganBarrelModel", "bridgeWear", "[I", true)
  | 20 => ("OrganBarrelModel", "bridges", "I", false)
  | 21 => ("OrganBarrelModel", "text", "[I", true)
  | 22 => ("OrganBarrelModel", "textLong", "I", false)
  | 23 => ("OrganBarrelModel", "place", "I", false)
  | 24 => ("OrganBarrelModel", "value", "[I", true)
  | _ => ("OrganBarrelModel", "not", "I", false)
def ob_ty8 : Nat → FieldType := fun k => match k with
  | 0 => .array .int
  | 1 => .array .int
  | 2 => .array .int
  | 3 => .int
  | 4 => .array .int
  | 5 => .array .int
  | 6 => .int
  | 7 => .int
  | 8 => .int
  | 9 => .array .boolean
  | 10 => .array .int
  | 11 => .array .int
  | 12 => .array .int
  | 13 => .array .int
  | 14 => .int
  | 15 => .array .int
  | 16 => .array .int
  | 17 => .array .int
  | 18 => .array .int
  | 19 => .array .int
  | 20 => .int
  | 21 => .array .int
  | 22 => .int
  | 23 => .int
  | 24 => .array .int
  | _ => .int
def ob_cns : List String := ["OrganBarrel$Barrel", "OrganBarrel$Bridges", "OrganBarrel$Cause", "OrganBarrel$Notes", "OrganBarrel$Pinner", "OrganBarrel$Pins", "OrganBarrel$Text", "OrganBarrel", "OrganBarrelModel", "OrganBarrelLaw", "java/util/Arrays"]
def ob_cn (c : Nat) : String := ob_cns.getD c ""
abbrev ob_cl : List vw_C := [("OrganBarrel$Barrel", ob_T0, 9), ("OrganBarrel$Bridges", ob_T1, 8), ("OrganBarrel$Cause", ob_T2, 4), ("OrganBarrel$Notes", ob_T3, 6), ("OrganBarrel$Pinner", ob_T4, 3), ("OrganBarrel$Pins", ob_T5, 6), ("OrganBarrel$Text", ob_T6, 10), ("OrganBarrel", ob_T7, 11), ("OrganBarrelModel", ob_T8, 26)]
abbrev ob_Ent : Type := Instr × Nat × List Nat × Int
def ob_c_X0_init : List (List (Option ob_Ent)) := [[some (.aload_n 0, 1, [], 0), some (.invokespecial 3, 4, [0], 0), none, none, some (.aload_n 0, 5, [], 0), some (.bipush 6, 7, [], 0), none, some (.newarray .int, 9, [16], 0), none, some (.putfield 9, 12, [0, 6, 17, 1, 0], 6), none, none, some (.aload_n 0, 13, [], 0), some (.iconst 3, 14, [], 0), some (.anewarray 15, 17, [17, 3], 0), none],
  [none, some (.putfield 17, 20, [0, 7, 18, 1, 0], 7), none, none, some (.aload_n 0, 21, [], 0), some (.iconst 3, 22, [], 0), some (.anewarray 21, 25, [18, 5], 0), none, none, some (.putfield 23, 28, [0, 8, 19, 1, 0], 8), none, none, some (.iconst 0, 29, [], 0), some (.istore_n 1, 30, [], 0), some (.iload_n 1, 31, [], 0), some (.iconst 3, 32, [], 0)],
  [some (.if_icmp .ge 35, 35, [67], 0), none, none, some (.aload_n 0, 36, [], 0), some (.getfield 17, 39, [0, 7, 18, 1], 7), none, none, some (.iload_n 1, 40, [], 0), some (.new 15, 43, [3], 0), none, none, some (.dup, 44, [], 0), some (.invokespecial 27, 47, [9, 37, 1, 0, 3, 1, 1], 0), none, none, some (.aastore, 48, [], 0)],
  [some (.aload_n 0, 49, [], 0), some (.getfield 23, 52, [0, 8, 19, 1], 8), none, none, some (.iload_n 1, 53, [], 0), some (.new 21, 56, [5], 0), none, none, some (.dup, 57, [], 0), some (.invokespecial 28, 60, [9, 62, 1, 0, 5, 1, 1], 0), none, none, some (.aastore, 61, [], 0), some (.iinc 1 1, 64, [], 0), none, none],
  [some (.goto (-34), 67, [30], 0), none, none, some (.aload_n 0, 68, [], 0), some (.bipush 24, 70, [], 0), none, some (.iconst 4, 71, [], 0), some (.iconst 3, 72, [], 0), some (.invokevirtual 29, 75, [9, 1, 4, 0, 0, 5, 0], 0), none, none, some (.return_, 76, [], 0)]]
def ob_c_X0_begin : List (List (Option ob_Ent)) := [[some (.aload_n 0, 1, [], 0), some (.iload_n 1, 2, [], 0), some (.putfield 33, 5, [0, 0, 0, 0, 0], 0), none, none, some (.aload_n 0, 6, [], 0), some (.iload_n 2, 7, [], 0), some (.putfield 37, 10, [0, 1, 0, 0, 0], 1), none, none, some (.aload_n 0, 11, [], 0), some (.iload_n 3, 12, [], 0), some (.putfield 40, 15, [0, 2, 0, 0, 0], 2), none, none, some (.aload_n 0, 16, [], 0)],
  [some (.iconst 0, 17, [], 0), some (.putfield 43, 20, [0, 3, 0, 0, 0], 3), none, none, some (.aload_n 0, 21, [], 0), some (.iconst 1, 22, [], 0), some (.putfield 46, 25, [0, 4, 0, 0, 0], 4), none, none, some (.aload_n 0, 26, [], 0), some (.bipush 20, 28, [], 0), none, some (.putfield 49, 31, [0, 5, 0, 0, 0], 5), none, none, some (.aload_n 0, 32, [], 0)],
  [some (.getfield 9, 35, [0, 6, 17, 1], 6), none, none, some (.iconst 1, 36, [], 0), some (.invokestatic 52, 39, [9, 239, 2, 0, 10, 4, 0], 0), none, none, some (.iconst 0, 40, [], 0), some (.istore 4, 42, [], 0), none, some (.iload 4, 44, [], 0), none, some (.iconst 3, 45, [], 0), some (.if_icmp .ge 53, 48, [98], 0), none, none],
  [some (.aload_n 0, 49, [], 0), some (.getfield 17, 52, [0, 7, 18, 1], 7), none, none, some (.iload 4, 54, [], 0), none, some (.aaload, 55, [], 0), some (.iload_n 1, 56, [], 0), some (.putfield 58, 59, [3, 0, 0, 0, 0], 0), none, none, some (.aload_n 0, 60, [], 0), some (.getfield 17, 63, [0, 7, 18, 1], 7), none, none, some (.iload 4, 65, [], 0)],
  [none, some (.aaload, 66, [], 0), some (.iconst 0, 67, [], 0), some (.putfield 61, 70, [3, 1, 0, 0, 0], 1), none, none, some (.aload_n 0, 71, [], 0), some (.getfield 17, 74, [0, 7, 18, 1], 7), none, none, some (.iload 4, 76, [], 0), none, some (.aaload, 77, [], 0), some (.iconst 0, 78, [], 0), some (.putfield 64, 81, [3, 2, 0, 0, 0], 2), none],
  [none, some (.aload_n 0, 82, [], 0), some (.getfield 23, 85, [0, 8, 19, 1], 8), none, none, some (.iload 4, 87, [], 0), none, some (.aaload, 88, [], 0), some (.iconst 0, 89, [], 0), some (.putfield 67, 92, [5, 0, 0, 0, 1], 0), none, none, some (.iinc 4 1, 95, [], 0), none, none, some (.goto (-53), 98, [42], 0)],
  [none, none, some (.return_, 99, [], 0)]]
def ob_c_X0_copyFrom : List (List (Option ob_Ent)) := [[some (.aload_n 0, 1, [], 0), some (.aload_n 1, 2, [], 0), some (.getfield 33, 5, [0, 0, 0, 0], 0), none, none, some (.putfield 33, 8, [0, 0, 0, 0, 0], 0), none, none, some (.aload_n 0, 9, [], 0), some (.aload_n 1, 10, [], 0), some (.getfield 37, 13, [0, 1, 0, 0], 1), none, none, some (.putfield 37, 16, [0, 1, 0, 0, 0], 1), none, none],
  [some (.aload_n 0, 17, [], 0), some (.aload_n 1, 18, [], 0), some (.getfield 40, 21, [0, 2, 0, 0], 2), none, none, some (.putfield 40, 24, [0, 2, 0, 0, 0], 2), none, none, some (.aload_n 0, 25, [], 0), some (.aload_n 1, 26, [], 0), some (.getfield 43, 29, [0, 3, 0, 0], 3), none, none, some (.putfield 43, 32, [0, 3, 0, 0, 0], 3), none, none],
  [some (.aload_n 0, 33, [], 0), some (.aload_n 1, 34, [], 0), some (.getfield 46, 37, [0, 4, 0, 0], 4), none, none, some (.putfield 46, 40, [0, 4, 0, 0, 0], 4), none, none, some (.aload_n 0, 41, [], 0), some (.aload_n 1, 42, [], 0), some (.getfield 49, 45, [0, 5, 0, 0], 5), none, none, some (.putfield 49, 48, [0, 5, 0, 0, 0], 5), none, none],
  [some (.aload_n 1, 49, [], 0), some (.getfield 9, 52, [0, 6, 17, 1], 6), none, none, some (.iconst 0, 53, [], 0), some (.aload_n 0, 54, [], 0), some (.getfield 9, 57, [0, 6, 17, 1], 6), none, none, some (.iconst 0, 58, [], 0), some (.bipush 6, 60, [], 0), none, some (.invokestatic 71, 63, [1], 0), none, none, some (.iconst 0, 64, [], 0)],
  [some (.istore_n 2, 65, [], 0), some (.iload_n 2, 66, [], 0), some (.iconst 3, 67, [], 0), some (.if_icmp .ge 39, 70, [106], 0), none, none, some (.aload_n 0, 71, [], 0), some (.getfield 17, 74, [0, 7, 18, 1], 7), none, none, some (.iload_n 2, 75, [], 0), some (.aaload, 76, [], 0), some (.aload_n 1, 77, [], 0), some (.getfield 17, 80, [0, 7, 18, 1], 7), none, none],
  [some (.iload_n 2, 81, [], 0), some (.aaload, 82, [], 0), some (.invokevirtual 77, 85, [9, 38, 2, 0, 3, 2, 0], 0), none, none, some (.aload_n 0, 86, [], 0), some (.getfield 23, 89, [0, 8, 19, 1], 8), none, none, some (.iload_n 2, 90, [], 0), some (.aaload, 91, [], 0), some (.aload_n 1, 92, [], 0), some (.getfield 23, 95, [0, 8, 19, 1], 8), none, none, some (.iload_n 2, 96, [], 0)],
  [some (.aaload, 97, [], 0), some (.invokevirtual 81, 100, [9, 63, 2, 0, 5, 2, 0], 0), none, none, some (.iinc 2 1, 103, [], 0), none, none, some (.goto (-38), 106, [65], 0), none, none, some (.return_, 107, [], 0)]]
def ob_c_X0_hasTune : List (List (Option ob_Ent)) := [[some (.iload_n 1, 1, [], 0), some (.iconst 0, 2, [], 0), some (.aload_n 0, 3, [], 0), some (.getfield 40, 6, [0, 2, 0, 0], 2), none, none, some (.iconst 1, 7, [], 0), some (.isub, 8, [], 0), some (.invokestatic 84, 11, [9, 128, 3, 1, 7, 3, 1], 0), none, none, some (.ireturn, 12, [1], 0)]]
def ob_c_X0_hasKey : List (List (Option ob_Ent)) := [[some (.iload_n 1, 1, [], 0), some (.iconst 0, 2, [], 0), some (.aload_n 0, 3, [], 0), some (.getfield 37, 6, [0, 1, 0, 0], 1), none, none, some (.iconst 1, 7, [], 0), some (.isub, 8, [], 0), some (.invokestatic 84, 11, [9, 128, 3, 1, 7, 3, 1], 0), none, none, some (.ireturn, 12, [1], 0)]]
def ob_c_X0_hasNote : List (List (Option ob_Ent)) := [[some (.aload_n 0, 1, [], 0), some (.iload_n 1, 2, [], 0), some (.invokevirtual 88, 5, [9, 3, 2, 1, 0, 2, 0], 0), none, none, some (.ifCond .eq 26, 8, [31], 0), none, none, some (.iload_n 2, 9, [], 0), some (.iconst 0, 10, [], 0), some (.aload_n 0, 11, [], 0), some (.getfield 17, 14, [0, 7, 18, 1], 7), none, none, some (.iload_n 1, 15, [], 0), some (.aaload, 16, [], 0)],
  [some (.getfield 64, 19, [3, 2, 0, 0], 2), none, none, some (.iconst 1, 20, [], 0), some (.isub, 21, [], 0), some (.invokestatic 84, 24, [9, 128, 3, 1, 7, 3, 1], 0), none, none, some (.ifCond .eq 7, 27, [31], 0), none, none, some (.iconst 1, 28, [], 0), some (.goto 4, 31, [32], 0), none, none, some (.iconst 0, 32, [], 0)],
  [some (.ireturn, 33, [1], 0)]]
def ob_c_X0_tracks : List (List (Option ob_Ent)) := [[some (.aload_n 0, 1, [], 0), some (.getfield 40, 4, [0, 2, 0, 0], 2), none, none, some (.aload_n 0, 5, [], 0), some (.getfield 37, 8, [0, 1, 0, 0], 1), none, none, some (.imul, 9, [], 0), some (.ireturn, 10, [0], 0)]]
def ob_c_X0_track : List (List (Option ob_Ent)) := [[some (.aload_n 0, 1, [], 0), some (.getfield 40, 4, [0, 2, 0, 0], 2), none, none, some (.iload_n 1, 5, [], 0), some (.imul, 6, [], 0), some (.iload_n 2, 7, [], 0), some (.iadd, 8, [], 0), some (.ireturn, 9, [0], 0)]]
def ob_c_X0_build : List (List (Option ob_Ent)) := [[some (.iload_n 1, 1, [], 0), some (.bipush 6, 3, [], 0), none, some (.bipush 24, 5, [], 0), none, some (.invokestatic 84, 8, [9, 128, 3, 1, 7, 3, 1], 0), none, none, some (.ifCond .eq 22, 11, [30], 0), none, none, some (.iload_n 2, 12, [], 0), some (.iconst 1, 13, [], 0), some (.bipush 6, 15, [], 0), none, some (.invokestatic 84, 18, [9, 128, 3, 1, 7, 3, 1], 0)],
  [none, none, some (.ifCond .eq 12, 21, [30], 0), none, none, some (.iload_n 3, 22, [], 0), some (.iconst 2, 23, [], 0), some (.iconst 3, 24, [], 0), some (.invokestatic 84, 27, [9, 128, 3, 1, 7, 3, 1], 0), none, none, some (.ifCond .ne 6, 30, [33], 0), none, none, some (.bipush (-2), 32, [], 0), none],
  [some (.ireturn, 33, [0], 0), some (.aload_n 0, 34, [], 0), some (.getfield 33, 37, [0, 0, 0, 0], 0), none, none, some (.istore 4, 39, [], 0), none, some (.aload_n 0, 40, [], 0), some (.iload_n 1, 41, [], 0), some (.iload_n 2, 42, [], 0), some (.iload_n 3, 43, [], 0), some (.invokevirtual 29, 46, [9, 1, 4, 0, 0, 5, 0], 0), none, none, some (.iload 4, 48, [], 0), none],
  [some (.ireturn, 49, [0], 0)]]
def ob_c_X0_adjust : List (List (Option ob_Ent)) := [[some (.iload_n 1, 1, [], 0), some (.ifCond .ne 24, 4, [25], 0), none, none, some (.iload_n 2, 5, [], 0), some (.iconst 0, 6, [], 0), some (.iconst 2, 7, [], 0), some (.invokestatic 84, 10, [9, 128, 3, 1, 7, 3, 1], 0), none, none, some (.ifCond .eq 15, 13, [25], 0), none, none, some (.aload_n 0, 14, [], 0), some (.getfield 43, 17, [0, 3, 0, 0], 3), none],
  [none, some (.istore_n 3, 18, [], 0), some (.aload_n 0, 19, [], 0), some (.iload_n 2, 20, [], 0), some (.putfield 43, 23, [0, 3, 0, 0, 0], 3), none, none, some (.iload_n 3, 24, [], 0), some (.ireturn, 25, [0], 0), some (.iload_n 1, 26, [], 0), some (.iconst 1, 27, [], 0), some (.if_icmp .ne 24, 30, [51], 0), none, none, some (.iload_n 2, 31, [], 0), some (.iconst 0, 32, [], 0)],
  [some (.iconst 3, 33, [], 0), some (.invokestatic 84, 36, [9, 128, 3, 1, 7, 3, 1], 0), none, none, some (.ifCond .eq 15, 39, [51], 0), none, none, some (.aload_n 0, 40, [], 0), some (.getfield 46, 43, [0, 4, 0, 0], 4), none, none, some (.istore_n 3, 44, [], 0), some (.aload_n 0, 45, [], 0), some (.iload_n 2, 46, [], 0), some (.putfield 46, 49, [0, 4, 0, 0, 0], 4), none],
  [none, some (.iload_n 3, 50, [], 0), some (.ireturn, 51, [0], 0), some (.iload_n 1, 52, [], 0), some (.iconst 2, 53, [], 0), some (.if_icmp .ne 25, 56, [78], 0), none, none, some (.iload_n 2, 57, [], 0), some (.iconst 1, 58, [], 0), some (.bipush 99, 60, [], 0), none, some (.invokestatic 84, 63, [9, 128, 3, 1, 7, 3, 1], 0), none, none, some (.ifCond .eq 15, 66, [78], 0)],
  [none, none, some (.aload_n 0, 67, [], 0), some (.getfield 49, 70, [0, 5, 0, 0], 5), none, none, some (.istore_n 3, 71, [], 0), some (.aload_n 0, 72, [], 0), some (.iload_n 2, 73, [], 0), some (.putfield 49, 76, [0, 5, 0, 0, 0], 5), none, none, some (.iload_n 3, 77, [], 0), some (.ireturn, 78, [0], 0), some (.bipush (-2), 80, [], 0), none],
  [some (.ireturn, 81, [0], 0)]]
def ob_c_X0_setGap : List (List (Option ob_Ent)) := [[some (.aload_n 0, 1, [], 0), some (.iload_n 1, 2, [], 0), some (.invokevirtual 92, 5, [9, 4, 2, 1, 0, 2, 0], 0), none, none, some (.ifCond .eq 13, 8, [18], 0), none, none, some (.iload_n 2, 9, [], 0), some (.iconst 0, 10, [], 0), some (.bipush 6, 12, [], 0), none, some (.invokestatic 84, 15, [9, 128, 3, 1, 7, 3, 1], 0), none, none, some (.ifCond .ne 6, 18, [21], 0)],
  [none, none, some (.bipush (-2), 20, [], 0), none, some (.ireturn, 21, [0], 0), some (.aload_n 0, 22, [], 0), some (.getfield 9, 25, [0, 6, 17, 1], 6), none, none, some (.iload_n 1, 26, [], 0), some (.iaload, 27, [], 0), some (.istore_n 3, 28, [], 0), some (.aload_n 0, 29, [], 0), some (.getfield 9, 32, [0, 6, 17, 1], 6), none, none],
  [some (.iload_n 1, 33, [], 0), some (.iload_n 2, 34, [], 0), some (.iastore, 35, [], 0), some (.iload_n 3, 36, [], 0), some (.ireturn, 37, [0], 0)]]
def ob_c_X0_setTicks : List (List (Option ob_Ent)) := [[some (.aload_n 0, 1, [], 0), some (.iload_n 1, 2, [], 0), some (.invokevirtual 88, 5, [9, 3, 2, 1, 0, 2, 0], 0), none, none, some (.ifCond .eq 15, 8, [20], 0), none, none, some (.iload_n 2, 9, [], 0), some (.iconst 1, 10, [], 0), some (.aload_n 0, 11, [], 0), some (.getfield 33, 14, [0, 0, 0, 0], 0), none, none, some (.invokestatic 84, 17, [9, 128, 3, 1, 7, 3, 1], 0), none],
  [none, some (.ifCond .ne 6, 20, [23], 0), none, none, some (.bipush (-2), 22, [], 0), none, some (.ireturn, 23, [0], 0), some (.aload_n 0, 24, [], 0), some (.getfield 17, 27, [0, 7, 18, 1], 7), none, none, some (.iload_n 1, 28, [], 0), some (.aaload, 29, [], 0), some (.getfield 64, 32, [3, 2, 0, 0], 2), none, none],
  [some (.istore_n 3, 33, [], 0), some (.aload_n 0, 34, [], 0), some (.getfield 17, 37, [0, 7, 18, 1], 7), none, none, some (.iload_n 1, 38, [], 0), some (.aaload, 39, [], 0), some (.iload_n 2, 40, [], 0), some (.putfield 58, 43, [3, 0, 0, 0, 0], 0), none, none, some (.aload_n 0, 44, [], 0), some (.getfield 17, 47, [0, 7, 18, 1], 7), none, none, some (.iload_n 1, 48, [], 0)],
  [some (.aaload, 49, [], 0), some (.iconst 0, 50, [], 0), some (.putfield 64, 53, [3, 2, 0, 0, 0], 2), none, none, some (.iload_n 3, 54, [], 0), some (.ireturn, 55, [0], 0)]]
def ob_c_X0_addNote : List (List (Option ob_Ent)) := [[some (.aload_n 0, 1, [], 0), some (.iload_n 1, 2, [], 0), some (.invokevirtual 88, 5, [9, 3, 2, 1, 0, 2, 0], 0), none, none, some (.ifCond .eq 50, 8, [55], 0), none, none, some (.aload_n 0, 9, [], 0), some (.iload_n 2, 10, [], 0), some (.invokevirtual 92, 13, [9, 4, 2, 1, 0, 2, 0], 0), none, none, some (.ifCond .eq 42, 16, [55], 0), none, none],
  [some (.iload_n 3, 17, [], 0), some (.iconst 0, 18, [], 0), some (.aload_n 0, 19, [], 0), some (.getfield 17, 22, [0, 7, 18, 1], 7), none, none, some (.iload_n 1, 23, [], 0), some (.aaload, 24, [], 0), some (.getfield 58, 27, [3, 0, 0, 0], 0), none, none, some (.iconst 1, 28, [], 0), some (.isub, 29, [], 0), some (.invokestatic 84, 32, [9, 128, 3, 1, 7, 3, 1], 0), none, none],
  [some (.ifCond .eq 23, 35, [55], 0), none, none, some (.iload 4, 37, [], 0), none, some (.iconst 1, 38, [], 0), some (.aload_n 0, 39, [], 0), some (.getfield 17, 42, [0, 7, 18, 1], 7), none, none, some (.iload_n 1, 43, [], 0), some (.aaload, 44, [], 0), some (.getfield 58, 47, [3, 0, 0, 0], 0), none, none, some (.iload_n 3, 48, [], 0)],
  [some (.isub, 49, [], 0), some (.invokestatic 84, 52, [9, 128, 3, 1, 7, 3, 1], 0), none, none, some (.ifCond .ne 6, 55, [58], 0), none, none, some (.bipush (-2), 57, [], 0), none, some (.ireturn, 58, [0], 0), some (.aload_n 0, 59, [], 0), some (.getfield 17, 62, [0, 7, 18, 1], 7), none, none, some (.iload_n 1, 63, [], 0), some (.aaload, 64, [], 0)],
  [some (.iload_n 2, 65, [], 0), some (.iload_n 3, 66, [], 0), some (.iload 4, 68, [], 0), none, some (.invokevirtual 95, 71, [9, 39, 4, 1, 3, 5, 0], 0), none, none, some (.ifCond .eq 6, 74, [77], 0), none, none, some (.bipush (-3), 76, [], 0), none, some (.ireturn, 77, [0], 0), some (.aload_n 0, 78, [], 0), some (.getfield 17, 81, [0, 7, 18, 1], 7), none],
  [none, some (.iload_n 1, 82, [], 0), some (.aaload, 83, [], 0), some (.iload_n 2, 84, [], 0), some (.iload_n 3, 85, [], 0), some (.iload 4, 87, [], 0), none, some (.invokevirtual 98, 90, [9, 40, 4, 1, 3, 4, 0], 0), none, none, some (.ireturn, 91, [0], 0)]]
def ob_c_X0_removeNote : List (List (Option ob_Ent)) := [[some (.aload_n 0, 1, [], 0), some (.iload_n 1, 2, [], 0), some (.iload_n 2, 3, [], 0), some (.invokevirtual 102, 6, [9, 5, 3, 1, 0, 3, 0], 0), none, none, some (.ifCond .eq 16, 9, [22], 0), none, none, some (.aload_n 0, 10, [], 0), some (.getfield 17, 13, [0, 7, 18, 1], 7), none, none, some (.iload_n 1, 14, [], 0), some (.aaload, 15, [], 0), some (.iload_n 2, 16, [], 0)],
  [some (.invokevirtual 106, 19, [9, 41, 2, 1, 3, 3, 0], 0), none, none, some (.goto 5, 22, [24], 0), none, none, some (.bipush (-2), 24, [], 0), none, some (.ireturn, 25, [0], 0)]]
def ob_c_X0_setShift : List (List (Option ob_Ent)) := [[some (.aload_n 0, 1, [], 0), some (.iload_n 1, 2, [], 0), some (.invokevirtual 88, 5, [9, 3, 2, 1, 0, 2, 0], 0), none, none, some (.ifCond .eq 17, 8, [22], 0), none, none, some (.iload_n 2, 9, [], 0), some (.iconst 0, 10, [], 0), some (.aload_n 0, 11, [], 0), some (.getfield 33, 14, [0, 0, 0, 0], 0), none, none, some (.iconst 1, 15, [], 0), some (.isub, 16, [], 0)],
  [some (.invokestatic 84, 19, [9, 128, 3, 1, 7, 3, 1], 0), none, none, some (.ifCond .ne 6, 22, [25], 0), none, none, some (.bipush (-2), 24, [], 0), none, some (.ireturn, 25, [0], 0), some (.aload_n 0, 26, [], 0), some (.getfield 17, 29, [0, 7, 18, 1], 7), none, none, some (.iload_n 1, 30, [], 0), some (.aaload, 31, [], 0), some (.getfield 61, 34, [3, 1, 0, 0], 1)],
  [none, none, some (.istore_n 3, 35, [], 0), some (.aload_n 0, 36, [], 0), some (.getfield 17, 39, [0, 7, 18, 1], 7), none, none, some (.iload_n 1, 40, [], 0), some (.aaload, 41, [], 0), some (.iload_n 2, 42, [], 0), some (.putfield 61, 45, [3, 1, 0, 0, 0], 1), none, none, some (.iload_n 3, 46, [], 0), some (.ireturn, 47, [0], 0)]]
def ob_c_X0_takeOff : List (List (Option ob_Ent)) := [[some (.aload_n 0, 1, [], 0), some (.iload_n 1, 2, [], 0), some (.invokevirtual 88, 5, [9, 3, 2, 1, 0, 2, 0], 0), none, none, some (.ifCond .ne 6, 8, [11], 0), none, none, some (.bipush (-2), 10, [], 0), none, some (.ireturn, 11, [0], 0), some (.aload_n 0, 12, [], 0), some (.getfield 23, 15, [0, 8, 19, 1], 8), none, none, some (.iload_n 1, 16, [], 0)],
  [some (.aaload, 17, [], 0), some (.getfield 67, 20, [5, 0, 0, 0], 0), none, none, some (.ifCond .ne 6, 23, [26], 0), none, none, some (.bipush (-3), 25, [], 0), none, some (.ireturn, 26, [0], 0), some (.aload_n 0, 27, [], 0), some (.getfield 23, 30, [0, 8, 19, 1], 8), none, none, some (.iload_n 1, 31, [], 0), some (.aaload, 32, [], 0)],
  [some (.iconst 0, 33, [], 0), some (.putfield 67, 36, [5, 0, 0, 0, 1], 0), none, none, some (.aload_n 0, 37, [], 0), some (.getfield 23, 40, [0, 8, 19, 1], 8), none, none, some (.iload_n 1, 41, [], 0), some (.aaload, 42, [], 0), some (.getfield 110, 45, [5, 2, 4, 2], 2), none, none, some (.getfield 64, 48, [3, 2, 0, 0], 2), none, none],
  [some (.ireturn, 49, [0], 0)]]
def ob_c_X0_tuneValue : List (List (Option ob_Ent)) := [[some (.aload_n 0, 1, [], 0), some (.getfield 23, 4, [0, 8, 19, 1], 8), none, none, some (.iload_n 1, 5, [], 0), some (.aaload, 6, [], 0), some (.astore_n 3, 7, [], 0), some (.iload_n 2, 8, [], 0), some (.iconst 3, 9, [], 0), some (.if_icmp .le 12, 12, [21], 0), none, none, some (.aload_n 3, 13, [], 0), some (.getfield 67, 16, [5, 0, 0, 0], 0), none, none],
  [some (.ifCond .ne 5, 19, [21], 0), none, none, some (.iconst (-1), 20, [], 0), some (.ireturn, 21, [0], 0), some (.iload_n 2, 22, [], 0), some (.tableswitch 109 0 6 #[42, 52, 62, 72, 85, 93, 101], 64, [131, 64, 74, 84, 94, 107, 115, 123], 0), none, none, none, none, none, none, none, none, none],
  [none, none, none, none, none, none, none, none, none, none, none, none, none, none, none, none],
  [none, none, none, none, none, none, none, none, none, none, none, none, none, none, none, none],
  [some (.aload_n 0, 65, [], 0), some (.getfield 17, 68, [0, 7, 18, 1], 7), none, none, some (.iload_n 1, 69, [], 0), some (.aaload, 70, [], 0), some (.getfield 58, 73, [3, 0, 0, 0], 0), none, none, some (.ireturn, 74, [0], 0), some (.aload_n 0, 75, [], 0), some (.getfield 17, 78, [0, 7, 18, 1], 7), none, none, some (.iload_n 1, 79, [], 0), some (.aaload, 80, [], 0)],
  [some (.getfield 64, 83, [3, 2, 0, 0], 2), none, none, some (.ireturn, 84, [0], 0), some (.aload_n 0, 85, [], 0), some (.getfield 17, 88, [0, 7, 18, 1], 7), none, none, some (.iload_n 1, 89, [], 0), some (.aaload, 90, [], 0), some (.getfield 61, 93, [3, 1, 0, 0], 1), none, none, some (.ireturn, 94, [0], 0), some (.aload_n 3, 95, [], 0), some (.getfield 67, 98, [5, 0, 0, 0], 0)],
  [none, none, some (.ifCond .eq 7, 101, [105], 0), none, none, some (.iconst 1, 102, [], 0), some (.goto 4, 105, [106], 0), none, none, some (.iconst 0, 106, [], 0), some (.ireturn, 107, [0], 0), some (.aload_n 3, 108, [], 0), some (.getfield 110, 111, [5, 2, 4, 2], 2), none, none, some (.getfield 58, 114, [3, 0, 0, 0], 0)],
  [none, none, some (.ireturn, 115, [0], 0), some (.aload_n 3, 116, [], 0), some (.getfield 110, 119, [5, 2, 4, 2], 2), none, none, some (.getfield 61, 122, [3, 1, 0, 0], 1), none, none, some (.ireturn, 123, [0], 0), some (.aload_n 3, 124, [], 0), some (.getfield 110, 127, [5, 2, 4, 2], 2), none, none, some (.getfield 64, 130, [3, 2, 0, 0], 2)],
  [none, none, some (.ireturn, 131, [0], 0), some (.aload_n 3, 132, [], 0), some (.getfield 113, 135, [5, 1, 0, 0], 1), none, none, some (.ireturn, 136, [0], 0)]]
def ob_c_X0_noteValue : List (List (Option ob_Ent)) := [[some (.aload_n 0, 1, [], 0), some (.getfield 17, 4, [0, 7, 18, 1], 7), none, none, some (.iload_n 1, 5, [], 0), some (.aaload, 6, [], 0), some (.astore 4, 8, [], 0), none, some (.aload 4, 10, [], 0), none, some (.getfield 114, 13, [3, 4, 28, 1], 4), none, none, some (.iload_n 2, 14, [], 0), some (.iaload, 15, [], 0), some (.aload 4, 17, [], 0)],
  [none, some (.getfield 58, 20, [3, 0, 0, 0], 0), none, none, some (.aload_n 0, 21, [], 0), some (.getfield 43, 24, [0, 3, 0, 0], 3), none, none, some (.aload_n 0, 25, [], 0), some (.getfield 33, 28, [0, 0, 0, 0], 0), none, none, some (.invokestatic 117, 31, [9, 129, 4, 1, 7, 4, 1], 0), none, none, some (.istore 5, 33, [], 0)],
  [none, some (.iload_n 3, 34, [], 0), some (.tableswitch 70 0 3 #[30, 38, 46, 54], 64, [104, 64, 72, 80, 88], 0), none, none, none, none, none, none, none, none, none, none, none, none, none],
  [none, none, none, none, none, none, none, none, none, none, none, none, none, none, none, none],
  [some (.aload 4, 66, [], 0), none, some (.getfield 121, 69, [3, 3, 27, 1], 3), none, none, some (.iload_n 2, 70, [], 0), some (.iaload, 71, [], 0), some (.ireturn, 72, [0], 0), some (.aload 4, 74, [], 0), none, some (.getfield 114, 77, [3, 4, 28, 1], 4), none, none, some (.iload_n 2, 78, [], 0), some (.iaload, 79, [], 0), some (.ireturn, 80, [0], 0)],
  [some (.aload 4, 82, [], 0), none, some (.getfield 124, 85, [3, 5, 29, 1], 5), none, none, some (.iload_n 2, 86, [], 0), some (.iaload, 87, [], 0), some (.ireturn, 88, [0], 0), some (.iload 5, 90, [], 0), none, some (.aload 4, 92, [], 0), none, some (.getfield 61, 95, [3, 1, 0, 0], 1), none, none, some (.iadd, 96, [], 0)],
  [some (.aload_n 0, 97, [], 0), some (.getfield 33, 100, [0, 0, 0, 0], 0), none, none, some (.invokestatic 127, 103, [9, 130, 2, 1, 7, 2, 1], 0), none, none, some (.ireturn, 104, [0], 0), some (.aload 4, 106, [], 0), none, some (.getfield 114, 109, [3, 4, 28, 1], 4), none, none, some (.iload_n 2, 110, [], 0), some (.iaload, 111, [], 0), some (.aload 4, 113, [], 0)],
  [none, some (.getfield 124, 116, [3, 5, 29, 1], 5), none, none, some (.iload_n 2, 117, [], 0), some (.iaload, 118, [], 0), some (.iadd, 119, [], 0), some (.aload 4, 121, [], 0), none, some (.getfield 58, 124, [3, 0, 0, 0], 0), none, none, some (.aload_n 0, 125, [], 0), some (.getfield 43, 128, [0, 3, 0, 0], 3), none, none],
  [some (.aload_n 0, 129, [], 0), some (.getfield 33, 132, [0, 0, 0, 0], 0), none, none, some (.invokestatic 117, 135, [9, 129, 4, 1, 7, 4, 1], 0), none, none, some (.iload 5, 137, [], 0), none, some (.isub, 138, [], 0), some (.ireturn, 139, [0], 0)]]
def ob_c_X0_pinnedTunes : List (List (Option ob_Ent)) := [[some (.iconst 0, 1, [], 0), some (.istore_n 1, 2, [], 0), some (.iconst 0, 3, [], 0), some (.istore_n 2, 4, [], 0), some (.iload_n 2, 5, [], 0), some (.aload_n 0, 6, [], 0), some (.getfield 40, 9, [0, 2, 0, 0], 2), none, none, some (.if_icmp .ge 27, 12, [36], 0), none, none, some (.aload_n 0, 13, [], 0), some (.getfield 23, 16, [0, 8, 19, 1], 8), none, none],
  [some (.iload_n 2, 17, [], 0), some (.aaload, 18, [], 0), some (.getfield 67, 21, [5, 0, 0, 0], 0), none, none, some (.ifCond .eq 9, 24, [30], 0), none, none, some (.iload_n 1, 25, [], 0), some (.iconst 1, 26, [], 0), some (.iload_n 2, 27, [], 0), some (.ishl, 28, [], 0), some (.ior, 29, [], 0), some (.istore_n 1, 30, [], 0), some (.iinc 2 1, 33, [], 0), none],
  [none, some (.goto (-29), 36, [4], 0), none, none, some (.iload_n 1, 37, [], 0), some (.ireturn, 38, [0], 0)]]
def ob_c_X0_pinCount : List (List (Option ob_Ent)) := [[some (.iconst 0, 1, [], 0), some (.istore_n 1, 2, [], 0), some (.iconst 0, 3, [], 0), some (.istore_n 2, 4, [], 0), some (.iload_n 2, 5, [], 0), some (.aload_n 0, 6, [], 0), some (.getfield 40, 9, [0, 2, 0, 0], 2), none, none, some (.if_icmp .ge 21, 12, [30], 0), none, none, some (.iload_n 1, 13, [], 0), some (.aload_n 0, 14, [], 0), some (.getfield 23, 17, [0, 8, 19, 1], 8), none],
  [none, some (.iload_n 2, 18, [], 0), some (.aaload, 19, [], 0), some (.invokevirtual 131, 22, [9, 65, 1, 1, 5, 1, 0], 0), none, none, some (.iadd, 23, [], 0), some (.istore_n 1, 24, [], 0), some (.iinc 2 1, 27, [], 0), none, none, some (.goto (-23), 30, [4], 0), none, none, some (.iload_n 1, 31, [], 0), some (.ireturn, 32, [0], 0)]]
def ob_c_X0_emptyTracks : List (List (Option ob_Ent)) := [[some (.iconst 0, 1, [], 0), some (.istore_n 1, 2, [], 0), some (.iconst 0, 3, [], 0), some (.istore_n 2, 4, [], 0), some (.iload_n 2, 5, [], 0), some (.aload_n 0, 6, [], 0), some (.invokevirtual 135, 9, [9, 6, 1, 1, 0, 1, 0], 0), none, none, some (.if_icmp .ge 20, 12, [29], 0), none, none, some (.aload_n 0, 13, [], 0), some (.iload_n 2, 14, [], 0), some (.invokevirtual 138, 17, [9, 21, 2, 1, 0, 5, 0], 0), none],
  [none, some (.ifCond .ne 6, 20, [23], 0), none, none, some (.iinc 1 1, 23, [], 0), none, none, some (.iinc 2 1, 26, [], 0), none, none, some (.goto (-22), 29, [4], 0), none, none, some (.iload_n 1, 30, [], 0), some (.ireturn, 31, [0], 0)]]
def ob_c_X0_heldOn : List (List (Option ob_Ent)) := [[some (.iconst 0, 1, [], 0), some (.istore_n 2, 2, [], 0), some (.iconst 0, 3, [], 0), some (.istore_n 3, 4, [], 0), some (.iload_n 3, 5, [], 0), some (.aload_n 0, 6, [], 0), some (.getfield 40, 9, [0, 2, 0, 0], 2), none, none, some (.if_icmp .ge 74, 12, [83], 0), none, none, some (.iconst 0, 13, [], 0), some (.istore 4, 15, [], 0), none, some (.iload 4, 17, [], 0)],
  [none, some (.aload_n 0, 18, [], 0), some (.getfield 23, 21, [0, 8, 19, 1], 8), none, none, some (.iload_n 3, 22, [], 0), some (.aaload, 23, [], 0), some (.invokevirtual 131, 26, [9, 65, 1, 1, 5, 1, 0], 0), none, none, some (.if_icmp .ge 51, 29, [77], 0), none, none, some (.aload_n 0, 30, [], 0), some (.aload_n 0, 31, [], 0), some (.getfield 23, 34, [0, 8, 19, 1], 8)],
  [none, none, some (.iload_n 3, 35, [], 0), some (.aaload, 36, [], 0), some (.getfield 110, 39, [5, 2, 4, 2], 2), none, none, some (.getfield 121, 42, [3, 3, 27, 1], 3), none, none, some (.iload 4, 44, [], 0), none, some (.iaload, 45, [], 0), some (.iload_n 3, 46, [], 0), some (.invokevirtual 141, 49, [9, 7, 3, 1, 0, 3, 0], 0), none],
  [none, some (.iload_n 1, 50, [], 0), some (.if_icmp .ne 21, 53, [71], 0), none, none, some (.iload_n 2, 54, [], 0), some (.aload_n 0, 55, [], 0), some (.getfield 23, 58, [0, 8, 19, 1], 8), none, none, some (.iload_n 3, 59, [], 0), some (.aaload, 60, [], 0), some (.iload 4, 62, [], 0), none, some (.aload_n 0, 63, [], 0), some (.getfield 33, 66, [0, 0, 0, 0], 0)],
  [none, none, some (.invokevirtual 144, 69, [9, 68, 3, 1, 5, 5, 0], 0), none, none, some (.ior, 70, [], 0), some (.istore_n 2, 71, [], 0), some (.iinc 4 1, 74, [], 0), none, none, some (.goto (-59), 77, [15], 0), none, none, some (.iinc 3 1, 80, [], 0), none, none],
  [some (.goto (-76), 83, [4], 0), none, none, some (.iload_n 2, 84, [], 0), some (.ireturn, 85, [0], 0)]]
def ob_c_X0_heldOnAny : List (List (Option ob_Ent)) := [[some (.iconst 0, 1, [], 0), some (.istore_n 1, 2, [], 0), some (.iconst 0, 3, [], 0), some (.istore_n 2, 4, [], 0), some (.iload_n 2, 5, [], 0), some (.aload_n 0, 6, [], 0), some (.getfield 40, 9, [0, 2, 0, 0], 2), none, none, some (.if_icmp .ge 47, 12, [56], 0), none, none, some (.iconst 0, 13, [], 0), some (.istore_n 3, 14, [], 0), some (.iload_n 3, 15, [], 0), some (.aload_n 0, 16, [], 0)],
  [some (.getfield 23, 19, [0, 8, 19, 1], 8), none, none, some (.iload_n 2, 20, [], 0), some (.aaload, 21, [], 0), some (.invokevirtual 131, 24, [9, 65, 1, 1, 5, 1, 0], 0), none, none, some (.if_icmp .ge 26, 27, [50], 0), none, none, some (.iload_n 1, 28, [], 0), some (.aload_n 0, 29, [], 0), some (.getfield 23, 32, [0, 8, 19, 1], 8), none, none],
  [some (.iload_n 2, 33, [], 0), some (.aaload, 34, [], 0), some (.iload_n 3, 35, [], 0), some (.aload_n 0, 36, [], 0), some (.getfield 33, 39, [0, 0, 0, 0], 0), none, none, some (.invokevirtual 144, 42, [9, 68, 3, 1, 5, 5, 0], 0), none, none, some (.ior, 43, [], 0), some (.istore_n 1, 44, [], 0), some (.iinc 3 1, 47, [], 0), none, none, some (.goto (-33), 50, [14], 0)],
  [none, none, some (.iinc 2 1, 53, [], 0), none, none, some (.goto (-49), 56, [4], 0), none, none, some (.iload_n 1, 57, [], 0), some (.ireturn, 58, [0], 0)]]
def ob_c_X0_canBeBeside : List (List (Option ob_Ent)) := [[some (.iload_n 1, 1, [], 0), some (.ifCond .ne 14, 4, [15], 0), none, none, some (.iload_n 2, 5, [], 0), some (.iload_n 3, 6, [], 0), some (.if_icmp .ne 7, 9, [13], 0), none, none, some (.iconst 1, 10, [], 0), some (.goto 4, 13, [14], 0), none, none, some (.iconst 0, 14, [], 0), some (.ireturn, 15, [1], 0), some (.iload_n 1, 16, [], 0)],
  [some (.iload_n 2, 17, [], 0), some (.aload_n 0, 18, [], 0), some (.getfield 46, 21, [0, 4, 0, 0], 4), none, none, some (.iadd, 22, [], 0), some (.if_icmp .lt 22, 25, [44], 0), none, none, some (.aload_n 0, 26, [], 0), some (.getfield 33, 29, [0, 0, 0, 0], 0), none, none, some (.iload_n 1, 30, [], 0), some (.isub, 31, [], 0), some (.iload_n 3, 32, [], 0)],
  [some (.aload_n 0, 33, [], 0), some (.getfield 46, 36, [0, 4, 0, 0], 4), none, none, some (.iadd, 37, [], 0), some (.if_icmp .lt 7, 40, [44], 0), none, none, some (.iconst 1, 41, [], 0), some (.goto 4, 44, [45], 0), none, none, some (.iconst 0, 45, [], 0), some (.ireturn, 46, [1], 0)]]
def ob_c_X1_init : List (List (Option ob_Ent)) := [[some (.aload_n 0, 1, [], 0), some (.invokespecial 3, 4, [0], 0), none, none, some (.aload_n 0, 5, [], 0), some (.bipush 36, 7, [], 0), none, some (.newarray .int, 9, [19], 0), none, some (.putfield 9, 12, [1, 1, 20, 3, 0], 1), none, none, some (.aload_n 0, 13, [], 0), some (.bipush 36, 15, [], 0), none, some (.newarray .int, 17, [20], 0)],
  [none, some (.putfield 15, 20, [1, 2, 21, 3, 0], 2), none, none, some (.aload_n 0, 21, [], 0), some (.bipush 36, 23, [], 0), none, some (.newarray .int, 25, [21], 0), none, some (.putfield 18, 28, [1, 3, 22, 3, 0], 3), none, none, some (.aload_n 0, 29, [], 0), some (.bipush 36, 31, [], 0), none, some (.newarray .int, 33, [22], 0)],
  [none, some (.putfield 21, 36, [1, 4, 23, 3, 0], 4), none, none, some (.aload_n 0, 37, [], 0), some (.bipush 36, 39, [], 0), none, some (.newarray .int, 41, [23], 0), none, some (.putfield 24, 44, [1, 5, 24, 3, 0], 5), none, none, some (.aload_n 0, 45, [], 0), some (.bipush 36, 47, [], 0), none, some (.newarray .int, 49, [24], 0)],
  [none, some (.putfield 27, 52, [1, 6, 25, 3, 0], 6), none, none, some (.aload_n 0, 53, [], 0), some (.sipush 432, 56, [], 0), none, none, some (.newarray .int, 58, [25], 0), none, some (.putfield 30, 61, [1, 7, 26, 3, 0], 7), none, none, some (.return_, 62, [], 0)]]
def ob_c_X1_find : List (List (Option ob_Ent)) := [[some (.aload_n 0, 1, [], 0), some (.iconst 0, 2, [], 0), some (.putfield 33, 5, [1, 0, 0, 0, 0], 0), none, none, some (.aload_n 0, 6, [], 0), some (.aload_n 1, 7, [], 0), some (.invokevirtual 37, 10, [9, 26, 2, 0, 1, 6, 0], 0), none, none, some (.iconst 0, 11, [], 0), some (.istore_n 2, 12, [], 0), some (.iload_n 2, 13, [], 0), some (.aload_n 1, 14, [], 0), some (.getfield 41, 17, [0, 0, 0, 0], 0), none],
  [none, some (.if_icmp .ge 62, 20, [79], 0), none, none, some (.iconst (-1), 21, [], 0), some (.istore_n 3, 22, [], 0), some (.iconst 0, 23, [], 0), some (.istore 4, 25, [], 0), none, some (.iload 4, 27, [], 0), none, some (.aload_n 1, 28, [], 0), some (.invokevirtual 46, 31, [9, 6, 1, 1, 0, 1, 0], 0), none, none, some (.if_icmp .ge 42, 34, [73], 0)],
  [none, none, some (.aload_n 0, 35, [], 0), some (.getfield 30, 38, [1, 7, 26, 3], 7), none, none, some (.iload 4, 40, [], 0), none, some (.bipush 24, 42, [], 0), none, some (.imul, 43, [], 0), some (.iload_n 2, 44, [], 0), some (.iadd, 45, [], 0), some (.iaload, 46, [], 0), some (.istore 5, 48, [], 0), none],
  [some (.iload 5, 50, [], 0), none, some (.iconst (-1), 51, [], 0), some (.if_icmp .eq 13, 54, [64], 0), none, none, some (.aload_n 0, 55, [], 0), some (.aload_n 1, 56, [], 0), some (.iload 5, 58, [], 0), none, some (.iload_n 3, 59, [], 0), some (.iload 4, 61, [], 0), none, some (.invokevirtual 50, 64, [9, 27, 5, 0, 1, 7, 0], 0), none, none],
  [some (.iload 5, 66, [], 0), none, some (.istore_n 3, 67, [], 0), some (.iinc 4 1, 70, [], 0), none, none, some (.goto (-45), 73, [25], 0), none, none, some (.iinc 2 1, 76, [], 0), none, none, some (.goto (-64), 79, [12], 0), none, none, some (.return_, 80, [], 0)]]
def ob_c_X1_placePins : List (List (Option ob_Ent)) := [[some (.aload_n 0, 1, [], 0), some (.getfield 30, 4, [1, 7, 26, 3], 7), none, none, some (.iconst (-1), 5, [], 0), some (.invokestatic 54, 8, [9, 239, 2, 0, 10, 4, 0], 0), none, none, some (.iconst 0, 9, [], 0), some (.istore_n 2, 10, [], 0), some (.iload_n 2, 11, [], 0), some (.aload_n 1, 12, [], 0), some (.getfield 60, 15, [0, 2, 0, 0], 2), none, none, some (.if_icmp .ge 76, 18, [91], 0)],
  [none, none, some (.aload_n 1, 19, [], 0), some (.getfield 63, 22, [0, 8, 19, 1], 8), none, none, some (.iload_n 2, 23, [], 0), some (.aaload, 24, [], 0), some (.astore_n 3, 25, [], 0), some (.iconst 0, 26, [], 0), some (.istore 4, 28, [], 0), none, some (.iload 4, 30, [], 0), none, some (.aload_n 3, 31, [], 0), some (.invokevirtual 67, 34, [9, 65, 1, 1, 5, 1, 0], 0)],
  [none, none, some (.if_icmp .ge 51, 37, [85], 0), none, none, some (.aload_n 1, 38, [], 0), some (.aload_n 3, 39, [], 0), some (.getfield 72, 42, [5, 2, 4, 2], 2), none, none, some (.getfield 76, 45, [3, 3, 27, 1], 3), none, none, some (.iload 4, 47, [], 0), none, some (.iaload, 48, [], 0)],
  [some (.iload_n 2, 49, [], 0), some (.invokevirtual 81, 52, [9, 7, 3, 1, 0, 3, 0], 0), none, none, some (.istore 5, 54, [], 0), none, some (.aload_n 0, 55, [], 0), some (.getfield 30, 58, [1, 7, 26, 3], 7), none, none, some (.iload 5, 60, [], 0), none, some (.bipush 24, 62, [], 0), none, some (.imul, 63, [], 0), some (.aload_n 3, 64, [], 0)],
  [some (.getfield 85, 67, [5, 3, 33, 1], 3), none, none, some (.iload 4, 69, [], 0), none, some (.iaload, 70, [], 0), some (.iadd, 71, [], 0), some (.iload_n 2, 72, [], 0), some (.bipush 12, 74, [], 0), none, some (.imul, 75, [], 0), some (.iload 4, 77, [], 0), none, some (.iadd, 78, [], 0), some (.iastore, 79, [], 0), some (.iinc 4 1, 82, [], 0)],
  [none, none, some (.goto (-54), 85, [28], 0), none, none, some (.iinc 2 1, 88, [], 0), none, none, some (.goto (-78), 91, [10], 0), none, none, some (.return_, 92, [], 0)]]
def ob_c_X1_join : List (List (Option ob_Ent)) := [[some (.aload_n 1, 1, [], 0), some (.getfield 63, 4, [0, 8, 19, 1], 8), none, none, some (.iload_n 2, 5, [], 0), some (.bipush 12, 7, [], 0), none, some (.idiv, 8, [], 0), some (.aaload, 9, [], 0), some (.astore 5, 11, [], 0), none, some (.iload_n 2, 12, [], 0), some (.bipush 12, 14, [], 0), none, some (.irem, 15, [], 0), some (.istore 6, 17, [], 0)],
  [none, some (.iload_n 3, 18, [], 0), some (.iconst (-1), 19, [], 0), some (.if_icmp .eq 40, 22, [59], 0), none, none, some (.aload_n 0, 23, [], 0), some (.getfield 18, 26, [1, 3, 22, 3], 3), none, none, some (.aload_n 0, 27, [], 0), some (.getfield 27, 30, [1, 6, 25, 3], 6), none, none, some (.iload_n 3, 31, [], 0), some (.iaload, 32, [], 0)],
  [some (.iaload, 33, [], 0), some (.aload 5, 35, [], 0), none, some (.getfield 86, 38, [5, 4, 34, 1], 4), none, none, some (.iload 6, 40, [], 0), none, some (.iaload, 41, [], 0), some (.if_icmp .ne 18, 44, [59], 0), none, none, some (.aload_n 0, 45, [], 0), some (.getfield 27, 48, [1, 6, 25, 3], 6), none, none],
  [some (.iload_n 2, 49, [], 0), some (.aload_n 0, 50, [], 0), some (.getfield 27, 53, [1, 6, 25, 3], 6), none, none, some (.iload_n 3, 54, [], 0), some (.iaload, 55, [], 0), some (.iastore, 56, [], 0), some (.goto 88, 59, [144], 0), none, none, some (.aload_n 0, 60, [], 0), some (.getfield 27, 63, [1, 6, 25, 3], 6), none, none, some (.iload_n 2, 64, [], 0)],
  [some (.aload_n 0, 65, [], 0), some (.getfield 33, 68, [1, 0, 0, 0], 0), none, none, some (.iastore, 69, [], 0), some (.aload_n 0, 70, [], 0), some (.getfield 15, 73, [1, 2, 21, 3], 2), none, none, some (.aload_n 0, 74, [], 0), some (.getfield 33, 77, [1, 0, 0, 0], 0), none, none, some (.aload 5, 79, [], 0), none, some (.getfield 85, 82, [5, 3, 33, 1], 3)],
  [none, none, some (.iload 6, 84, [], 0), none, some (.iaload, 85, [], 0), some (.iastore, 86, [], 0), some (.aload_n 0, 87, [], 0), some (.getfield 18, 90, [1, 3, 22, 3], 3), none, none, some (.aload_n 0, 91, [], 0), some (.getfield 33, 94, [1, 0, 0, 0], 0), none, none, some (.aload 5, 96, [], 0), none],
  [some (.getfield 86, 99, [5, 4, 34, 1], 4), none, none, some (.iload 6, 101, [], 0), none, some (.iaload, 102, [], 0), some (.iastore, 103, [], 0), some (.aload_n 0, 104, [], 0), some (.getfield 21, 107, [1, 4, 23, 3], 4), none, none, some (.aload_n 0, 108, [], 0), some (.getfield 33, 111, [1, 0, 0, 0], 0), none, none, some (.iload 4, 113, [], 0)],
  [none, some (.iastore, 114, [], 0), some (.aload_n 0, 115, [], 0), some (.getfield 24, 118, [1, 5, 24, 3], 5), none, none, some (.aload_n 0, 119, [], 0), some (.getfield 33, 122, [1, 0, 0, 0], 0), none, none, some (.iconst 0, 123, [], 0), some (.iastore, 124, [], 0), some (.aload_n 0, 125, [], 0), some (.getfield 9, 128, [1, 1, 20, 3], 1), none, none],
  [some (.aload_n 0, 129, [], 0), some (.getfield 33, 132, [1, 0, 0, 0], 0), none, none, some (.iconst 0, 133, [], 0), some (.iastore, 134, [], 0), some (.aload_n 0, 135, [], 0), some (.dup, 136, [], 0), some (.getfield 33, 139, [1, 0, 0, 0], 0), none, none, some (.iconst 1, 140, [], 0), some (.iadd, 141, [], 0), some (.putfield 33, 144, [1, 0, 0, 0, 0], 0), none, none],
  [some (.aload_n 0, 145, [], 0), some (.getfield 24, 148, [1, 5, 24, 3], 5), none, none, some (.aload_n 0, 149, [], 0), some (.getfield 27, 152, [1, 6, 25, 3], 6), none, none, some (.iload_n 2, 153, [], 0), some (.iaload, 154, [], 0), some (.dup2, 155, [], 0), some (.iaload, 156, [], 0), some (.iconst 1, 157, [], 0), some (.iadd, 158, [], 0), some (.iastore, 159, [], 0), some (.aload_n 0, 160, [], 0)],
  [some (.getfield 9, 163, [1, 1, 20, 3], 1), none, none, some (.aload_n 0, 164, [], 0), some (.getfield 27, 167, [1, 6, 25, 3], 6), none, none, some (.iload_n 2, 168, [], 0), some (.iaload, 169, [], 0), some (.dup2, 170, [], 0), some (.iaload, 171, [], 0), some (.aload 5, 173, [], 0), none, some (.getfield 87, 176, [5, 5, 35, 1], 5), none, none],
  [some (.iload 6, 178, [], 0), none, some (.iaload, 179, [], 0), some (.iadd, 180, [], 0), some (.iastore, 181, [], 0), some (.return_, 182, [], 0)]]
def ob_c_X1_numberOf : List (List (Option ob_Ent)) := [[some (.aload_n 0, 1, [], 0), some (.getfield 27, 4, [1, 6, 25, 3], 6), none, none, some (.iload_n 1, 5, [], 0), some (.bipush 12, 7, [], 0), none, some (.imul, 8, [], 0), some (.iload_n 2, 9, [], 0), some (.iadd, 10, [], 0), some (.iaload, 11, [], 0), some (.ireturn, 12, [0], 0)]]
def ob_c_X1_bears : List (List (Option ob_Ent)) := [[some (.iconst 0, 1, [], 0), some (.istore 4, 3, [], 0), none, some (.iload 4, 5, [], 0), none, some (.iload_n 3, 6, [], 0), some (.if_icmp .ge 22, 9, [28], 0), none, none, some (.aload_n 0, 10, [], 0), some (.iload_n 2, 11, [], 0), some (.iload 4, 13, [], 0), none, some (.invokevirtual 88, 16, [9, 28, 3, 1, 1, 3, 0], 0), none, none],
  [some (.iload_n 1, 17, [], 0), some (.if_icmp .ne 5, 20, [22], 0), none, none, some (.iconst 1, 21, [], 0), some (.ireturn, 22, [1], 0), some (.iinc 4 1, 25, [], 0), none, none, some (.goto (-22), 28, [3], 0), none, none, some (.iconst 0, 29, [], 0), some (.ireturn, 30, [1], 0)]]
def ob_c_X1_countShared : List (List (Option ob_Ent)) := [[some (.iconst 0, 1, [], 0), some (.istore_n 1, 2, [], 0), some (.iconst 0, 3, [], 0), some (.istore_n 2, 4, [], 0), some (.iload_n 2, 5, [], 0), some (.aload_n 0, 6, [], 0), some (.getfield 33, 9, [1, 0, 0, 0], 0), none, none, some (.if_icmp .ge 22, 12, [31], 0), none, none, some (.aload_n 0, 13, [], 0), some (.getfield 24, 16, [1, 5, 24, 3], 5), none, none],
  [some (.iload_n 2, 17, [], 0), some (.iaload, 18, [], 0), some (.iconst 1, 19, [], 0), some (.if_icmp .le 6, 22, [25], 0), none, none, some (.iinc 1 1, 25, [], 0), none, none, some (.iinc 2 1, 28, [], 0), none, none, some (.goto (-24), 31, [4], 0), none, none, some (.iload_n 1, 32, [], 0)],
  [some (.ireturn, 33, [0], 0)]]
def ob_c_X1_countWorn : List (List (Option ob_Ent)) := [[some (.iconst 0, 1, [], 0), some (.istore_n 2, 2, [], 0), some (.iconst 0, 3, [], 0), some (.istore_n 3, 4, [], 0), some (.iload_n 3, 5, [], 0), some (.aload_n 0, 6, [], 0), some (.getfield 33, 9, [1, 0, 0, 0], 0), none, none, some (.if_icmp .ge 22, 12, [31], 0), none, none, some (.aload_n 0, 13, [], 0), some (.getfield 9, 16, [1, 1, 20, 3], 1), none, none],
  [some (.iload_n 3, 17, [], 0), some (.iaload, 18, [], 0), some (.iload_n 1, 19, [], 0), some (.if_icmp .lt 6, 22, [25], 0), none, none, some (.iinc 2 1, 25, [], 0), none, none, some (.iinc 3 1, 28, [], 0), none, none, some (.goto (-24), 31, [4], 0), none, none, some (.iload_n 2, 32, [], 0)],
  [some (.ireturn, 33, [0], 0)]]
def ob_c_X1_lostAtEnd : List (List (Option ob_Ent)) := [[some (.iload_n 2, 1, [], 0), some (.iconst 1, 2, [], 0), some (.if_icmp .ge 7, 5, [9], 0), none, none, some (.iconst 0, 6, [], 0), some (.goto 20, 9, [26], 0), none, none, some (.aload_n 0, 10, [], 0), some (.getfield 9, 13, [1, 1, 20, 3], 1), none, none, some (.iload_n 1, 14, [], 0), some (.iaload, 15, [], 0), some (.iload_n 2, 16, [], 0)],
  [some (.idiv, 17, [], 0), some (.aload_n 0, 18, [], 0), some (.getfield 18, 21, [1, 3, 22, 3], 3), none, none, some (.iload_n 1, 22, [], 0), some (.iaload, 23, [], 0), some (.invokestatic 91, 26, [2], 0), none, none, some (.ireturn, 27, [0], 0)]]
def ob_c_X1_value : List (List (Option ob_Ent)) := [[some (.iload_n 2, 1, [], 0), some (.tableswitch 70 0 4 #[35, 42, 49, 56, 63], 36, [71, 36, 43, 50, 57, 64], 0), none, none, none, none, none, none, none, none, none, none, none, none, none, none],
  [none, none, none, none, none, none, none, none, none, none, none, none, none, none, none, none],
  [none, none, none, none, some (.aload_n 0, 37, [], 0), some (.getfield 15, 40, [1, 2, 21, 3], 2), none, none, some (.iload_n 1, 41, [], 0), some (.iaload, 42, [], 0), some (.ireturn, 43, [0], 0), some (.aload_n 0, 44, [], 0), some (.getfield 18, 47, [1, 3, 22, 3], 3), none, none, some (.iload_n 1, 48, [], 0)],
  [some (.iaload, 49, [], 0), some (.ireturn, 50, [0], 0), some (.aload_n 0, 51, [], 0), some (.getfield 21, 54, [1, 4, 23, 3], 4), none, none, some (.iload_n 1, 55, [], 0), some (.iaload, 56, [], 0), some (.ireturn, 57, [0], 0), some (.aload_n 0, 58, [], 0), some (.getfield 24, 61, [1, 5, 24, 3], 5), none, none, some (.iload_n 1, 62, [], 0), some (.iaload, 63, [], 0), some (.ireturn, 64, [0], 0)],
  [some (.aload_n 0, 65, [], 0), some (.getfield 9, 68, [1, 1, 20, 3], 1), none, none, some (.iload_n 1, 69, [], 0), some (.iaload, 70, [], 0), some (.ireturn, 71, [0], 0), some (.aload_n 0, 72, [], 0), some (.iload_n 1, 73, [], 0), some (.iload_n 3, 74, [], 0), some (.invokevirtual 96, 77, [9, 32, 3, 1, 1, 3, 0], 0), none, none, some (.ireturn, 78, [0], 0)]]
def ob_c_X2_init : List (List (Option ob_Ent)) := [[some (.aload_n 0, 1, [], 0), some (.invokespecial 3, 4, [0], 0), none, none, some (.aload_n 0, 5, [], 0), some (.iconst (-1), 6, [], 0), some (.putfield 9, 9, [2, 0, 0, 0, 0], 0), none, none, some (.return_, 10, [], 0)]]
def ob_c_X2_tell : List (List (Option ob_Ent)) := [[some (.aload_n 0, 1, [], 0), some (.iload_n 1, 2, [], 0), some (.putfield 15, 5, [2, 1, 0, 0, 0], 1), none, none, some (.aload_n 0, 6, [], 0), some (.iload_n 2, 7, [], 0), some (.putfield 18, 10, [2, 2, 0, 0, 0], 2), none, none, some (.aload_n 0, 11, [], 0), some (.iload_n 3, 12, [], 0), some (.putfield 21, 15, [2, 3, 0, 0, 0], 3), none, none, some (.aload_n 0, 16, [], 0)],
  [some (.iconst (-1), 17, [], 0), some (.putfield 9, 20, [2, 0, 0, 0, 0], 0), none, none, some (.return_, 21, [], 0)]]
def ob_c_X2_value : List (List (Option ob_Ent)) := [[some (.iload_n 1, 1, [], 0), some (.tableswitch 42 0 2 #[27, 32, 37], 28, [43, 28, 33, 38], 0), none, none, none, none, none, none, none, none, none, none, none, none, none, none],
  [none, none, none, none, none, none, none, none, none, none, none, none, some (.aload_n 0, 29, [], 0), some (.getfield 15, 32, [2, 1, 0, 0], 1), none, none],
  [some (.ireturn, 33, [0], 0), some (.aload_n 0, 34, [], 0), some (.getfield 18, 37, [2, 2, 0, 0], 2), none, none, some (.ireturn, 38, [0], 0), some (.aload_n 0, 39, [], 0), some (.getfield 21, 42, [2, 3, 0, 0], 3), none, none, some (.ireturn, 43, [0], 0), some (.aload_n 0, 44, [], 0), some (.getfield 9, 47, [2, 0, 0, 0], 0), none, none, some (.ireturn, 48, [0], 0)]]
def ob_c_X3_init : List (List (Option ob_Ent)) := [[some (.aload_n 0, 1, [], 0), some (.invokespecial 3, 4, [0], 0), none, none, some (.aload_n 0, 5, [], 0), some (.bipush 12, 7, [], 0), none, some (.newarray .int, 9, [26], 0), none, some (.putfield 9, 12, [3, 3, 27, 1, 0], 3), none, none, some (.aload_n 0, 13, [], 0), some (.bipush 12, 15, [], 0), none, some (.newarray .int, 17, [27], 0)],
  [none, some (.putfield 15, 20, [3, 4, 28, 1, 0], 4), none, none, some (.aload_n 0, 21, [], 0), some (.bipush 12, 23, [], 0), none, some (.newarray .int, 25, [28], 0), none, some (.putfield 18, 28, [3, 5, 29, 1, 0], 5), none, none, some (.return_, 29, [], 0)]]
def ob_c_X3_copyFrom : List (List (Option ob_Ent)) := [[some (.aload_n 0, 1, [], 0), some (.aload_n 1, 2, [], 0), some (.getfield 21, 5, [3, 0, 0, 0], 0), none, none, some (.putfield 21, 8, [3, 0, 0, 0, 0], 0), none, none, some (.aload_n 0, 9, [], 0), some (.aload_n 1, 10, [], 0), some (.getfield 25, 13, [3, 1, 0, 0], 1), none, none, some (.putfield 25, 16, [3, 1, 0, 0, 0], 1), none, none],
  [some (.aload_n 0, 17, [], 0), some (.aload_n 1, 18, [], 0), some (.getfield 28, 21, [3, 2, 0, 0], 2), none, none, some (.putfield 28, 24, [3, 2, 0, 0, 0], 2), none, none, some (.aload_n 1, 25, [], 0), some (.getfield 9, 28, [3, 3, 27, 1], 3), none, none, some (.iconst 0, 29, [], 0), some (.aload_n 0, 30, [], 0), some (.getfield 9, 33, [3, 3, 27, 1], 3), none],
  [none, some (.iconst 0, 34, [], 0), some (.bipush 12, 36, [], 0), none, some (.invokestatic 31, 39, [1], 0), none, none, some (.aload_n 1, 40, [], 0), some (.getfield 15, 43, [3, 4, 28, 1], 4), none, none, some (.iconst 0, 44, [], 0), some (.aload_n 0, 45, [], 0), some (.getfield 15, 48, [3, 4, 28, 1], 4), none, none],
  [some (.iconst 0, 49, [], 0), some (.bipush 12, 51, [], 0), none, some (.invokestatic 31, 54, [1], 0), none, none, some (.aload_n 1, 55, [], 0), some (.getfield 18, 58, [3, 5, 29, 1], 5), none, none, some (.iconst 0, 59, [], 0), some (.aload_n 0, 60, [], 0), some (.getfield 18, 63, [3, 5, 29, 1], 5), none, none, some (.iconst 0, 64, [], 0)],
  [some (.bipush 12, 66, [], 0), none, some (.invokestatic 31, 69, [1], 0), none, none, some (.return_, 70, [], 0)]]
def ob_c_X3_isTaken : List (List (Option ob_Ent)) := [[some (.iconst 0, 1, [], 0), some (.istore 4, 3, [], 0), none, some (.iload 4, 5, [], 0), none, some (.aload_n 0, 6, [], 0), some (.getfield 28, 9, [3, 2, 0, 0], 2), none, none, some (.if_icmp .ge 54, 12, [63], 0), none, none, some (.aload_n 0, 13, [], 0), some (.getfield 9, 16, [3, 3, 27, 1], 3), none, none],
  [some (.iload 4, 18, [], 0), none, some (.iaload, 19, [], 0), some (.iload_n 1, 20, [], 0), some (.if_icmp .ne 37, 23, [57], 0), none, none, some (.iload_n 2, 24, [], 0), some (.aload_n 0, 25, [], 0), some (.getfield 15, 28, [3, 4, 28, 1], 4), none, none, some (.iload 4, 30, [], 0), none, some (.iaload, 31, [], 0), some (.aload_n 0, 32, [], 0)],
  [some (.getfield 18, 35, [3, 5, 29, 1], 5), none, none, some (.iload 4, 37, [], 0), none, some (.iaload, 38, [], 0), some (.iadd, 39, [], 0), some (.if_icmp .ge 18, 42, [57], 0), none, none, some (.aload_n 0, 43, [], 0), some (.getfield 15, 46, [3, 4, 28, 1], 4), none, none, some (.iload 4, 48, [], 0), none],
  [some (.iaload, 49, [], 0), some (.iload_n 2, 50, [], 0), some (.iload_n 3, 51, [], 0), some (.iadd, 52, [], 0), some (.if_icmp .ge 5, 55, [57], 0), none, none, some (.iconst 1, 56, [], 0), some (.ireturn, 57, [1], 0), some (.iinc 4 1, 60, [], 0), none, none, some (.goto (-57), 63, [3], 0), none, none, some (.iconst 0, 64, [], 0)],
  [some (.ireturn, 65, [1], 0)]]
def ob_c_X3_add : List (List (Option ob_Ent)) := [[some (.aload_n 0, 1, [], 0), some (.getfield 28, 4, [3, 2, 0, 0], 2), none, none, some (.bipush 12, 6, [], 0), none, some (.if_icmp .lt 6, 9, [12], 0), none, none, some (.bipush (-4), 11, [], 0), none, some (.ireturn, 12, [0], 0), some (.aload_n 0, 13, [], 0), some (.getfield 9, 16, [3, 3, 27, 1], 3), none, none],
  [some (.aload_n 0, 17, [], 0), some (.getfield 28, 20, [3, 2, 0, 0], 2), none, none, some (.iload_n 1, 21, [], 0), some (.iastore, 22, [], 0), some (.aload_n 0, 23, [], 0), some (.getfield 15, 26, [3, 4, 28, 1], 4), none, none, some (.aload_n 0, 27, [], 0), some (.getfield 28, 30, [3, 2, 0, 0], 2), none, none, some (.iload_n 2, 31, [], 0), some (.iastore, 32, [], 0)],
  [some (.aload_n 0, 33, [], 0), some (.getfield 18, 36, [3, 5, 29, 1], 5), none, none, some (.aload_n 0, 37, [], 0), some (.getfield 28, 40, [3, 2, 0, 0], 2), none, none, some (.iload_n 3, 41, [], 0), some (.iastore, 42, [], 0), some (.aload_n 0, 43, [], 0), some (.dup, 44, [], 0), some (.getfield 28, 47, [3, 2, 0, 0], 2), none, none, some (.iconst 1, 48, [], 0)],
  [some (.iadd, 49, [], 0), some (.putfield 28, 52, [3, 2, 0, 0, 0], 2), none, none, some (.aload_n 0, 53, [], 0), some (.getfield 28, 56, [3, 2, 0, 0], 2), none, none, some (.iconst 1, 57, [], 0), some (.isub, 58, [], 0), some (.ireturn, 59, [0], 0)]]
def ob_c_X3_remove : List (List (Option ob_Ent)) := [[some (.iload_n 1, 1, [], 0), some (.iconst 1, 2, [], 0), some (.iadd, 3, [], 0), some (.istore_n 2, 4, [], 0), some (.iload_n 2, 5, [], 0), some (.aload_n 0, 6, [], 0), some (.getfield 28, 9, [3, 2, 0, 0], 2), none, none, some (.if_icmp .ge 51, 12, [60], 0), none, none, some (.aload_n 0, 13, [], 0), some (.getfield 9, 16, [3, 3, 27, 1], 3), none, none],
  [some (.iload_n 2, 17, [], 0), some (.iconst 1, 18, [], 0), some (.isub, 19, [], 0), some (.aload_n 0, 20, [], 0), some (.getfield 9, 23, [3, 3, 27, 1], 3), none, none, some (.iload_n 2, 24, [], 0), some (.iaload, 25, [], 0), some (.iastore, 26, [], 0), some (.aload_n 0, 27, [], 0), some (.getfield 15, 30, [3, 4, 28, 1], 4), none, none, some (.iload_n 2, 31, [], 0), some (.iconst 1, 32, [], 0)],
  [some (.isub, 33, [], 0), some (.aload_n 0, 34, [], 0), some (.getfield 15, 37, [3, 4, 28, 1], 4), none, none, some (.iload_n 2, 38, [], 0), some (.iaload, 39, [], 0), some (.iastore, 40, [], 0), some (.aload_n 0, 41, [], 0), some (.getfield 18, 44, [3, 5, 29, 1], 5), none, none, some (.iload_n 2, 45, [], 0), some (.iconst 1, 46, [], 0), some (.isub, 47, [], 0), some (.aload_n 0, 48, [], 0)],
  [some (.getfield 18, 51, [3, 5, 29, 1], 5), none, none, some (.iload_n 2, 52, [], 0), some (.iaload, 53, [], 0), some (.iastore, 54, [], 0), some (.iinc 2 1, 57, [], 0), none, none, some (.goto (-53), 60, [4], 0), none, none, some (.aload_n 0, 61, [], 0), some (.dup, 62, [], 0), some (.getfield 28, 65, [3, 2, 0, 0], 2), none],
  [none, some (.iconst 1, 66, [], 0), some (.isub, 67, [], 0), some (.putfield 28, 70, [3, 2, 0, 0, 0], 2), none, none, some (.aload_n 0, 71, [], 0), some (.getfield 28, 74, [3, 2, 0, 0], 2), none, none, some (.ireturn, 75, [0], 0)]]
def ob_c_X3_keysAt : List (List (Option ob_Ent)) := [[some (.iconst 0, 1, [], 0), some (.istore_n 2, 2, [], 0), some (.iconst 0, 3, [], 0), some (.istore_n 3, 4, [], 0), some (.iload_n 3, 5, [], 0), some (.aload_n 0, 6, [], 0), some (.getfield 28, 9, [3, 2, 0, 0], 2), none, none, some (.if_icmp .ge 47, 12, [56], 0), none, none, some (.iload_n 1, 13, [], 0), some (.aload_n 0, 14, [], 0), some (.getfield 15, 17, [3, 4, 28, 1], 4), none],
  [none, some (.iload_n 3, 18, [], 0), some (.iaload, 19, [], 0), some (.if_icmp .lt 31, 22, [50], 0), none, none, some (.iload_n 1, 23, [], 0), some (.aload_n 0, 24, [], 0), some (.getfield 15, 27, [3, 4, 28, 1], 4), none, none, some (.iload_n 3, 28, [], 0), some (.iaload, 29, [], 0), some (.aload_n 0, 30, [], 0), some (.getfield 18, 33, [3, 5, 29, 1], 5), none],
  [none, some (.iload_n 3, 34, [], 0), some (.iaload, 35, [], 0), some (.iadd, 36, [], 0), some (.if_icmp .ge 14, 39, [50], 0), none, none, some (.iload_n 2, 40, [], 0), some (.iconst 1, 41, [], 0), some (.aload_n 0, 42, [], 0), some (.getfield 9, 45, [3, 3, 27, 1], 3), none, none, some (.iload_n 3, 46, [], 0), some (.iaload, 47, [], 0), some (.ishl, 48, [], 0)],
  [some (.ior, 49, [], 0), some (.istore_n 2, 50, [], 0), some (.iinc 3 1, 53, [], 0), none, none, some (.goto (-49), 56, [4], 0), none, none, some (.iload_n 2, 57, [], 0), some (.ireturn, 58, [0], 0)]]
def ob_c_X4_init : List (List (Option ob_Ent)) := [[some (.aload_n 0, 1, [], 0), some (.invokespecial 3, 4, [0], 0), none, none, some (.aload_n 0, 5, [], 0), some (.iconst 3, 6, [], 0), some (.anewarray 9, 9, [29, 5], 0), none, none, some (.putfield 11, 12, [4, 0, 30, 3, 0], 0), none, none, some (.aload_n 0, 13, [], 0), some (.sipush 216, 16, [], 0), none, none],
  [some (.newarray .boolean, 18, [30], 0), none, some (.putfield 17, 21, [4, 1, 31, 3, 0], 1), none, none, some (.aload_n 0, 22, [], 0), some (.iconst 3, 23, [], 0), some (.newarray .int, 25, [31], 0), none, some (.putfield 21, 28, [4, 2, 32, 3, 0], 2), none, none, some (.iconst 0, 29, [], 0), some (.istore_n 1, 30, [], 0), some (.iload_n 1, 31, [], 0), some (.iconst 3, 32, [], 0)],
  [some (.if_icmp .ge 22, 35, [54], 0), none, none, some (.aload_n 0, 36, [], 0), some (.getfield 11, 39, [4, 0, 30, 3], 0), none, none, some (.iload_n 1, 40, [], 0), some (.new 9, 43, [5], 0), none, none, some (.dup, 44, [], 0), some (.invokespecial 25, 47, [9, 62, 1, 0, 5, 1, 1], 0), none, none, some (.aastore, 48, [], 0)],
  [some (.iinc 1 1, 51, [], 0), none, none, some (.goto (-21), 54, [30], 0), none, none, some (.return_, 55, [], 0)]]
def ob_c_X4_putOn : List (List (Option ob_Ent)) := [[some (.aload_n 1, 1, [], 0), some (.iload_n 2, 2, [], 0), some (.invokevirtual 26, 5, [9, 3, 2, 1, 0, 2, 0], 0), none, none, some (.ifCond .ne 6, 8, [11], 0), none, none, some (.bipush (-2), 10, [], 0), none, some (.ireturn, 11, [0], 0), some (.aload_n 1, 12, [], 0), some (.getfield 32, 15, [0, 7, 18, 1], 7), none, none, some (.iload_n 2, 16, [], 0)],
  [some (.aaload, 17, [], 0), some (.astore 4, 19, [], 0), none, some (.aload 4, 21, [], 0), none, some (.getfield 36, 24, [3, 2, 0, 0], 2), none, none, some (.ifCond .ne 13, 27, [37], 0), none, none, some (.aload_n 3, 28, [], 0), some (.iconst 4, 29, [], 0), some (.iconst 0, 30, [], 0), some (.iconst 0, 31, [], 0), some (.invokevirtual 42, 34, [9, 35, 4, 0, 2, 4, 0], 0)],
  [none, none, some (.bipush (-3), 36, [], 0), none, some (.ireturn, 37, [0], 0), some (.aload_n 0, 38, [], 0), some (.getfield 11, 41, [4, 0, 30, 3], 0), none, none, some (.iload_n 2, 42, [], 0), some (.aaload, 43, [], 0), some (.aload 4, 45, [], 0), none, some (.aload 4, 47, [], 0), none, some (.getfield 48, 50, [3, 1, 0, 0], 1)],
  [none, none, some (.aload_n 1, 51, [], 0), some (.getfield 51, 54, [0, 3, 0, 0], 3), none, none, some (.aload_n 1, 55, [], 0), some (.getfield 54, 58, [0, 0, 0, 0], 0), none, none, some (.invokevirtual 57, 61, [9, 64, 5, 0, 5, 8, 0], 0), none, none, some (.aload_n 0, 62, [], 0), some (.aload_n 1, 63, [], 0), some (.iload_n 2, 64, [], 0)],
  [some (.aload_n 3, 65, [], 0), some (.invokevirtual 61, 68, [9, 45, 4, 1, 4, 5, 0], 0), none, none, some (.ifCond .ne 13, 71, [81], 0), none, none, some (.aload_n 0, 72, [], 0), some (.aload_n 1, 73, [], 0), some (.iload_n 2, 74, [], 0), some (.aload_n 3, 75, [], 0), some (.invokevirtual 65, 78, [9, 46, 4, 1, 4, 6, 0], 0), none, none, some (.ifCond .eq 6, 81, [84], 0), none],
  [none, some (.bipush (-3), 83, [], 0), none, some (.ireturn, 84, [0], 0), some (.aload_n 1, 85, [], 0), some (.getfield 68, 88, [0, 8, 19, 1], 8), none, none, some (.iload_n 2, 89, [], 0), some (.aaload, 90, [], 0), some (.aload_n 0, 91, [], 0), some (.getfield 11, 94, [4, 0, 30, 3], 0), none, none, some (.iload_n 2, 95, [], 0), some (.aaload, 96, [], 0)],
  [some (.invokevirtual 71, 99, [9, 63, 2, 0, 5, 2, 0], 0), none, none, some (.aload 4, 101, [], 0), none, some (.getfield 36, 104, [3, 2, 0, 0], 2), none, none, some (.ireturn, 105, [0], 0)]]
def ob_c_X4_isTooSoon : List (List (Option ob_Ent)) := [[some (.aload_n 0, 1, [], 0), some (.aload_n 1, 2, [], 0), some (.iload_n 2, 3, [], 0), some (.invokevirtual 75, 6, [9, 47, 3, 1, 4, 5, 0], 0), none, none, some (.istore 4, 8, [], 0), none, some (.iload 4, 10, [], 0), none, some (.iconst (-1), 11, [], 0), some (.if_icmp .ne 5, 14, [16], 0), none, none, some (.iconst 0, 15, [], 0), some (.ireturn, 16, [1], 0)],
  [some (.aload_n 3, 17, [], 0), some (.iconst 1, 18, [], 0), some (.iload 4, 20, [], 0), none, some (.aload_n 0, 21, [], 0), some (.getfield 11, 24, [4, 0, 30, 3], 0), none, none, some (.iload_n 2, 25, [], 0), some (.aaload, 26, [], 0), some (.iload 4, 28, [], 0), none, some (.aload_n 1, 29, [], 0), some (.getfield 54, 32, [0, 0, 0, 0], 0), none, none],
  [some (.invokevirtual 79, 35, [9, 67, 3, 1, 5, 5, 0], 0), none, none, some (.invokevirtual 42, 38, [9, 35, 4, 0, 2, 4, 0], 0), none, none, some (.iconst 1, 39, [], 0), some (.ireturn, 40, [1], 0)]]
def ob_c_X4_isTouching : List (List (Option ob_Ent)) := [[some (.iconst 0, 1, [], 0), some (.istore 4, 3, [], 0), none, some (.iload 4, 5, [], 0), none, some (.aload_n 0, 6, [], 0), some (.getfield 11, 9, [4, 0, 30, 3], 0), none, none, some (.iload_n 2, 10, [], 0), some (.aaload, 11, [], 0), some (.getfield 83, 14, [5, 2, 4, 2], 2), none, none, some (.getfield 36, 17, [3, 2, 0, 0], 2), none],
  [none, some (.if_icmp .ge 37, 20, [54], 0), none, none, some (.aload_n 0, 21, [], 0), some (.aload_n 1, 22, [], 0), some (.iload_n 2, 23, [], 0), some (.iload 4, 25, [], 0), none, some (.iconst 0, 26, [], 0), some (.invokevirtual 86, 29, [9, 48, 5, 1, 4, 7, 0], 0), none, none, some (.istore 5, 31, [], 0), none, some (.iload 5, 33, [], 0)],
  [none, some (.iconst (-1), 34, [], 0), some (.if_icmp .eq 14, 37, [48], 0), none, none, some (.aload_n 3, 38, [], 0), some (.iconst 2, 39, [], 0), some (.iload 4, 41, [], 0), none, some (.iload 5, 43, [], 0), none, some (.invokevirtual 42, 46, [9, 35, 4, 0, 2, 4, 0], 0), none, none, some (.iconst 1, 47, [], 0), some (.ireturn, 48, [1], 0)],
  [some (.iinc 4 1, 51, [], 0), none, none, some (.goto (-48), 54, [3], 0), none, none, some (.iconst 0, 55, [], 0), some (.ireturn, 56, [1], 0)]]
def ob_c_X4_firstTooSoon : List (List (Option ob_Ent)) := [[some (.aload_n 0, 1, [], 0), some (.getfield 11, 4, [4, 0, 30, 3], 0), none, none, some (.iload_n 2, 5, [], 0), some (.aaload, 6, [], 0), some (.astore_n 3, 7, [], 0), some (.iconst 0, 8, [], 0), some (.istore 4, 10, [], 0), none, some (.iload 4, 12, [], 0), none, some (.aload_n 3, 13, [], 0), some (.getfield 83, 16, [5, 2, 4, 2], 2), none, none],
  [some (.getfield 36, 19, [3, 2, 0, 0], 2), none, none, some (.if_icmp .ge 40, 22, [59], 0), none, none, some (.aload_n 3, 23, [], 0), some (.iload 4, 25, [], 0), none, some (.aload_n 1, 26, [], 0), some (.getfield 54, 29, [0, 0, 0, 0], 0), none, none, some (.invokevirtual 79, 32, [9, 67, 3, 1, 5, 5, 0], 0), none, none],
  [some (.aload_n 1, 33, [], 0), some (.getfield 90, 36, [0, 6, 17, 1], 6), none, none, some (.aload_n 3, 37, [], 0), some (.getfield 83, 40, [5, 2, 4, 2], 2), none, none, some (.getfield 93, 43, [3, 3, 27, 1], 3), none, none, some (.iload 4, 45, [], 0), none, some (.iaload, 46, [], 0), some (.iaload, 47, [], 0), some (.if_icmp .ge 6, 50, [53], 0)],
  [none, none, some (.iload 4, 52, [], 0), none, some (.ireturn, 53, [0], 0), some (.iinc 4 1, 56, [], 0), none, none, some (.goto (-46), 59, [10], 0), none, none, some (.iconst (-1), 60, [], 0), some (.ireturn, 61, [0], 0)]]
def ob_c_X4_firstTouched : List (List (Option ob_Ent)) := [[some (.iconst 0, 1, [], 0), some (.istore 5, 3, [], 0), none, some (.iload 5, 5, [], 0), none, some (.aload_n 1, 6, [], 0), some (.getfield 96, 9, [0, 2, 0, 0], 2), none, none, some (.if_icmp .ge 66, 12, [75], 0), none, none, some (.iload 5, 14, [], 0), none, some (.iload_n 2, 15, [], 0), some (.if_icmp .eq 54, 18, [69], 0)],
  [none, none, some (.aload_n 1, 19, [], 0), some (.getfield 68, 22, [0, 8, 19, 1], 8), none, none, some (.iload 5, 24, [], 0), none, some (.aaload, 25, [], 0), some (.getfield 99, 28, [5, 0, 0, 0], 0), none, none, some (.ifCond .ne 6, 31, [34], 0), none, none, some (.goto 38, 34, [69], 0)],
  [none, none, some (.aload_n 0, 35, [], 0), some (.aload_n 1, 36, [], 0), some (.iload_n 2, 37, [], 0), some (.iload_n 3, 38, [], 0), some (.iload 4, 40, [], 0), none, some (.iload 5, 42, [], 0), none, some (.aload_n 1, 43, [], 0), some (.getfield 68, 46, [0, 8, 19, 1], 8), none, none, some (.iload 5, 48, [], 0), none],
  [some (.aaload, 49, [], 0), some (.invokevirtual 103, 52, [9, 49, 7, 1, 4, 13, 0], 0), none, none, some (.istore 6, 54, [], 0), none, some (.iload 6, 56, [], 0), none, some (.iconst (-1), 57, [], 0), some (.if_icmp .eq 12, 60, [69], 0), none, none, some (.bipush 16, 62, [], 0), none, some (.iload 5, 64, [], 0), none],
  [some (.imul, 65, [], 0), some (.iload 6, 67, [], 0), none, some (.iadd, 68, [], 0), some (.ireturn, 69, [0], 0), some (.iinc 5 1, 72, [], 0), none, none, some (.goto (-69), 75, [3], 0), none, none, some (.iconst (-1), 76, [], 0), some (.ireturn, 77, [0], 0)]]
def ob_c_X4_firstInTheWay : List (List (Option ob_Ent)) := [[some (.aload_n 1, 1, [], 0), some (.aload_n 0, 2, [], 0), some (.getfield 11, 5, [4, 0, 30, 3], 0), none, none, some (.iload_n 2, 6, [], 0), some (.aaload, 7, [], 0), some (.getfield 83, 10, [5, 2, 4, 2], 2), none, none, some (.getfield 93, 13, [3, 3, 27, 1], 3), none, none, some (.iload_n 3, 14, [], 0), some (.iaload, 15, [], 0), some (.iload_n 2, 16, [], 0)],
  [some (.invokevirtual 107, 19, [9, 7, 3, 1, 0, 3, 0], 0), none, none, some (.istore 7, 21, [], 0), none, some (.aload_n 0, 22, [], 0), some (.getfield 11, 25, [4, 0, 30, 3], 0), none, none, some (.iload_n 2, 26, [], 0), some (.aaload, 27, [], 0), some (.getfield 110, 30, [5, 3, 33, 1], 3), none, none, some (.iload_n 3, 31, [], 0), some (.iaload, 32, [], 0)],
  [some (.iload 4, 34, [], 0), none, some (.iadd, 35, [], 0), some (.aload_n 1, 36, [], 0), some (.getfield 54, 39, [0, 0, 0, 0], 0), none, none, some (.invokestatic 113, 42, [9, 130, 2, 1, 7, 2, 1], 0), none, none, some (.istore 8, 44, [], 0), none, some (.aload_n 0, 45, [], 0), some (.getfield 11, 48, [4, 0, 30, 3], 0), none, none],
  [some (.iload_n 2, 49, [], 0), some (.aaload, 50, [], 0), some (.getfield 116, 53, [5, 4, 34, 1], 4), none, none, some (.iload_n 3, 54, [], 0), some (.iaload, 55, [], 0), some (.istore 9, 57, [], 0), none, some (.iconst 0, 58, [], 0), some (.istore 10, 60, [], 0), none, some (.iload 10, 62, [], 0), none, some (.aload 6, 64, [], 0), none],
  [some (.getfield 83, 67, [5, 2, 4, 2], 2), none, none, some (.getfield 36, 70, [3, 2, 0, 0], 2), none, none, some (.if_icmp .ge 89, 73, [159], 0), none, none, some (.iload 7, 75, [], 0), none, some (.aload_n 1, 76, [], 0), some (.aload 6, 78, [], 0), none, some (.getfield 83, 81, [5, 2, 4, 2], 2), none],
  [none, some (.getfield 93, 84, [3, 3, 27, 1], 3), none, none, some (.iload 10, 86, [], 0), none, some (.iaload, 87, [], 0), some (.iload 5, 89, [], 0), none, some (.invokevirtual 107, 92, [9, 7, 3, 1, 0, 3, 0], 0), none, none, some (.isub, 93, [], 0), some (.invokestatic 119, 96, [4], 0), none, none],
  [some (.iconst 1, 97, [], 0), some (.if_icmp .ne 7, 100, [104], 0), none, none, some (.iconst 1, 101, [], 0), some (.goto 4, 104, [105], 0), none, none, some (.iconst 0, 105, [], 0), some (.istore 11, 107, [], 0), none, some (.iload 8, 109, [], 0), none, some (.aload 6, 111, [], 0), none, some (.getfield 110, 114, [5, 3, 33, 1], 3)],
  [none, none, some (.iload 10, 116, [], 0), none, some (.iaload, 117, [], 0), some (.aload_n 1, 118, [], 0), some (.getfield 54, 121, [0, 0, 0, 0], 0), none, none, some (.invokestatic 125, 124, [9, 131, 3, 1, 7, 3, 1], 0), none, none, some (.istore 12, 126, [], 0), none, some (.iload 11, 128, [], 0), none],
  [some (.ifCond .eq 25, 131, [153], 0), none, none, some (.aload_n 1, 132, [], 0), some (.iload 12, 134, [], 0), none, some (.iload 9, 136, [], 0), none, some (.aload 6, 138, [], 0), none, some (.getfield 116, 141, [5, 4, 34, 1], 4), none, none, some (.iload 10, 143, [], 0), none, some (.iaload, 144, [], 0)],
  [some (.invokevirtual 129, 147, [9, 23, 4, 1, 0, 4, 0], 0), none, none, some (.ifCond .ne 6, 150, [153], 0), none, none, some (.iload 10, 152, [], 0), none, some (.ireturn, 153, [0], 0), some (.iinc 10 1, 156, [], 0), none, none, some (.goto (-96), 159, [60], 0), none, none, some (.iconst (-1), 160, [], 0)],
  [some (.ireturn, 161, [0], 0)]]
def ob_c_X4_leastShift : List (List (Option ob_Ent)) := [[some (.aload_n 0, 1, [], 0), some (.getfield 11, 4, [4, 0, 30, 3], 0), none, none, some (.iload_n 2, 5, [], 0), some (.aaload, 6, [], 0), some (.aload_n 1, 7, [], 0), some (.getfield 32, 10, [0, 7, 18, 1], 7), none, none, some (.iload_n 2, 11, [], 0), some (.aaload, 12, [], 0), some (.iconst 0, 13, [], 0), some (.aload_n 1, 14, [], 0), some (.getfield 51, 17, [0, 3, 0, 0], 3), none],
  [none, some (.aload_n 1, 18, [], 0), some (.getfield 54, 21, [0, 0, 0, 0], 0), none, none, some (.invokevirtual 57, 24, [9, 64, 5, 0, 5, 8, 0], 0), none, none, some (.aload_n 1, 25, [], 0), some (.getfield 32, 28, [0, 7, 18, 1], 7), none, none, some (.iload_n 2, 29, [], 0), some (.aaload, 30, [], 0), some (.getfield 36, 33, [3, 2, 0, 0], 2), none],
  [none, some (.ifCond .eq 13, 36, [46], 0), none, none, some (.aload_n 0, 37, [], 0), some (.aload_n 1, 38, [], 0), some (.iload_n 2, 39, [], 0), some (.invokevirtual 75, 42, [9, 47, 3, 1, 4, 5, 0], 0), none, none, some (.iconst (-1), 43, [], 0), some (.if_icmp .eq 5, 46, [48], 0), none, none, some (.iconst (-1), 47, [], 0), some (.ireturn, 48, [0], 0)],
  [some (.iconst 0, 49, [], 0), some (.istore_n 3, 50, [], 0), some (.iload_n 3, 51, [], 0), some (.aload_n 1, 52, [], 0), some (.getfield 54, 55, [0, 0, 0, 0], 0), none, none, some (.if_icmp .ge 21, 58, [76], 0), none, none, some (.aload_n 0, 59, [], 0), some (.aload_n 1, 60, [], 0), some (.iload_n 2, 61, [], 0), some (.iload_n 3, 62, [], 0), some (.invokevirtual 133, 65, [9, 51, 4, 1, 4, 5, 0], 0), none],
  [none, some (.ifCond .eq 5, 68, [70], 0), none, none, some (.iload_n 3, 69, [], 0), some (.ireturn, 70, [0], 0), some (.iinc 3 1, 73, [], 0), none, none, some (.goto (-23), 76, [50], 0), none, none, some (.iconst (-1), 77, [], 0), some (.ireturn, 78, [0], 0)]]
def ob_c_X4_isClear : List (List (Option ob_Ent)) := [[some (.iconst 0, 1, [], 0), some (.istore 4, 3, [], 0), none, some (.iload 4, 5, [], 0), none, some (.aload_n 0, 6, [], 0), some (.getfield 11, 9, [4, 0, 30, 3], 0), none, none, some (.iload_n 2, 10, [], 0), some (.aaload, 11, [], 0), some (.getfield 83, 14, [5, 2, 4, 2], 2), none, none, some (.getfield 36, 17, [3, 2, 0, 0], 2), none],
  [none, some (.if_icmp .ge 24, 20, [41], 0), none, none, some (.aload_n 0, 21, [], 0), some (.aload_n 1, 22, [], 0), some (.iload_n 2, 23, [], 0), some (.iload 4, 25, [], 0), none, some (.iload_n 3, 26, [], 0), some (.invokevirtual 86, 29, [9, 48, 5, 1, 4, 7, 0], 0), none, none, some (.iconst (-1), 30, [], 0), some (.if_icmp .eq 5, 33, [35], 0), none],
  [none, some (.iconst 0, 34, [], 0), some (.ireturn, 35, [1], 0), some (.iinc 4 1, 38, [], 0), none, none, some (.goto (-35), 41, [3], 0), none, none, some (.iconst 1, 42, [], 0), some (.ireturn, 43, [1], 0)]]
def ob_c_X4_settleAll : List (List (Option ob_Ent)) := [[some (.aload_n 0, 1, [], 0), some (.aload_n 1, 2, [], 0), some (.invokevirtual 137, 5, [9, 53, 2, 1, 4, 4, 0], 0), none, none, some (.ifCond .ne 13, 8, [18], 0), none, none, some (.aload_n 2, 9, [], 0), some (.iconst 4, 10, [], 0), some (.iconst 0, 11, [], 0), some (.iconst 0, 12, [], 0), some (.invokevirtual 42, 15, [9, 35, 4, 0, 2, 4, 0], 0), none, none, some (.bipush (-3), 17, [], 0)],
  [none, some (.ireturn, 18, [0], 0), some (.iconst 0, 19, [], 0), some (.istore_n 3, 20, [], 0), some (.iload_n 3, 21, [], 0), some (.aload_n 1, 22, [], 0), some (.getfield 96, 25, [0, 2, 0, 0], 2), none, none, some (.if_icmp .ge 22, 28, [47], 0), none, none, some (.aload_n 0, 29, [], 0), some (.aload_n 1, 30, [], 0), some (.iload_n 3, 31, [], 0), some (.aload_n 2, 32, [], 0)],
  [some (.invokevirtual 61, 35, [9, 45, 4, 1, 4, 5, 0], 0), none, none, some (.ifCond .eq 6, 38, [41], 0), none, none, some (.bipush (-3), 40, [], 0), none, some (.ireturn, 41, [0], 0), some (.iinc 3 1, 44, [], 0), none, none, some (.goto (-24), 47, [20], 0), none, none, some (.aload_n 0, 48, [], 0)],
  [some (.aload_n 1, 49, [], 0), some (.invokevirtual 141, 52, [9, 54, 2, 0, 4, 5, 0], 0), none, none, some (.aload_n 0, 53, [], 0), some (.aload_n 1, 54, [], 0), some (.invokevirtual 145, 57, [9, 57, 2, 1, 4, 4, 0], 0), none, none, some (.istore_n 3, 58, [], 0), some (.iload_n 3, 59, [], 0), some (.iconst (-1), 60, [], 0), some (.if_icmp .ne 13, 63, [73], 0), none, none, some (.aload_n 2, 64, [], 0)],
  [some (.iconst 3, 65, [], 0), some (.iconst 0, 66, [], 0), some (.iconst 0, 67, [], 0), some (.invokevirtual 42, 70, [9, 35, 4, 0, 2, 4, 0], 0), none, none, some (.bipush (-3), 72, [], 0), none, some (.ireturn, 73, [0], 0), some (.aload_n 0, 74, [], 0), some (.aload_n 1, 75, [], 0), some (.invokevirtual 149, 78, [9, 61, 2, 0, 4, 3, 0], 0), none, none, some (.iload_n 3, 79, [], 0), some (.ireturn, 80, [0], 0)]]
def ob_c_X4_planAll : List (List (Option ob_Ent)) := [[some (.iconst 0, 1, [], 0), some (.istore_n 2, 2, [], 0), some (.iconst 0, 3, [], 0), some (.istore_n 3, 4, [], 0), some (.iload_n 3, 5, [], 0), some (.iconst 3, 6, [], 0), some (.if_icmp .ge 47, 9, [53], 0), none, none, some (.aload_n 0, 10, [], 0), some (.getfield 11, 13, [4, 0, 30, 3], 0), none, none, some (.iload_n 3, 14, [], 0), some (.aaload, 15, [], 0), some (.aload_n 1, 16, [], 0)],
  [some (.getfield 32, 19, [0, 7, 18, 1], 7), none, none, some (.iload_n 3, 20, [], 0), some (.aaload, 21, [], 0), some (.iconst 0, 22, [], 0), some (.aload_n 1, 23, [], 0), some (.getfield 51, 26, [0, 3, 0, 0], 3), none, none, some (.aload_n 1, 27, [], 0), some (.getfield 54, 30, [0, 0, 0, 0], 0), none, none, some (.invokevirtual 57, 33, [9, 64, 5, 0, 5, 8, 0], 0), none],
  [none, some (.aload_n 1, 34, [], 0), some (.getfield 32, 37, [0, 7, 18, 1], 7), none, none, some (.iload_n 3, 38, [], 0), some (.aaload, 39, [], 0), some (.getfield 36, 42, [3, 2, 0, 0], 2), none, none, some (.ifCond .le 5, 45, [47], 0), none, none, some (.iconst 1, 46, [], 0), some (.istore_n 2, 47, [], 0), some (.iinc 3 1, 50, [], 0)],
  [none, none, some (.goto (-46), 53, [4], 0), none, none, some (.iload_n 2, 54, [], 0), some (.ireturn, 55, [1], 0)]]
def ob_c_X4_compareAll : List (List (Option ob_Ent)) := [[some (.iconst 0, 1, [], 0), some (.istore_n 2, 2, [], 0), some (.iload_n 2, 3, [], 0), some (.iconst 3, 4, [], 0), some (.if_icmp .ge 63, 7, [67], 0), none, none, some (.iload_n 2, 8, [], 0), some (.iconst 1, 9, [], 0), some (.iadd, 10, [], 0), some (.istore_n 3, 11, [], 0), some (.iload_n 3, 12, [], 0), some (.iconst 3, 13, [], 0), some (.if_icmp .ge 48, 16, [61], 0), none, none],
  [some (.iconst 0, 17, [], 0), some (.istore 4, 19, [], 0), none, some (.iload 4, 21, [], 0), none, some (.aload_n 1, 22, [], 0), some (.getfield 54, 25, [0, 0, 0, 0], 0), none, none, some (.if_icmp .ge 30, 28, [55], 0), none, none, some (.aload_n 0, 29, [], 0), some (.getfield 17, 32, [4, 1, 31, 3], 1), none, none],
  [some (.iload_n 2, 33, [], 0), some (.iload_n 3, 34, [], 0), some (.iload 4, 36, [], 0), none, some (.invokestatic 152, 39, [9, 55, 3, 1, 4, 3, 0], 0), none, none, some (.aload_n 0, 40, [], 0), some (.aload_n 1, 41, [], 0), some (.iload_n 2, 42, [], 0), some (.iload_n 3, 43, [], 0), some (.iload 4, 45, [], 0), none, some (.invokevirtual 155, 48, [9, 56, 5, 1, 4, 6, 0], 0), none, none],
  [some (.bastore, 49, [], 0), some (.iinc 4 1, 52, [], 0), none, none, some (.goto (-33), 55, [19], 0), none, none, some (.iinc 3 1, 58, [], 0), none, none, some (.goto (-47), 61, [11], 0), none, none, some (.iinc 2 1, 64, [], 0), none, none],
  [some (.goto (-62), 67, [2], 0), none, none, some (.return_, 68, [], 0)]]
def ob_c_X4_place : List (List (Option ob_Ent)) := [[some (.iload_n 0, 1, [], 0), some (.iconst 3, 2, [], 0), some (.imul, 3, [], 0), some (.iload_n 1, 4, [], 0), some (.iadd, 5, [], 0), some (.bipush 24, 7, [], 0), none, some (.imul, 8, [], 0), some (.iload_n 2, 9, [], 0), some (.iadd, 10, [], 0), some (.ireturn, 11, [0], 0)]]
def ob_c_X4_canLieBeside : List (List (Option ob_Ent)) := [[some (.iconst 0, 1, [], 0), some (.istore 5, 3, [], 0), none, some (.iload 5, 5, [], 0), none, some (.aload_n 0, 6, [], 0), some (.getfield 11, 9, [4, 0, 30, 3], 0), none, none, some (.iload_n 2, 10, [], 0), some (.aaload, 11, [], 0), some (.getfield 83, 14, [5, 2, 4, 2], 2), none, none, some (.getfield 36, 17, [3, 2, 0, 0], 2), none],
  [none, some (.if_icmp .ge 32, 20, [49], 0), none, none, some (.aload_n 0, 21, [], 0), some (.aload_n 1, 22, [], 0), some (.iload_n 2, 23, [], 0), some (.iload 5, 25, [], 0), none, some (.iload 4, 27, [], 0), none, some (.iload_n 3, 28, [], 0), some (.aload_n 0, 29, [], 0), some (.getfield 11, 32, [4, 0, 30, 3], 0), none, none],
  [some (.iload_n 3, 33, [], 0), some (.aaload, 34, [], 0), some (.invokevirtual 103, 37, [9, 49, 7, 1, 4, 13, 0], 0), none, none, some (.iconst (-1), 38, [], 0), some (.if_icmp .eq 5, 41, [43], 0), none, none, some (.iconst 0, 42, [], 0), some (.ireturn, 43, [1], 0), some (.iinc 5 1, 46, [], 0), none, none, some (.goto (-43), 49, [3], 0), none],
  [none, some (.iconst 1, 50, [], 0), some (.ireturn, 51, [1], 0)]]
def ob_c_X4_searchShifts : List (List (Option ob_Ent)) := [[some (.iconst (-1), 1, [], 0), some (.istore_n 2, 2, [], 0), some (.iconst 0, 3, [], 0), some (.istore_n 3, 4, [], 0), some (.iload_n 3, 5, [], 0), some (.aload_n 1, 6, [], 0), some (.iconst 0, 7, [], 0), some (.invokestatic 159, 10, [9, 60, 2, 1, 4, 2, 0], 0), none, none, some (.if_icmp .ge 28, 13, [38], 0), none, none, some (.iload_n 3, 14, [], 0), some (.ifCond .le 10, 17, [24], 0), none],
  [none, some (.iload_n 2, 18, [], 0), some (.iconst (-1), 19, [], 0), some (.if_icmp .ne 5, 22, [24], 0), none, none, some (.iconst (-1), 23, [], 0), some (.ireturn, 24, [0], 0), some (.aload_n 0, 25, [], 0), some (.aload_n 1, 26, [], 0), some (.iload_n 3, 27, [], 0), some (.iload_n 2, 28, [], 0), some (.invokevirtual 162, 31, [9, 58, 4, 1, 4, 8, 0], 0), none, none, some (.istore_n 2, 32, [], 0)],
  [some (.iinc 3 1, 35, [], 0), none, none, some (.goto (-31), 38, [4], 0), none, none, some (.iload_n 2, 39, [], 0), some (.ireturn, 40, [0], 0)]]
def ob_c_X4_searchBehind : List (List (Option ob_Ent)) := [[some (.iload_n 3, 1, [], 0), some (.istore 4, 3, [], 0), none, some (.iconst 0, 4, [], 0), some (.istore 5, 6, [], 0), none, some (.iload 5, 8, [], 0), none, some (.aload_n 1, 9, [], 0), some (.iconst 1, 10, [], 0), some (.invokestatic 159, 13, [9, 60, 2, 1, 4, 2, 0], 0), none, none, some (.if_icmp .ge 128, 16, [141], 0), none, none],
  [some (.iload 4, 18, [], 0), none, some (.iconst (-1), 19, [], 0), some (.if_icmp .eq 16, 22, [35], 0), none, none, some (.iload_n 2, 23, [], 0), some (.iload 5, 25, [], 0), none, some (.iadd, 26, [], 0), some (.iload 4, 28, [], 0), none, some (.if_icmp .lt 7, 31, [35], 0), none, none, some (.iconst 1, 32, [], 0)],
  [some (.goto 4, 35, [36], 0), none, none, some (.iconst 0, 36, [], 0), some (.istore 6, 38, [], 0), none, some (.iload 6, 40, [], 0), none, some (.ifCond .ne 95, 43, [135], 0), none, none, some (.aload_n 0, 44, [], 0), some (.getfield 17, 47, [4, 1, 31, 3], 1), none, none, some (.iconst 0, 48, [], 0)],
  [some (.iconst 1, 49, [], 0), some (.iload 5, 51, [], 0), none, some (.iload_n 2, 52, [], 0), some (.aload_n 1, 53, [], 0), some (.getfield 54, 56, [0, 0, 0, 0], 0), none, none, some (.invokestatic 125, 59, [9, 131, 3, 1, 7, 3, 1], 0), none, none, some (.invokestatic 152, 62, [9, 55, 3, 1, 4, 3, 0], 0), none, none, some (.baload, 63, [], 0), some (.ifCond .ne 6, 66, [69], 0)],
  [none, none, some (.goto 69, 69, [135], 0), none, none, some (.aload_n 0, 70, [], 0), some (.aload_n 1, 71, [], 0), some (.iload_n 2, 72, [], 0), some (.iload 5, 74, [], 0), none, some (.invokevirtual 166, 77, [9, 59, 4, 1, 4, 5, 0], 0), none, none, some (.istore 7, 79, [], 0), none, some (.iload 7, 81, [], 0)],
  [none, some (.iconst (-1), 82, [], 0), some (.if_icmp .eq 53, 85, [135], 0), none, none, some (.iload 4, 87, [], 0), none, some (.iconst (-1), 88, [], 0), some (.if_icmp .eq 15, 91, [103], 0), none, none, some (.iload_n 2, 92, [], 0), some (.iload 5, 94, [], 0), none, some (.iadd, 95, [], 0), some (.iload 7, 97, [], 0)],
  [none, some (.iadd, 98, [], 0), some (.iload 4, 100, [], 0), none, some (.if_icmp .ge 35, 103, [135], 0), none, none, some (.iload_n 2, 104, [], 0), some (.iload 5, 106, [], 0), none, some (.iadd, 107, [], 0), some (.iload 7, 109, [], 0), none, some (.iadd, 110, [], 0), some (.istore 4, 112, [], 0), none],
  [some (.aload_n 0, 113, [], 0), some (.getfield 21, 116, [4, 2, 32, 3], 2), none, none, some (.iconst 0, 117, [], 0), some (.iload_n 2, 118, [], 0), some (.iastore, 119, [], 0), some (.aload_n 0, 120, [], 0), some (.getfield 21, 123, [4, 2, 32, 3], 2), none, none, some (.iconst 1, 124, [], 0), some (.iload 5, 126, [], 0), none, some (.iastore, 127, [], 0), some (.aload_n 0, 128, [], 0)],
  [some (.getfield 21, 131, [4, 2, 32, 3], 2), none, none, some (.iconst 2, 132, [], 0), some (.iload 7, 134, [], 0), none, some (.iastore, 135, [], 0), some (.iinc 5 1, 138, [], 0), none, none, some (.goto (-132), 141, [6], 0), none, none, some (.iload 4, 143, [], 0), none, some (.ireturn, 144, [0], 0)]]
def ob_c_X4_leastThird : List (List (Option ob_Ent)) := [[some (.iconst 0, 1, [], 0), some (.istore 4, 3, [], 0), none, some (.iload 4, 5, [], 0), none, some (.aload_n 1, 6, [], 0), some (.iconst 2, 7, [], 0), some (.invokestatic 159, 10, [9, 60, 2, 1, 4, 2, 0], 0), none, none, some (.if_icmp .ge 58, 13, [68], 0), none, none, some (.aload_n 0, 14, [], 0), some (.getfield 17, 17, [4, 1, 31, 3], 1), none],
  [none, some (.iconst 0, 18, [], 0), some (.iconst 2, 19, [], 0), some (.iload 4, 21, [], 0), none, some (.iload_n 2, 22, [], 0), some (.aload_n 1, 23, [], 0), some (.getfield 54, 26, [0, 0, 0, 0], 0), none, none, some (.invokestatic 125, 29, [9, 131, 3, 1, 7, 3, 1], 0), none, none, some (.invokestatic 152, 32, [9, 55, 3, 1, 4, 3, 0], 0), none, none],
  [some (.baload, 33, [], 0), some (.ifCond .eq 29, 36, [62], 0), none, none, some (.aload_n 0, 37, [], 0), some (.getfield 17, 40, [4, 1, 31, 3], 1), none, none, some (.iconst 1, 41, [], 0), some (.iconst 2, 42, [], 0), some (.iload 4, 44, [], 0), none, some (.iload_n 3, 45, [], 0), some (.aload_n 1, 46, [], 0), some (.getfield 54, 49, [0, 0, 0, 0], 0), none],
  [none, some (.invokestatic 125, 52, [9, 131, 3, 1, 7, 3, 1], 0), none, none, some (.invokestatic 152, 55, [9, 55, 3, 1, 4, 3, 0], 0), none, none, some (.baload, 56, [], 0), some (.ifCond .eq 6, 59, [62], 0), none, none, some (.iload 4, 61, [], 0), none, some (.ireturn, 62, [0], 0), some (.iinc 4 1, 65, [], 0), none],
  [none, some (.goto (-62), 68, [3], 0), none, none, some (.iconst (-1), 69, [], 0), some (.ireturn, 70, [0], 0)]]
def ob_c_X4_shiftsToTry : List (List (Option ob_Ent)) := [[some (.aload_n 0, 1, [], 0), some (.getfield 32, 4, [0, 7, 18, 1], 7), none, none, some (.iload_n 1, 5, [], 0), some (.aaload, 6, [], 0), some (.getfield 36, 9, [3, 2, 0, 0], 2), none, none, some (.ifCond .le 10, 12, [19], 0), none, none, some (.aload_n 0, 13, [], 0), some (.getfield 54, 16, [0, 0, 0, 0], 0), none, none],
  [some (.goto 4, 19, [20], 0), none, none, some (.iconst 1, 20, [], 0), some (.ireturn, 21, [0], 0)]]
def ob_c_X4_pinAll : List (List (Option ob_Ent)) := [[some (.iconst 0, 1, [], 0), some (.istore_n 2, 2, [], 0), some (.iload_n 2, 3, [], 0), some (.aload_n 1, 4, [], 0), some (.getfield 96, 7, [0, 2, 0, 0], 2), none, none, some (.if_icmp .ge 75, 10, [82], 0), none, none, some (.aload_n 1, 11, [], 0), some (.getfield 68, 14, [0, 8, 19, 1], 8), none, none, some (.iload_n 2, 15, [], 0), some (.aaload, 16, [], 0)],
  [some (.iconst 0, 17, [], 0), some (.putfield 99, 20, [5, 0, 0, 0, 1], 0), none, none, some (.aload_n 1, 21, [], 0), some (.getfield 32, 24, [0, 7, 18, 1], 7), none, none, some (.iload_n 2, 25, [], 0), some (.aaload, 26, [], 0), some (.getfield 36, 29, [3, 2, 0, 0], 2), none, none, some (.ifCond .le 47, 32, [76], 0), none, none],
  [some (.aload_n 1, 33, [], 0), some (.getfield 32, 36, [0, 7, 18, 1], 7), none, none, some (.iload_n 2, 37, [], 0), some (.aaload, 38, [], 0), some (.aload_n 0, 39, [], 0), some (.getfield 21, 42, [4, 2, 32, 3], 2), none, none, some (.iload_n 2, 43, [], 0), some (.iaload, 44, [], 0), some (.putfield 48, 47, [3, 1, 0, 0, 0], 1), none, none, some (.aload_n 1, 48, [], 0)],
  [some (.getfield 68, 51, [0, 8, 19, 1], 8), none, none, some (.iload_n 2, 52, [], 0), some (.aaload, 53, [], 0), some (.aload_n 1, 54, [], 0), some (.getfield 32, 57, [0, 7, 18, 1], 7), none, none, some (.iload_n 2, 58, [], 0), some (.aaload, 59, [], 0), some (.aload_n 0, 60, [], 0), some (.getfield 21, 63, [4, 2, 32, 3], 2), none, none, some (.iload_n 2, 64, [], 0)],
  [some (.iaload, 65, [], 0), some (.aload_n 1, 66, [], 0), some (.getfield 51, 69, [0, 3, 0, 0], 3), none, none, some (.aload_n 1, 70, [], 0), some (.getfield 54, 73, [0, 0, 0, 0], 0), none, none, some (.invokevirtual 57, 76, [9, 64, 5, 0, 5, 8, 0], 0), none, none, some (.iinc 2 1, 79, [], 0), none, none, some (.goto (-77), 82, [2], 0)],
  [none, none, some (.return_, 83, [], 0)]]
def ob_c_X5_init : List (List (Option ob_Ent)) := [[some (.aload_n 0, 1, [], 0), some (.invokespecial 3, 4, [0], 0), none, none, some (.aload_n 0, 5, [], 0), some (.new 9, 8, [3], 0), none, none, some (.dup, 9, [], 0), some (.invokespecial 11, 12, [9, 37, 1, 0, 3, 1, 1], 0), none, none, some (.putfield 12, 15, [5, 2, 4, 2, 0], 2), none, none, some (.aload_n 0, 16, [], 0)],
  [some (.bipush 12, 18, [], 0), none, some (.newarray .int, 20, [32], 0), none, some (.putfield 18, 23, [5, 3, 33, 1, 0], 3), none, none, some (.aload_n 0, 24, [], 0), some (.bipush 12, 26, [], 0), none, some (.newarray .int, 28, [33], 0), none, some (.putfield 22, 31, [5, 4, 34, 1, 0], 4), none, none, some (.aload_n 0, 32, [], 0)],
  [some (.bipush 12, 34, [], 0), none, some (.newarray .int, 36, [34], 0), none, some (.putfield 25, 39, [5, 5, 35, 1, 0], 5), none, none, some (.return_, 40, [], 0)]]
def ob_c_X5_copyFrom : List (List (Option ob_Ent)) := [[some (.aload_n 0, 1, [], 0), some (.aload_n 1, 2, [], 0), some (.getfield 28, 5, [5, 0, 0, 0], 0), none, none, some (.putfield 28, 8, [5, 0, 0, 0, 1], 0), none, none, some (.aload_n 0, 9, [], 0), some (.aload_n 1, 10, [], 0), some (.getfield 32, 13, [5, 1, 0, 0], 1), none, none, some (.putfield 32, 16, [5, 1, 0, 0, 0], 1), none, none],
  [some (.aload_n 0, 17, [], 0), some (.getfield 12, 20, [5, 2, 4, 2], 2), none, none, some (.aload_n 1, 21, [], 0), some (.getfield 12, 24, [5, 2, 4, 2], 2), none, none, some (.invokevirtual 36, 27, [9, 38, 2, 0, 3, 2, 0], 0), none, none, some (.aload_n 1, 28, [], 0), some (.getfield 18, 31, [5, 3, 33, 1], 3), none, none, some (.iconst 0, 32, [], 0)],
  [some (.aload_n 0, 33, [], 0), some (.getfield 18, 36, [5, 3, 33, 1], 3), none, none, some (.iconst 0, 37, [], 0), some (.bipush 12, 39, [], 0), none, some (.invokestatic 40, 42, [1], 0), none, none, some (.aload_n 1, 43, [], 0), some (.getfield 22, 46, [5, 4, 34, 1], 4), none, none, some (.iconst 0, 47, [], 0), some (.aload_n 0, 48, [], 0)],
  [some (.getfield 22, 51, [5, 4, 34, 1], 4), none, none, some (.iconst 0, 52, [], 0), some (.bipush 12, 54, [], 0), none, some (.invokestatic 40, 57, [1], 0), none, none, some (.aload_n 1, 58, [], 0), some (.getfield 25, 61, [5, 5, 35, 1], 5), none, none, some (.iconst 0, 62, [], 0), some (.aload_n 0, 63, [], 0), some (.getfield 25, 66, [5, 5, 35, 1], 5)],
  [none, none, some (.iconst 0, 67, [], 0), some (.bipush 12, 69, [], 0), none, some (.invokestatic 40, 72, [1], 0), none, none, some (.return_, 73, [], 0)]]
def ob_c_X5_lay : List (List (Option ob_Ent)) := [[some (.aload_n 0, 1, [], 0), some (.iconst 1, 2, [], 0), some (.putfield 28, 5, [5, 0, 0, 0, 1], 0), none, none, some (.aload_n 0, 6, [], 0), some (.iload_n 3, 7, [], 0), some (.putfield 32, 10, [5, 1, 0, 0, 0], 1), none, none, some (.aload_n 0, 11, [], 0), some (.getfield 12, 14, [5, 2, 4, 2], 2), none, none, some (.aload_n 1, 15, [], 0), some (.invokevirtual 36, 18, [9, 38, 2, 0, 3, 2, 0], 0)],
  [none, none, some (.aload_n 0, 19, [], 0), some (.getfield 12, 22, [5, 2, 4, 2], 2), none, none, some (.iload_n 2, 23, [], 0), some (.putfield 46, 26, [3, 1, 0, 0, 0], 1), none, none, some (.iconst 0, 27, [], 0), some (.istore 5, 29, [], 0), none, some (.iload 5, 31, [], 0), none, some (.aload_n 0, 32, [], 0)],
  [some (.getfield 12, 35, [5, 2, 4, 2], 2), none, none, some (.getfield 49, 38, [3, 2, 0, 0], 2), none, none, some (.if_icmp .ge 112, 41, [150], 0), none, none, some (.aload_n 0, 42, [], 0), some (.getfield 12, 45, [5, 2, 4, 2], 2), none, none, some (.getfield 52, 48, [3, 4, 28, 1], 4), none, none],
  [some (.iload 5, 50, [], 0), none, some (.iaload, 51, [], 0), some (.aload_n 0, 52, [], 0), some (.getfield 12, 55, [5, 2, 4, 2], 2), none, none, some (.getfield 55, 58, [3, 0, 0, 0], 0), none, none, some (.aload_n 0, 59, [], 0), some (.getfield 32, 62, [5, 1, 0, 0], 1), none, none, some (.iload 4, 64, [], 0), none],
  [some (.invokestatic 58, 67, [9, 129, 4, 1, 7, 4, 1], 0), none, none, some (.istore 6, 69, [], 0), none, some (.aload_n 0, 70, [], 0), some (.getfield 12, 73, [5, 2, 4, 2], 2), none, none, some (.getfield 52, 76, [3, 4, 28, 1], 4), none, none, some (.iload 5, 78, [], 0), none, some (.iaload, 79, [], 0), some (.aload_n 0, 80, [], 0)],
  [some (.getfield 12, 83, [5, 2, 4, 2], 2), none, none, some (.getfield 62, 86, [3, 5, 29, 1], 5), none, none, some (.iload 5, 88, [], 0), none, some (.iaload, 89, [], 0), some (.iadd, 90, [], 0), some (.aload_n 0, 91, [], 0), some (.getfield 12, 94, [5, 2, 4, 2], 2), none, none, some (.getfield 55, 97, [3, 0, 0, 0], 0), none],
  [none, some (.aload_n 0, 98, [], 0), some (.getfield 32, 101, [5, 1, 0, 0], 1), none, none, some (.iload 4, 103, [], 0), none, some (.invokestatic 58, 106, [9, 129, 4, 1, 7, 4, 1], 0), none, none, some (.istore 7, 108, [], 0), none, some (.aload_n 0, 109, [], 0), some (.getfield 18, 112, [5, 3, 33, 1], 3), none, none],
  [some (.iload 5, 114, [], 0), none, some (.iload 6, 116, [], 0), none, some (.iload_n 2, 117, [], 0), some (.iadd, 118, [], 0), some (.iload 4, 120, [], 0), none, some (.invokestatic 65, 123, [9, 130, 2, 1, 7, 2, 1], 0), none, none, some (.iastore, 124, [], 0), some (.aload_n 0, 125, [], 0), some (.getfield 22, 128, [5, 4, 34, 1], 4), none, none],
  [some (.iload 5, 130, [], 0), none, some (.iload 7, 132, [], 0), none, some (.iload 6, 134, [], 0), none, some (.isub, 135, [], 0), some (.iastore, 136, [], 0), some (.aload_n 0, 137, [], 0), some (.getfield 25, 140, [5, 5, 35, 1], 5), none, none, some (.iload 5, 142, [], 0), none, some (.iconst 0, 143, [], 0), some (.iastore, 144, [], 0)],
  [some (.iinc 5 1, 147, [], 0), none, none, some (.goto (-118), 150, [29], 0), none, none, some (.return_, 151, [], 0)]]
def ob_c_X5_howMany : List (List (Option ob_Ent)) := [[some (.aload_n 0, 1, [], 0), some (.getfield 28, 4, [5, 0, 0, 0], 0), none, none, some (.ifCond .eq 13, 7, [17], 0), none, none, some (.aload_n 0, 8, [], 0), some (.getfield 12, 11, [5, 2, 4, 2], 2), none, none, some (.getfield 49, 14, [3, 2, 0, 0], 2), none, none, some (.goto 4, 17, [18], 0), none],
  [none, some (.iconst 0, 18, [], 0), some (.ireturn, 19, [0], 0)]]
def ob_c_X5_angleOfTick : List (List (Option ob_Ent)) := [[some (.iload_n 1, 1, [], 0), some (.aload_n 0, 2, [], 0), some (.getfield 12, 5, [5, 2, 4, 2], 2), none, none, some (.getfield 55, 8, [3, 0, 0, 0], 0), none, none, some (.aload_n 0, 9, [], 0), some (.getfield 32, 12, [5, 1, 0, 0], 1), none, none, some (.iload_n 2, 13, [], 0), some (.invokestatic 58, 16, [9, 129, 4, 1, 7, 4, 1], 0), none, none],
  [some (.aload_n 0, 17, [], 0), some (.getfield 12, 20, [5, 2, 4, 2], 2), none, none, some (.getfield 46, 23, [3, 1, 0, 0], 1), none, none, some (.iadd, 24, [], 0), some (.iload_n 2, 25, [], 0), some (.invokestatic 65, 28, [9, 130, 2, 1, 7, 2, 1], 0), none, none, some (.ireturn, 29, [0], 0)]]
def ob_c_X5_freeBehind : List (List (Option ob_Ent)) := [[some (.iload_n 2, 1, [], 0), some (.istore_n 3, 2, [], 0), some (.iconst 0, 3, [], 0), some (.istore 4, 5, [], 0), none, some (.iload 4, 7, [], 0), none, some (.aload_n 0, 8, [], 0), some (.getfield 12, 11, [5, 2, 4, 2], 2), none, none, some (.getfield 49, 14, [3, 2, 0, 0], 2), none, none, some (.if_icmp .ge 59, 17, [73], 0), none],
  [none, some (.iload 4, 19, [], 0), none, some (.iload_n 1, 20, [], 0), some (.if_icmp .eq 47, 23, [67], 0), none, none, some (.aload_n 0, 24, [], 0), some (.getfield 12, 27, [5, 2, 4, 2], 2), none, none, some (.getfield 69, 30, [3, 3, 27, 1], 3), none, none, some (.iload 4, 32, [], 0), none],
  [some (.iaload, 33, [], 0), some (.aload_n 0, 34, [], 0), some (.getfield 12, 37, [5, 2, 4, 2], 2), none, none, some (.getfield 69, 40, [3, 3, 27, 1], 3), none, none, some (.iload_n 1, 41, [], 0), some (.iaload, 42, [], 0), some (.if_icmp .ne 25, 45, [67], 0), none, none, some (.iload_n 3, 46, [], 0), some (.aload_n 0, 47, [], 0), some (.getfield 18, 50, [5, 3, 33, 1], 3)],
  [none, none, some (.iload_n 1, 51, [], 0), some (.iaload, 52, [], 0), some (.aload_n 0, 53, [], 0), some (.getfield 18, 56, [5, 3, 33, 1], 3), none, none, some (.iload 4, 58, [], 0), none, some (.iaload, 59, [], 0), some (.iload_n 2, 60, [], 0), some (.invokestatic 72, 63, [9, 131, 3, 1, 7, 3, 1], 0), none, none, some (.invokestatic 76, 66, [2], 0)],
  [none, none, some (.istore_n 3, 67, [], 0), some (.iinc 4 1, 70, [], 0), none, none, some (.goto (-65), 73, [5], 0), none, none, some (.iload_n 3, 74, [], 0), some (.aload_n 0, 75, [], 0), some (.getfield 22, 78, [5, 4, 34, 1], 4), none, none, some (.iload_n 1, 79, [], 0), some (.iaload, 80, [], 0)],
  [some (.isub, 81, [], 0), some (.ireturn, 82, [0], 0)]]
def ob_c_X5_held : List (List (Option ob_Ent)) := [[some (.iconst 0, 1, [], 0), some (.istore_n 3, 2, [], 0), some (.iconst 0, 3, [], 0), some (.istore 4, 5, [], 0), none, some (.iload 4, 7, [], 0), none, some (.aload_n 0, 8, [], 0), some (.getfield 22, 11, [5, 4, 34, 1], 4), none, none, some (.iload_n 1, 12, [], 0), some (.iaload, 13, [], 0), some (.if_icmp .ge 27, 16, [40], 0), none, none],
  [some (.iload_n 3, 17, [], 0), some (.iconst 1, 18, [], 0), some (.aload_n 0, 19, [], 0), some (.getfield 18, 22, [5, 3, 33, 1], 3), none, none, some (.iload_n 1, 23, [], 0), some (.iaload, 24, [], 0), some (.iload 4, 26, [], 0), none, some (.iadd, 27, [], 0), some (.iload_n 2, 28, [], 0), some (.invokestatic 65, 31, [9, 130, 2, 1, 7, 2, 1], 0), none, none, some (.ishl, 32, [], 0)],
  [some (.ior, 33, [], 0), some (.istore_n 3, 34, [], 0), some (.iinc 4 1, 37, [], 0), none, none, some (.goto (-32), 40, [5], 0), none, none, some (.iload_n 3, 41, [], 0), some (.ireturn, 42, [0], 0)]]
def ob_c_X6_init : List (List (Option ob_Ent)) := [[some (.aload_n 0, 1, [], 0), some (.invokespecial 3, 4, [0], 0), none, none, some (.aload_n 0, 5, [], 0), some (.bipush 120, 7, [], 0), none, some (.newarray .int, 9, [35], 0), none, some (.putfield 9, 12, [6, 2, 36, 3, 0], 2), none, none, some (.aload_n 0, 13, [], 0), some (.bipush 120, 15, [], 0), none, some (.newarray .byte, 17, [36], 0)],
  [none, some (.putfield 15, 20, [6, 3, 37, 3, 0], 3), none, none, some (.aload_n 0, 21, [], 0), some (.bipush 121, 23, [], 0), none, some (.newarray .int, 25, [37], 0), none, some (.putfield 19, 28, [6, 4, 38, 3, 0], 4), none, none, some (.aload_n 0, 29, [], 0), some (.bipush 120, 31, [], 0), none, some (.newarray .int, 33, [38], 0)],
  [none, some (.putfield 22, 36, [6, 5, 39, 3, 0], 5), none, none, some (.return_, 37, [], 0)]]
def ob_c_X6_append : List (List (Option ob_Ent)) := [[some (.aload_n 0, 1, [], 0), some (.getfield 25, 4, [6, 0, 0, 0], 0), none, none, some (.bipush 120, 6, [], 0), none, some (.if_icmp .ge 24, 9, [30], 0), none, none, some (.aload_n 0, 10, [], 0), some (.getfield 15, 13, [6, 3, 37, 3], 3), none, none, some (.aload_n 0, 14, [], 0), some (.getfield 25, 17, [6, 0, 0, 0], 0), none],
  [none, some (.iload_n 1, 18, [], 0), some (.i2b, 19, [], 0), some (.bastore, 20, [], 0), some (.aload_n 0, 21, [], 0), some (.dup, 22, [], 0), some (.getfield 25, 25, [6, 0, 0, 0], 0), none, none, some (.iconst 1, 26, [], 0), some (.iadd, 27, [], 0), some (.putfield 25, 30, [6, 0, 0, 0, 0], 0), none, none, some (.aload_n 0, 31, [], 0), some (.getfield 25, 34, [6, 0, 0, 0], 0)],
  [none, none, some (.ireturn, 35, [0], 0)]]
def ob_c_X6_numberCount : List (List (Option ob_Ent)) := [[some (.aload_n 0, 1, [], 0), some (.getfield 19, 4, [6, 4, 38, 3], 4), none, none, some (.iload_n 1, 5, [], 0), some (.iconst 1, 6, [], 0), some (.iadd, 7, [], 0), some (.iaload, 8, [], 0), some (.aload_n 0, 9, [], 0), some (.getfield 19, 12, [6, 4, 38, 3], 4), none, none, some (.iload_n 1, 13, [], 0), some (.iaload, 14, [], 0), some (.isub, 15, [], 0), some (.ireturn, 16, [0], 0)]]
def ob_c_X6_number : List (List (Option ob_Ent)) := [[some (.iload_n 2, 1, [], 0), some (.aload_n 0, 2, [], 0), some (.iload_n 1, 3, [], 0), some (.invokevirtual 29, 6, [9, 71, 2, 1, 6, 2, 0], 0), none, none, some (.if_icmp .ge 19, 9, [25], 0), none, none, some (.aload_n 0, 10, [], 0), some (.getfield 22, 13, [6, 5, 39, 3], 5), none, none, some (.aload_n 0, 14, [], 0), some (.getfield 19, 17, [6, 4, 38, 3], 4), none],
  [none, some (.iload_n 1, 18, [], 0), some (.iaload, 19, [], 0), some (.iload_n 2, 20, [], 0), some (.iadd, 21, [], 0), some (.iaload, 22, [], 0), some (.goto 4, 25, [26], 0), none, none, some (.iconst 0, 26, [], 0), some (.ireturn, 27, [0], 0)]]
def ob_c_X6_parse : List (List (Option ob_Ent)) := [[some (.aload_n 0, 1, [], 0), some (.iconst 0, 2, [], 0), some (.putfield 33, 5, [6, 1, 0, 0, 0], 1), none, none, some (.aload_n 0, 6, [], 0), some (.iconst 0, 7, [], 0), some (.putfield 36, 10, [6, 6, 0, 0, 0], 6), none, none, some (.aload_n 0, 11, [], 0), some (.iconst 0, 12, [], 0), some (.putfield 39, 15, [6, 7, 0, 0, 1], 7), none, none, some (.iconst 0, 16, [], 0)],
  [some (.istore_n 1, 17, [], 0), some (.iconst 0, 18, [], 0), some (.istore_n 2, 19, [], 0), some (.iload_n 2, 20, [], 0), some (.aload_n 0, 21, [], 0), some (.getfield 25, 24, [6, 0, 0, 0], 0), none, none, some (.if_icmp .ge 100, 27, [124], 0), none, none, some (.aload_n 0, 28, [], 0), some (.getfield 15, 31, [6, 3, 37, 3], 3), none, none, some (.iload_n 2, 32, [], 0)],
  [some (.baload, 33, [], 0), some (.istore_n 3, 34, [], 0), some (.iload_n 3, 35, [], 0), some (.invokestatic 43, 38, [9, 74, 1, 1, 6, 1, 0], 0), none, none, some (.ifCond .eq 9, 41, [47], 0), none, none, some (.iload_n 1, 42, [], 0), some (.iconst 1, 43, [], 0), some (.iadd, 44, [], 0), some (.goto 4, 47, [48], 0), none, none, some (.iconst 0, 48, [], 0)],
  [some (.istore_n 1, 49, [], 0), some (.iload_n 1, 50, [], 0), some (.iconst 2, 51, [], 0), some (.if_icmp .le 7, 54, [58], 0), none, none, some (.iload_n 2, 55, [], 0), some (.iconst 2, 56, [], 0), some (.isub, 57, [], 0), some (.ireturn, 58, [0], 0), some (.iload_n 1, 59, [], 0), some (.iconst 2, 60, [], 0), some (.if_icmp .eq 32, 63, [92], 0), none, none, some (.iload_n 3, 64, [], 0)],
  [some (.bipush 32, 66, [], 0), none, some (.if_icmp .eq 26, 69, [92], 0), none, none, some (.iload_n 1, 70, [], 0), some (.iconst 1, 71, [], 0), some (.if_icmp .ne 13, 74, [84], 0), none, none, some (.aload_n 0, 75, [], 0), some (.invokevirtual 47, 78, [9, 75, 1, 1, 6, 1, 0], 0), none, none, some (.ifCond .eq 18, 81, [96], 0), none],
  [none, some (.goto 11, 84, [92], 0), none, none, some (.aload_n 0, 85, [], 0), some (.iload_n 3, 86, [], 0), some (.invokevirtual 51, 89, [9, 77, 2, 1, 6, 2, 0], 0), none, none, some (.ifCond .eq 7, 92, [96], 0), none, none, some (.iconst 1, 93, [], 0), some (.goto 4, 96, [97], 0), none, none],
  [some (.iconst 0, 97, [], 0), some (.istore 4, 99, [], 0), none, some (.iload 4, 101, [], 0), none, some (.ifCond .ne 5, 104, [106], 0), none, none, some (.iload_n 2, 105, [], 0), some (.ireturn, 106, [0], 0), some (.iload_n 1, 107, [], 0), some (.ifCond .le 11, 110, [118], 0), none, none, some (.aload_n 0, 111, [], 0), some (.iload_n 3, 112, [], 0)],
  [some (.bipush 48, 114, [], 0), none, some (.isub, 115, [], 0), some (.invokevirtual 54, 118, [9, 76, 2, 0, 6, 2, 0], 0), none, none, some (.iinc 2 1, 121, [], 0), none, none, some (.goto (-102), 124, [19], 0), none, none, some (.aload_n 0, 125, [], 0), some (.getfield 39, 128, [6, 7, 0, 0], 7), none, none],
  [some (.ifCond .ne 10, 131, [138], 0), none, none, some (.aload_n 0, 132, [], 0), some (.getfield 33, 135, [6, 1, 0, 0], 1), none, none, some (.ifCond .ne 10, 138, [145], 0), none, none, some (.aload_n 0, 139, [], 0), some (.getfield 25, 142, [6, 0, 0, 0], 0), none, none, some (.goto 4, 145, [146], 0), none],
  [none, some (.iconst (-1), 146, [], 0), some (.ireturn, 147, [0], 0)]]
def ob_c_X6_isFigure : List (List (Option ob_Ent)) := [[some (.iload_n 0, 1, [], 0), some (.bipush 48, 3, [], 0), none, some (.if_icmp .lt 13, 6, [16], 0), none, none, some (.iload_n 0, 7, [], 0), some (.bipush 57, 9, [], 0), none, some (.if_icmp .gt 7, 12, [16], 0), none, none, some (.iconst 1, 13, [], 0), some (.goto 4, 16, [17], 0), none, none],
  [some (.iconst 0, 17, [], 0), some (.ireturn, 18, [1], 0)]]
def ob_c_X6_opensNumber : List (List (Option ob_Ent)) := [[some (.aload_n 0, 1, [], 0), some (.getfield 39, 4, [6, 7, 0, 0], 7), none, none, some (.ifCond .eq 20, 7, [24], 0), none, none, some (.aload_n 0, 8, [], 0), some (.getfield 58, 11, [6, 9, 0, 0], 9), none, none, some (.iconst 1, 12, [], 0), some (.if_icmp .lt 12, 15, [24], 0), none, none, some (.aload_n 0, 16, [], 0)],
  [some (.getfield 36, 19, [6, 6, 0, 0], 6), none, none, some (.bipush 120, 21, [], 0), none, some (.if_icmp .lt 5, 24, [26], 0), none, none, some (.iconst 0, 25, [], 0), some (.ireturn, 26, [1], 0), some (.aload_n 0, 27, [], 0), some (.dup, 28, [], 0), some (.getfield 58, 31, [6, 9, 0, 0], 9), none, none, some (.iconst 1, 32, [], 0)],
  [some (.isub, 33, [], 0), some (.putfield 58, 36, [6, 9, 0, 0, 0], 9), none, none, some (.aload_n 0, 37, [], 0), some (.getfield 22, 40, [6, 5, 39, 3], 5), none, none, some (.aload_n 0, 41, [], 0), some (.getfield 36, 44, [6, 6, 0, 0], 6), none, none, some (.iconst 0, 45, [], 0), some (.iastore, 46, [], 0), some (.aload_n 0, 47, [], 0), some (.dup, 48, [], 0)],
  [some (.getfield 36, 51, [6, 6, 0, 0], 6), none, none, some (.iconst 1, 52, [], 0), some (.iadd, 53, [], 0), some (.putfield 36, 56, [6, 6, 0, 0, 0], 6), none, none, some (.iconst 1, 57, [], 0), some (.ireturn, 58, [1], 0)]]
def ob_c_X6_addFigure : List (List (Option ob_Ent)) := [[some (.aload_n 0, 1, [], 0), some (.getfield 36, 4, [6, 6, 0, 0], 6), none, none, some (.ifCond .le 30, 7, [34], 0), none, none, some (.aload_n 0, 8, [], 0), some (.getfield 22, 11, [6, 5, 39, 3], 5), none, none, some (.aload_n 0, 12, [], 0), some (.getfield 36, 15, [6, 6, 0, 0], 6), none, none, some (.iconst 1, 16, [], 0)],
  [some (.isub, 17, [], 0), some (.bipush 10, 19, [], 0), none, some (.aload_n 0, 20, [], 0), some (.getfield 22, 23, [6, 5, 39, 3], 5), none, none, some (.aload_n 0, 24, [], 0), some (.getfield 36, 27, [6, 6, 0, 0], 6), none, none, some (.iconst 1, 28, [], 0), some (.isub, 29, [], 0), some (.iaload, 30, [], 0), some (.imul, 31, [], 0), some (.iload_n 1, 32, [], 0)],
  [some (.iadd, 33, [], 0), some (.iastore, 34, [], 0), some (.return_, 35, [], 0)]]
def ob_c_X6_takesMark : List (List (Option ob_Ent)) := [[some (.aload_n 0, 1, [], 0), some (.getfield 39, 4, [6, 7, 0, 0], 7), none, none, some (.ifCond .ne 9, 7, [13], 0), none, none, some (.aload_n 0, 8, [], 0), some (.iload_n 1, 9, [], 0), some (.invokevirtual 61, 12, [9, 78, 2, 1, 6, 2, 0], 0), none, none, some (.ireturn, 13, [1], 0), some (.aload_n 0, 14, [], 0), some (.getfield 58, 17, [6, 9, 0, 0], 9), none],
  [none, some (.ifCond .le 5, 20, [22], 0), none, none, some (.iconst 0, 21, [], 0), some (.ireturn, 22, [1], 0), some (.iload_n 1, 23, [], 0), some (.bipush 59, 25, [], 0), none, some (.if_icmp .ne 9, 28, [34], 0), none, none, some (.aload_n 0, 29, [], 0), some (.invokevirtual 64, 32, [9, 79, 1, 0, 6, 1, 0], 0), none, none],
  [some (.iconst 1, 33, [], 0), some (.ireturn, 34, [1], 0), some (.aload_n 0, 35, [], 0), some (.iload_n 1, 36, [], 0), some (.invokevirtual 67, 39, [9, 80, 2, 1, 6, 4, 0], 0), none, none, some (.ireturn, 40, [1], 0)]]
def ob_c_X6_opensOrder : List (List (Option ob_Ent)) := [[some (.aload_n 0, 1, [], 0), some (.iload_n 1, 2, [], 0), some (.invokestatic 70, 5, [9, 81, 1, 1, 6, 1, 0], 0), none, none, some (.putfield 58, 8, [6, 9, 0, 0, 0], 9), none, none, some (.aload_n 0, 9, [], 0), some (.getfield 58, 12, [6, 9, 0, 0], 9), none, none, some (.ifCond .eq 12, 15, [24], 0), none, none, some (.aload_n 0, 16, [], 0)],
  [some (.getfield 33, 19, [6, 1, 0, 0], 1), none, none, some (.bipush 120, 21, [], 0), none, some (.if_icmp .lt 5, 24, [26], 0), none, none, some (.iconst 0, 25, [], 0), some (.ireturn, 26, [1], 0), some (.aload_n 0, 27, [], 0), some (.iconst 1, 28, [], 0), some (.putfield 39, 31, [6, 7, 0, 0, 1], 7), none, none, some (.aload_n 0, 32, [], 0)],
  [some (.iconst 0, 33, [], 0), some (.putfield 73, 36, [6, 8, 0, 0, 1], 8), none, none, some (.aload_n 0, 37, [], 0), some (.getfield 9, 40, [6, 2, 36, 3], 2), none, none, some (.aload_n 0, 41, [], 0), some (.getfield 33, 44, [6, 1, 0, 0], 1), none, none, some (.iload_n 1, 45, [], 0), some (.iastore, 46, [], 0), some (.aload_n 0, 47, [], 0), some (.getfield 19, 50, [6, 4, 38, 3], 4)],
  [none, none, some (.aload_n 0, 51, [], 0), some (.getfield 33, 54, [6, 1, 0, 0], 1), none, none, some (.aload_n 0, 55, [], 0), some (.getfield 36, 58, [6, 6, 0, 0], 6), none, none, some (.iastore, 59, [], 0), some (.iconst 1, 60, [], 0), some (.ireturn, 61, [1], 0)]]
def ob_c_X6_endOrder : List (List (Option ob_Ent)) := [[some (.aload_n 0, 1, [], 0), some (.dup, 2, [], 0), some (.getfield 33, 5, [6, 1, 0, 0], 1), none, none, some (.iconst 1, 6, [], 0), some (.iadd, 7, [], 0), some (.putfield 33, 10, [6, 1, 0, 0, 0], 1), none, none, some (.aload_n 0, 11, [], 0), some (.getfield 19, 14, [6, 4, 38, 3], 4), none, none, some (.aload_n 0, 15, [], 0), some (.getfield 33, 18, [6, 1, 0, 0], 1)],
  [none, none, some (.aload_n 0, 19, [], 0), some (.getfield 36, 22, [6, 6, 0, 0], 6), none, none, some (.iastore, 23, [], 0), some (.aload_n 0, 24, [], 0), some (.iconst 0, 25, [], 0), some (.putfield 39, 28, [6, 7, 0, 0, 1], 7), none, none, some (.return_, 29, [], 0)]]
def ob_c_X6_takesNotes : List (List (Option ob_Ent)) := [[some (.iload_n 1, 1, [], 0), some (.bipush 58, 3, [], 0), none, some (.if_icmp .ne 28, 6, [31], 0), none, none, some (.aload_n 0, 7, [], 0), some (.getfield 9, 10, [6, 2, 36, 3], 2), none, none, some (.aload_n 0, 11, [], 0), some (.getfield 33, 14, [6, 1, 0, 0], 1), none, none, some (.iaload, 15, [], 0), some (.bipush 116, 17, [], 0)],
  [none, some (.if_icmp .ne 14, 20, [31], 0), none, none, some (.aload_n 0, 21, [], 0), some (.getfield 73, 24, [6, 8, 0, 0], 8), none, none, some (.ifCond .ne 7, 27, [31], 0), none, none, some (.iconst 1, 28, [], 0), some (.goto 4, 31, [32], 0), none, none, some (.iconst 0, 32, [], 0)],
  [some (.istore_n 2, 33, [], 0), some (.iload_n 1, 34, [], 0), some (.bipush 44, 36, [], 0), none, some (.if_icmp .ne 14, 39, [50], 0), none, none, some (.aload_n 0, 40, [], 0), some (.getfield 73, 43, [6, 8, 0, 0], 8), none, none, some (.ifCond .eq 7, 46, [50], 0), none, none, some (.iconst 1, 47, [], 0), some (.goto 4, 50, [51], 0)],
  [none, none, some (.iconst 0, 51, [], 0), some (.istore_n 3, 52, [], 0), some (.iload_n 2, 53, [], 0), some (.ifCond .ne 9, 56, [62], 0), none, none, some (.iload_n 3, 57, [], 0), some (.ifCond .ne 5, 60, [62], 0), none, none, some (.iconst 0, 61, [], 0), some (.ireturn, 62, [1], 0), some (.aload_n 0, 63, [], 0), some (.iconst 1, 64, [], 0)],
  [some (.putfield 73, 67, [6, 8, 0, 0, 1], 8), none, none, some (.aload_n 0, 68, [], 0), some (.iconst 3, 69, [], 0), some (.putfield 58, 72, [6, 9, 0, 0, 0], 9), none, none, some (.iconst 1, 73, [], 0), some (.ireturn, 74, [1], 0)]]
def ob_c_X6_numbersOf : List (List (Option ob_Ent)) := [[some (.iload_n 0, 1, [], 0), some (.tableswitch 83 101 116 #[81, 83, 79, 79, 83, 83, 83, 83, 83, 83, 81, 81, 83, 83, 83, 79], 80, [84, 82, 84, 80, 80, 84, 84, 84, 84, 84, 84, 82, 82, 84, 84, 84, 80], 0), none, none, none, none, none, none, none, none, none, none, none, none, none, none],
  [none, none, none, none, none, none, none, none, none, none, none, none, none, none, none, none],
  [none, none, none, none, none, none, none, none, none, none, none, none, none, none, none, none],
  [none, none, none, none, none, none, none, none, none, none, none, none, none, none, none, none],
  [none, none, none, none, none, none, none, none, none, none, none, none, none, none, none, none],
  [some (.iconst 2, 81, [], 0), some (.ireturn, 82, [0], 0), some (.iconst 1, 83, [], 0), some (.ireturn, 84, [0], 0), some (.iconst 0, 85, [], 0), some (.ireturn, 86, [0], 0)]]
def ob_c_X7_init : List (List (Option ob_Ent)) := [[some (.aload_n 0, 1, [], 0), some (.invokespecial 3, 4, [0], 0), none, none, some (.aload_n 0, 5, [], 0), some (.new 9, 8, [0], 0), none, none, some (.dup, 9, [], 0), some (.invokespecial 11, 12, [9, 0, 1, 0, 0, 2, 0], 0), none, none, some (.putfield 12, 15, [7, 0, 1, 0, 0], 0), none, none, some (.aload_n 0, 16, [], 0)],
  [some (.new 9, 19, [0], 0), none, none, some (.dup, 20, [], 0), some (.invokespecial 11, 23, [9, 0, 1, 0, 0, 2, 0], 0), none, none, some (.putfield 16, 26, [7, 1, 1, 0, 0], 1), none, none, some (.aload_n 0, 27, [], 0), some (.iconst 5, 28, [], 0), some (.anewarray 9, 31, [39, 0], 0), none, none, some (.putfield 19, 34, [7, 2, 40, 3, 0], 2)],
  [none, none, some (.iconst 0, 35, [], 0), some (.istore_n 1, 36, [], 0), some (.iload_n 1, 37, [], 0), some (.iconst 5, 38, [], 0), some (.if_icmp .ge 22, 41, [60], 0), none, none, some (.aload_n 0, 42, [], 0), some (.getfield 19, 45, [7, 2, 40, 3], 2), none, none, some (.iload_n 1, 46, [], 0), some (.new 9, 49, [0], 0), none],
  [none, some (.dup, 50, [], 0), some (.invokespecial 11, 53, [9, 0, 1, 0, 0, 2, 0], 0), none, none, some (.aastore, 54, [], 0), some (.iinc 1 1, 57, [], 0), none, none, some (.goto (-21), 60, [36], 0), none, none, some (.aload_n 0, 61, [], 0), some (.new 23, 64, [4], 0), none, none],
  [some (.dup, 65, [], 0), some (.invokespecial 25, 68, [9, 43, 1, 0, 4, 2, 0], 0), none, none, some (.putfield 26, 71, [7, 4, 5, 3, 0], 4), none, none, some (.aload_n 0, 72, [], 0), some (.new 30, 75, [1], 0), none, none, some (.dup, 76, [], 0), some (.invokespecial 32, 79, [9, 24, 1, 0, 1, 1, 1], 0), none, none, some (.putfield 33, 82, [7, 5, 2, 3, 0], 5)],
  [none, none, some (.aload_n 0, 83, [], 0), some (.new 37, 86, [2], 0), none, none, some (.dup, 87, [], 0), some (.invokespecial 39, 90, [9, 34, 1, 0, 2, 1, 1], 0), none, none, some (.putfield 40, 93, [7, 6, 3, 3, 0], 6), none, none, some (.aload_n 0, 94, [], 0), some (.new 44, 97, [6], 0), none],
  [none, some (.dup, 98, [], 0), some (.invokespecial 46, 101, [9, 69, 1, 0, 6, 1, 1], 0), none, none, some (.putfield 47, 104, [7, 7, 7, 3, 0], 7), none, none, some (.return_, 105, [], 0)]]
def ob_c_X7_barrel : List (List (Option ob_Ent)) := [[some (.aload_n 0, 1, [], 0), some (.invokevirtual 51, 4, [9, 114, 1, 0, 7, 1, 0], 0), none, none, some (.aload_n 0, 5, [], 0), some (.aload_n 0, 6, [], 0), some (.getfield 12, 9, [7, 0, 1, 0], 0), none, none, some (.iload_n 1, 10, [], 0), some (.iload_n 2, 11, [], 0), some (.iload_n 3, 12, [], 0), some (.invokevirtual 54, 15, [9, 8, 4, 1, 0, 5, 0], 0), none, none, some (.invokevirtual 58, 18, [9, 115, 2, 1, 7, 2, 0], 0)],
  [none, none, some (.ireturn, 19, [0], 0)]]
def ob_c_X7_sets : List (List (Option ob_Ent)) := [[some (.aload_n 0, 1, [], 0), some (.invokevirtual 51, 4, [9, 114, 1, 0, 7, 1, 0], 0), none, none, some (.aload_n 0, 5, [], 0), some (.aload_n 0, 6, [], 0), some (.getfield 12, 9, [7, 0, 1, 0], 0), none, none, some (.iload_n 1, 10, [], 0), some (.iload_n 2, 11, [], 0), some (.invokevirtual 62, 14, [9, 9, 3, 1, 0, 4, 0], 0), none, none, some (.invokevirtual 58, 17, [9, 115, 2, 1, 7, 2, 0], 0), none],
  [none, some (.ireturn, 18, [0], 0)]]
def ob_c_X7_gap : List (List (Option ob_Ent)) := [[some (.aload_n 0, 1, [], 0), some (.invokevirtual 51, 4, [9, 114, 1, 0, 7, 1, 0], 0), none, none, some (.aload_n 0, 5, [], 0), some (.aload_n 0, 6, [], 0), some (.getfield 12, 9, [7, 0, 1, 0], 0), none, none, some (.iload_n 1, 10, [], 0), some (.iload_n 2, 11, [], 0), some (.invokevirtual 66, 14, [9, 10, 3, 1, 0, 4, 0], 0), none, none, some (.invokevirtual 58, 17, [9, 115, 2, 1, 7, 2, 0], 0), none],
  [none, some (.ireturn, 18, [0], 0)]]
def ob_c_X7_side : List (List (Option ob_Ent)) := [[some (.aload_n 0, 1, [], 0), some (.invokevirtual 51, 4, [9, 114, 1, 0, 7, 1, 0], 0), none, none, some (.aload_n 0, 5, [], 0), some (.aload_n 0, 6, [], 0), some (.getfield 12, 9, [7, 0, 1, 0], 0), none, none, some (.iconst 1, 10, [], 0), some (.iload_n 1, 11, [], 0), some (.invokevirtual 62, 14, [9, 9, 3, 1, 0, 4, 0], 0), none, none, some (.invokevirtual 58, 17, [9, 115, 2, 1, 7, 2, 0], 0), none],
  [none, some (.ireturn, 18, [0], 0)]]
def ob_c_X7_ticks : List (List (Option ob_Ent)) := [[some (.aload_n 0, 1, [], 0), some (.invokevirtual 51, 4, [9, 114, 1, 0, 7, 1, 0], 0), none, none, some (.aload_n 0, 5, [], 0), some (.aload_n 0, 6, [], 0), some (.getfield 12, 9, [7, 0, 1, 0], 0), none, none, some (.iload_n 1, 10, [], 0), some (.iload_n 2, 11, [], 0), some (.invokevirtual 69, 14, [9, 11, 3, 1, 0, 4, 0], 0), none, none, some (.invokevirtual 58, 17, [9, 115, 2, 1, 7, 2, 0], 0), none],
  [none, some (.ireturn, 18, [0], 0)]]
def ob_c_X7_note : List (List (Option ob_Ent)) := [[some (.aload_n 0, 1, [], 0), some (.invokevirtual 51, 4, [9, 114, 1, 0, 7, 1, 0], 0), none, none, some (.aload_n 0, 5, [], 0), some (.aload_n 0, 6, [], 0), some (.getfield 12, 9, [7, 0, 1, 0], 0), none, none, some (.iload_n 1, 10, [], 0), some (.iload_n 2, 11, [], 0), some (.iload_n 3, 12, [], 0), some (.iload 4, 14, [], 0), none, some (.invokevirtual 72, 17, [9, 12, 5, 1, 0, 5, 0], 0), none],
  [none, some (.invokevirtual 58, 20, [9, 115, 2, 1, 7, 2, 0], 0), none, none, some (.ireturn, 21, [0], 0)]]
def ob_c_X7_drop : List (List (Option ob_Ent)) := [[some (.aload_n 0, 1, [], 0), some (.invokevirtual 51, 4, [9, 114, 1, 0, 7, 1, 0], 0), none, none, some (.aload_n 0, 5, [], 0), some (.aload_n 0, 6, [], 0), some (.getfield 12, 9, [7, 0, 1, 0], 0), none, none, some (.iload_n 1, 10, [], 0), some (.iload_n 2, 11, [], 0), some (.invokevirtual 76, 14, [9, 13, 3, 1, 0, 3, 0], 0), none, none, some (.invokevirtual 58, 17, [9, 115, 2, 1, 7, 2, 0], 0), none],
  [none, some (.ireturn, 18, [0], 0)]]
def ob_c_X7_shift : List (List (Option ob_Ent)) := [[some (.aload_n 0, 1, [], 0), some (.invokevirtual 51, 4, [9, 114, 1, 0, 7, 1, 0], 0), none, none, some (.aload_n 0, 5, [], 0), some (.aload_n 0, 6, [], 0), some (.getfield 12, 9, [7, 0, 1, 0], 0), none, none, some (.iload_n 1, 10, [], 0), some (.iload_n 2, 11, [], 0), some (.invokevirtual 79, 14, [9, 14, 3, 1, 0, 4, 0], 0), none, none, some (.invokevirtual 58, 17, [9, 115, 2, 1, 7, 2, 0], 0), none],
  [none, some (.ireturn, 18, [0], 0)]]
def ob_c_X7_tune : List (List (Option ob_Ent)) := [[some (.aload_n 0, 1, [], 0), some (.getfield 12, 4, [7, 0, 1, 0], 0), none, none, some (.iload_n 1, 5, [], 0), some (.invokevirtual 82, 8, [9, 3, 2, 1, 0, 2, 0], 0), none, none, some (.ifCond .eq 13, 11, [21], 0), none, none, some (.iload_n 2, 12, [], 0), some (.iconst 0, 13, [], 0), some (.bipush 7, 15, [], 0), none, some (.invokestatic 86, 18, [9, 128, 3, 1, 7, 3, 0], 0)],
  [none, none, some (.ifCond .ne 10, 21, [28], 0), none, none, some (.aload_n 0, 22, [], 0), some (.bipush (-2), 24, [], 0), none, some (.invokevirtual 90, 27, [9, 116, 2, 1, 7, 2, 0], 0), none, none, some (.ireturn, 28, [0], 0), some (.aload_n 0, 29, [], 0), some (.getfield 12, 32, [7, 0, 1, 0], 0), none, none],
  [some (.iload_n 1, 33, [], 0), some (.iload_n 2, 34, [], 0), some (.invokevirtual 93, 37, [9, 16, 3, 1, 0, 4, 0], 0), none, none, some (.ireturn, 38, [0], 0)]]
def ob_c_X7_noteOf : List (List (Option ob_Ent)) := [[some (.aload_n 0, 1, [], 0), some (.getfield 12, 4, [7, 0, 1, 0], 0), none, none, some (.iload_n 1, 5, [], 0), some (.iload_n 2, 6, [], 0), some (.invokevirtual 96, 9, [9, 5, 3, 1, 0, 3, 0], 0), none, none, some (.ifCond .eq 12, 12, [21], 0), none, none, some (.iload_n 3, 13, [], 0), some (.iconst 0, 14, [], 0), some (.iconst 4, 15, [], 0), some (.invokestatic 86, 18, [9, 128, 3, 1, 7, 3, 0], 0)],
  [none, none, some (.ifCond .ne 10, 21, [28], 0), none, none, some (.aload_n 0, 22, [], 0), some (.bipush (-2), 24, [], 0), none, some (.invokevirtual 90, 27, [9, 116, 2, 1, 7, 2, 0], 0), none, none, some (.ireturn, 28, [0], 0), some (.aload_n 0, 29, [], 0), some (.getfield 12, 32, [7, 0, 1, 0], 0), none, none],
  [some (.iload_n 1, 33, [], 0), some (.iload_n 2, 34, [], 0), some (.iload_n 3, 35, [], 0), some (.invokevirtual 100, 38, [9, 17, 4, 1, 0, 6, 0], 0), none, none, some (.ireturn, 39, [0], 0)]]
def ob_c_X7_pins : List (List (Option ob_Ent)) := [[some (.aload_n 0, 1, [], 0), some (.invokevirtual 51, 4, [9, 114, 1, 0, 7, 1, 0], 0), none, none, some (.aload_n 0, 5, [], 0), some (.aload_n 0, 6, [], 0), some (.getfield 26, 9, [7, 4, 5, 3], 4), none, none, some (.aload_n 0, 10, [], 0), some (.getfield 12, 13, [7, 0, 1, 0], 0), none, none, some (.iload_n 1, 14, [], 0), some (.aload_n 0, 15, [], 0), some (.getfield 40, 18, [7, 6, 3, 3], 6)],
  [none, none, some (.invokevirtual 103, 21, [9, 44, 4, 1, 4, 5, 0], 0), none, none, some (.invokevirtual 58, 24, [9, 115, 2, 1, 7, 2, 0], 0), none, none, some (.ireturn, 25, [0], 0)]]
def ob_c_X7_off : List (List (Option ob_Ent)) := [[some (.aload_n 0, 1, [], 0), some (.invokevirtual 51, 4, [9, 114, 1, 0, 7, 1, 0], 0), none, none, some (.aload_n 0, 5, [], 0), some (.aload_n 0, 6, [], 0), some (.getfield 12, 9, [7, 0, 1, 0], 0), none, none, some (.iload_n 1, 10, [], 0), some (.invokevirtual 107, 13, [9, 15, 2, 1, 0, 2, 0], 0), none, none, some (.invokevirtual 58, 16, [9, 115, 2, 1, 7, 2, 0], 0), none, none],
  [some (.ireturn, 17, [0], 0)]]
def ob_c_X7_fits : List (List (Option ob_Ent)) := [[some (.aload_n 0, 1, [], 0), some (.getfield 12, 4, [7, 0, 1, 0], 0), none, none, some (.iload_n 1, 5, [], 0), some (.invokevirtual 82, 8, [9, 3, 2, 1, 0, 2, 0], 0), none, none, some (.ifCond .ne 10, 11, [18], 0), none, none, some (.aload_n 0, 12, [], 0), some (.bipush (-2), 14, [], 0), none, some (.invokevirtual 90, 17, [9, 116, 2, 1, 7, 2, 0], 0), none],
  [none, some (.ireturn, 18, [0], 0), some (.aload_n 0, 19, [], 0), some (.getfield 26, 22, [7, 4, 5, 3], 4), none, none, some (.aload_n 0, 23, [], 0), some (.getfield 12, 26, [7, 0, 1, 0], 0), none, none, some (.iload_n 1, 27, [], 0), some (.invokevirtual 110, 30, [9, 50, 3, 1, 4, 4, 0], 0), none, none, some (.ireturn, 31, [0], 0)]]
def ob_c_X7_settles : List (List (Option ob_Ent)) := [[some (.aload_n 0, 1, [], 0), some (.invokevirtual 51, 4, [9, 114, 1, 0, 7, 1, 0], 0), none, none, some (.aload_n 0, 5, [], 0), some (.aload_n 0, 6, [], 0), some (.getfield 26, 9, [7, 4, 5, 3], 4), none, none, some (.aload_n 0, 10, [], 0), some (.getfield 12, 13, [7, 0, 1, 0], 0), none, none, some (.aload_n 0, 14, [], 0), some (.getfield 40, 17, [7, 6, 3, 3], 6), none],
  [none, some (.invokevirtual 114, 20, [9, 52, 3, 1, 4, 4, 0], 0), none, none, some (.invokevirtual 58, 23, [9, 115, 2, 1, 7, 2, 0], 0), none, none, some (.ireturn, 24, [0], 0)]]
def ob_c_X7_pin : List (List (Option ob_Ent)) := [[some (.aload_n 0, 1, [], 0), some (.getfield 12, 4, [7, 0, 1, 0], 0), none, none, some (.iload_n 1, 5, [], 0), some (.invokevirtual 82, 8, [9, 3, 2, 1, 0, 2, 0], 0), none, none, some (.ifCond .eq 16, 11, [24], 0), none, none, some (.iload_n 2, 12, [], 0), some (.ifCond .lt 12, 15, [24], 0), none, none, some (.iload_n 3, 16, [], 0)],
  [some (.iconst 0, 17, [], 0), some (.iconst 5, 18, [], 0), some (.invokestatic 86, 21, [9, 128, 3, 1, 7, 3, 0], 0), none, none, some (.ifCond .ne 10, 24, [31], 0), none, none, some (.aload_n 0, 25, [], 0), some (.bipush (-2), 27, [], 0), none, some (.invokevirtual 90, 30, [9, 116, 2, 1, 7, 2, 0], 0), none, none, some (.ireturn, 31, [0], 0), some (.iload_n 2, 32, [], 0)],
  [some (.aload_n 0, 33, [], 0), some (.getfield 12, 36, [7, 0, 1, 0], 0), none, none, some (.getfield 118, 39, [0, 8, 19, 1], 8), none, none, some (.iload_n 1, 40, [], 0), some (.aaload, 41, [], 0), some (.invokevirtual 122, 44, [9, 65, 1, 1, 5, 1, 0], 0), none, none, some (.if_icmp .lt 10, 47, [54], 0), none, none, some (.aload_n 0, 48, [], 0)],
  [some (.bipush (-3), 50, [], 0), none, some (.invokevirtual 90, 53, [9, 116, 2, 1, 7, 2, 0], 0), none, none, some (.ireturn, 54, [0], 0), some (.aload_n 0, 55, [], 0), some (.iload_n 1, 56, [], 0), some (.iload_n 2, 57, [], 0), some (.iload_n 3, 58, [], 0), some (.invokevirtual 128, 61, [9, 119, 4, 1, 7, 5, 0], 0), none, none, some (.ireturn, 62, [0], 0)]]
def ob_c_X7_why : List (List (Option ob_Ent)) := [[some (.iload_n 1, 1, [], 0), some (.iconst 0, 2, [], 0), some (.iconst 3, 3, [], 0), some (.invokestatic 86, 6, [9, 128, 3, 1, 7, 3, 0], 0), none, none, some (.ifCond .ne 13, 9, [19], 0), none, none, some (.aload_n 0, 10, [], 0), some (.bipush (-2), 12, [], 0), none, some (.invokevirtual 90, 15, [9, 116, 2, 1, 7, 2, 0], 0), none, none, some (.pop, 16, [], 0)],
  [some (.bipush (-10), 18, [], 0), none, some (.ireturn, 19, [0], 0), some (.aload_n 0, 20, [], 0), some (.getfield 40, 23, [7, 6, 3, 3], 6), none, none, some (.iload_n 1, 24, [], 0), some (.invokevirtual 131, 27, [9, 36, 2, 1, 2, 2, 0], 0), none, none, some (.ireturn, 28, [0], 0)]]
def ob_c_X7_all : List (List (Option ob_Ent)) := [[some (.iload_n 1, 1, [], 0), some (.iconst 0, 2, [], 0), some (.bipush 6, 4, [], 0), none, some (.invokestatic 86, 7, [9, 128, 3, 1, 7, 3, 0], 0), none, none, some (.ifCond .ne 10, 10, [17], 0), none, none, some (.aload_n 0, 11, [], 0), some (.bipush (-2), 13, [], 0), none, some (.invokevirtual 90, 16, [9, 116, 2, 1, 7, 2, 0], 0), none, none],
  [some (.ireturn, 17, [0], 0), some (.aload_n 0, 18, [], 0), some (.getfield 33, 21, [7, 5, 2, 3], 5), none, none, some (.aload_n 0, 22, [], 0), some (.getfield 12, 25, [7, 0, 1, 0], 0), none, none, some (.invokevirtual 134, 28, [9, 25, 2, 0, 1, 6, 0], 0), none, none, some (.aload_n 0, 29, [], 0), some (.iload_n 1, 30, [], 0), some (.invokevirtual 138, 33, [9, 120, 2, 1, 7, 2, 0], 0), none],
  [none, some (.ireturn, 34, [0], 0)]]
def ob_c_X7_bridge : List (List (Option ob_Ent)) := [[some (.iload_n 1, 1, [], 0), some (.ifCond .lt 12, 4, [13], 0), none, none, some (.iload_n 2, 5, [], 0), some (.iconst 0, 6, [], 0), some (.iconst 5, 7, [], 0), some (.invokestatic 86, 10, [9, 128, 3, 1, 7, 3, 0], 0), none, none, some (.ifCond .ne 10, 13, [20], 0), none, none, some (.aload_n 0, 14, [], 0), some (.bipush (-2), 16, [], 0), none],
  [some (.invokevirtual 90, 19, [9, 116, 2, 1, 7, 2, 0], 0), none, none, some (.ireturn, 20, [0], 0), some (.aload_n 0, 21, [], 0), some (.getfield 33, 24, [7, 5, 2, 3], 5), none, none, some (.aload_n 0, 25, [], 0), some (.getfield 12, 28, [7, 0, 1, 0], 0), none, none, some (.invokevirtual 134, 31, [9, 25, 2, 0, 1, 6, 0], 0), none, none, some (.iload_n 1, 32, [], 0)],
  [some (.aload_n 0, 33, [], 0), some (.getfield 33, 36, [7, 5, 2, 3], 5), none, none, some (.getfield 141, 39, [1, 0, 0, 0], 0), none, none, some (.if_icmp .lt 5, 42, [44], 0), none, none, some (.iconst (-1), 43, [], 0), some (.ireturn, 44, [0], 0), some (.aload_n 0, 45, [], 0), some (.getfield 33, 48, [7, 5, 2, 3], 5), none, none],
  [some (.iload_n 1, 49, [], 0), some (.iload_n 2, 50, [], 0), some (.aload_n 0, 51, [], 0), some (.getfield 12, 54, [7, 0, 1, 0], 0), none, none, some (.getfield 145, 57, [0, 5, 0, 0], 5), none, none, some (.invokevirtual 148, 60, [9, 33, 4, 1, 1, 4, 0], 0), none, none, some (.ireturn, 61, [0], 0)]]
def ob_c_X7_free : List (List (Option ob_Ent)) := [[some (.iload_n 1, 1, [], 0), some (.iconst 0, 2, [], 0), some (.aload_n 0, 3, [], 0), some (.getfield 12, 6, [7, 0, 1, 0], 0), none, none, some (.invokevirtual 150, 9, [9, 6, 1, 1, 0, 1, 0], 0), none, none, some (.iconst 1, 10, [], 0), some (.isub, 11, [], 0), some (.invokestatic 86, 14, [9, 128, 3, 1, 7, 3, 0], 0), none, none, some (.ifCond .ne 10, 17, [24], 0), none],
  [none, some (.aload_n 0, 18, [], 0), some (.bipush (-2), 20, [], 0), none, some (.invokevirtual 90, 23, [9, 116, 2, 1, 7, 2, 0], 0), none, none, some (.ireturn, 24, [0], 0), some (.aload_n 0, 25, [], 0), some (.getfield 12, 28, [7, 0, 1, 0], 0), none, none, some (.iload_n 1, 29, [], 0), some (.invokevirtual 153, 32, [9, 21, 2, 1, 0, 5, 0], 0), none, none],
  [some (.aload_n 0, 33, [], 0), some (.getfield 12, 36, [7, 0, 1, 0], 0), none, none, some (.getfield 156, 39, [0, 0, 0, 0], 0), none, none, some (.invokestatic 159, 42, [9, 132, 2, 1, 7, 5, 0], 0), none, none, some (.ireturn, 43, [0], 0)]]
def ob_c_X7_plays : List (List (Option ob_Ent)) := [[some (.aload_n 0, 1, [], 0), some (.invokevirtual 51, 4, [9, 114, 1, 0, 7, 1, 0], 0), none, none, some (.aload_n 0, 5, [], 0), some (.aload_n 0, 6, [], 0), some (.iload_n 1, 7, [], 0), some (.iload_n 2, 8, [], 0), some (.invokevirtual 162, 11, [9, 121, 3, 1, 7, 6, 0], 0), none, none, some (.invokevirtual 58, 14, [9, 115, 2, 1, 7, 2, 0], 0), none, none, some (.ireturn, 15, [0], 0)]]
def ob_c_X7_mends : List (List (Option ob_Ent)) := [[some (.aload_n 0, 1, [], 0), some (.invokevirtual 51, 4, [9, 114, 1, 0, 7, 1, 0], 0), none, none, some (.aload_n 0, 5, [], 0), some (.aload_n 0, 6, [], 0), some (.iload_n 1, 7, [], 0), some (.invokevirtual 165, 10, [9, 122, 2, 1, 7, 5, 0], 0), none, none, some (.invokevirtual 58, 13, [9, 115, 2, 1, 7, 2, 0], 0), none, none, some (.ireturn, 14, [0], 0)]]
def ob_c_X7_heard : List (List (Option ob_Ent)) := [[some (.aload_n 0, 1, [], 0), some (.getfield 12, 4, [7, 0, 1, 0], 0), none, none, some (.iload_n 1, 5, [], 0), some (.invokevirtual 82, 8, [9, 3, 2, 1, 0, 2, 0], 0), none, none, some (.ifCond .eq 20, 11, [28], 0), none, none, some (.iload_n 2, 12, [], 0), some (.iconst 0, 13, [], 0), some (.aload_n 0, 14, [], 0), some (.getfield 12, 17, [7, 0, 1, 0], 0), none],
  [none, some (.getfield 156, 20, [0, 0, 0, 0], 0), none, none, some (.iconst 1, 21, [], 0), some (.isub, 22, [], 0), some (.invokestatic 86, 25, [9, 128, 3, 1, 7, 3, 0], 0), none, none, some (.ifCond .ne 10, 28, [35], 0), none, none, some (.aload_n 0, 29, [], 0), some (.bipush (-2), 31, [], 0), none, some (.invokevirtual 90, 34, [9, 116, 2, 1, 7, 2, 0], 0)],
  [none, none, some (.ireturn, 35, [0], 0), some (.aload_n 0, 36, [], 0), some (.getfield 12, 39, [7, 0, 1, 0], 0), none, none, some (.getfield 118, 42, [0, 8, 19, 1], 8), none, none, some (.iload_n 1, 43, [], 0), some (.aaload, 44, [], 0), some (.getfield 168, 47, [5, 0, 0, 0], 0), none, none, some (.ifCond .ne 10, 50, [57], 0)],
  [none, none, some (.aload_n 0, 51, [], 0), some (.bipush (-3), 53, [], 0), none, some (.invokevirtual 90, 56, [9, 116, 2, 1, 7, 2, 0], 0), none, none, some (.ireturn, 57, [0], 0), some (.aload_n 0, 58, [], 0), some (.getfield 33, 61, [7, 5, 2, 3], 5), none, none, some (.aload_n 0, 62, [], 0), some (.getfield 12, 65, [7, 0, 1, 0], 0), none],
  [none, some (.invokevirtual 134, 68, [9, 25, 2, 0, 1, 6, 0], 0), none, none, some (.aload_n 0, 69, [], 0), some (.iload_n 1, 70, [], 0), some (.iload_n 2, 71, [], 0), some (.invokevirtual 172, 74, [9, 123, 3, 1, 7, 7, 0], 0), none, none, some (.ireturn, 75, [0], 0)]]
def ob_c_X7_tells : List (List (Option ob_Ent)) := [[some (.aload_n 0, 1, [], 0), some (.getfield 12, 4, [7, 0, 1, 0], 0), none, none, some (.iload_n 1, 5, [], 0), some (.invokevirtual 82, 8, [9, 3, 2, 1, 0, 2, 0], 0), none, none, some (.ifCond .eq 7, 11, [15], 0), none, none, some (.iload_n 2, 12, [], 0), some (.ifCond .ge 10, 15, [22], 0), none, none, some (.aload_n 0, 16, [], 0)],
  [some (.bipush (-2), 18, [], 0), none, some (.invokevirtual 90, 21, [9, 116, 2, 1, 7, 2, 0], 0), none, none, some (.ireturn, 22, [0], 0), some (.aload_n 0, 23, [], 0), some (.getfield 12, 26, [7, 0, 1, 0], 0), none, none, some (.getfield 118, 29, [0, 8, 19, 1], 8), none, none, some (.iload_n 1, 30, [], 0), some (.aaload, 31, [], 0), some (.astore_n 3, 32, [], 0)],
  [some (.aload_n 3, 33, [], 0), some (.getfield 168, 36, [5, 0, 0, 0], 0), none, none, some (.ifCond .eq 14, 39, [50], 0), none, none, some (.iload_n 2, 40, [], 0), some (.aload_n 3, 41, [], 0), some (.getfield 175, 44, [5, 2, 4, 2], 2), none, none, some (.getfield 179, 47, [3, 0, 0, 0], 0), none, none, some (.if_icmp .lt 10, 50, [57], 0)],
  [none, none, some (.aload_n 0, 51, [], 0), some (.bipush (-3), 53, [], 0), none, some (.invokevirtual 90, 56, [9, 116, 2, 1, 7, 2, 0], 0), none, none, some (.ireturn, 57, [0], 0), some (.aload_n 0, 58, [], 0), some (.getfield 33, 61, [7, 5, 2, 3], 5), none, none, some (.aload_n 0, 62, [], 0), some (.getfield 12, 65, [7, 0, 1, 0], 0), none],
  [none, some (.invokevirtual 134, 68, [9, 25, 2, 0, 1, 6, 0], 0), none, none, some (.aload_n 0, 69, [], 0), some (.iload_n 1, 70, [], 0), some (.aload_n 3, 71, [], 0), some (.iload_n 2, 72, [], 0), some (.aload_n 0, 73, [], 0), some (.getfield 12, 76, [7, 0, 1, 0], 0), none, none, some (.getfield 156, 79, [0, 0, 0, 0], 0), none, none, some (.invokevirtual 184, 82, [9, 66, 3, 1, 5, 3, 0], 0)],
  [none, none, some (.invokevirtual 172, 85, [9, 123, 3, 1, 7, 7, 0], 0), none, none, some (.ireturn, 86, [0], 0)]]
def ob_c_X7_wrong : List (List (Option ob_Ent)) := [[some (.aload_n 0, 1, [], 0), some (.getfield 12, 4, [7, 0, 1, 0], 0), none, none, some (.iload_n 1, 5, [], 0), some (.invokevirtual 82, 8, [9, 3, 2, 1, 0, 2, 0], 0), none, none, some (.ifCond .ne 10, 11, [18], 0), none, none, some (.aload_n 0, 12, [], 0), some (.bipush (-2), 14, [], 0), none, some (.invokevirtual 90, 17, [9, 116, 2, 1, 7, 2, 0], 0), none],
  [none, some (.ireturn, 18, [0], 0), some (.aload_n 0, 19, [], 0), some (.getfield 12, 22, [7, 0, 1, 0], 0), none, none, some (.getfield 118, 25, [0, 8, 19, 1], 8), none, none, some (.iload_n 1, 26, [], 0), some (.aaload, 27, [], 0), some (.getfield 168, 30, [5, 0, 0, 0], 0), none, none, some (.ifCond .ne 10, 33, [40], 0), none],
  [none, some (.aload_n 0, 34, [], 0), some (.bipush (-3), 36, [], 0), none, some (.invokevirtual 90, 39, [9, 116, 2, 1, 7, 2, 0], 0), none, none, some (.ireturn, 40, [0], 0), some (.aload_n 0, 41, [], 0), some (.getfield 33, 44, [7, 5, 2, 3], 5), none, none, some (.aload_n 0, 45, [], 0), some (.getfield 12, 48, [7, 0, 1, 0], 0), none, none],
  [some (.invokevirtual 134, 51, [9, 25, 2, 0, 1, 6, 0], 0), none, none, some (.aload_n 0, 52, [], 0), some (.iload_n 1, 53, [], 0), some (.invokevirtual 187, 56, [9, 124, 2, 1, 7, 5, 0], 0), none, none, some (.ireturn, 57, [0], 0)]]
def ob_c_X7_type : List (List (Option ob_Ent)) := [[some (.iload_n 1, 1, [], 0), some (.iconst 0, 2, [], 0), some (.bipush 127, 4, [], 0), none, some (.invokestatic 86, 7, [9, 128, 3, 1, 7, 3, 0], 0), none, none, some (.ifCond .ne 10, 10, [17], 0), none, none, some (.aload_n 0, 11, [], 0), some (.bipush (-2), 13, [], 0), none, some (.invokevirtual 90, 16, [9, 116, 2, 1, 7, 2, 0], 0), none, none],
  [some (.ireturn, 17, [0], 0), some (.aload_n 0, 18, [], 0), some (.getfield 47, 21, [7, 7, 7, 3], 7), none, none, some (.getfield 190, 24, [6, 0, 0, 0], 0), none, none, some (.bipush 120, 26, [], 0), none, some (.if_icmp .lt 10, 29, [36], 0), none, none, some (.aload_n 0, 30, [], 0), some (.bipush (-4), 32, [], 0), none],
  [some (.invokevirtual 90, 35, [9, 116, 2, 1, 7, 2, 0], 0), none, none, some (.ireturn, 36, [0], 0), some (.aload_n 0, 37, [], 0), some (.getfield 47, 40, [7, 7, 7, 3], 7), none, none, some (.iload_n 1, 41, [], 0), some (.invokevirtual 193, 44, [9, 70, 2, 1, 6, 2, 0], 0), none, none, some (.ireturn, 45, [0], 0)]]
def ob_c_X7_clear : List (List (Option ob_Ent)) := [[some (.aload_n 0, 1, [], 0), some (.getfield 47, 4, [7, 7, 7, 3], 7), none, none, some (.getfield 190, 7, [6, 0, 0, 0], 0), none, none, some (.istore_n 1, 8, [], 0), some (.aload_n 0, 9, [], 0), some (.getfield 47, 12, [7, 7, 7, 3], 7), none, none, some (.iconst 0, 13, [], 0), some (.putfield 190, 16, [6, 0, 0, 0, 0], 0), none, none],
  [some (.iload_n 1, 17, [], 0), some (.ireturn, 18, [0], 0)]]
def ob_c_X7_reads : List (List (Option ob_Ent)) := [[some (.aload_n 0, 1, [], 0), some (.getfield 47, 4, [7, 7, 7, 3], 7), none, none, some (.invokevirtual 196, 7, [9, 73, 1, 1, 6, 5, 0], 0), none, none, some (.istore_n 1, 8, [], 0), some (.iload_n 1, 9, [], 0), some (.iconst (-1), 10, [], 0), some (.if_icmp .eq 8, 13, [18], 0), none, none, some (.bipush (-10), 15, [], 0), none, some (.iload_n 1, 16, [], 0)],
  [some (.isub, 17, [], 0), some (.ireturn, 18, [0], 0), some (.aload_n 0, 19, [], 0), some (.invokevirtual 51, 22, [9, 114, 1, 0, 7, 1, 0], 0), none, none, some (.iconst 0, 23, [], 0), some (.istore_n 2, 24, [], 0), some (.iload_n 2, 25, [], 0), some (.aload_n 0, 26, [], 0), some (.getfield 47, 29, [7, 7, 7, 3], 7), none, none, some (.getfield 199, 32, [6, 1, 0, 0], 1), none, none],
  [some (.if_icmp .ge 42, 35, [74], 0), none, none, some (.aload_n 0, 36, [], 0), some (.iload_n 2, 37, [], 0), some (.invokevirtual 202, 40, [9, 125, 2, 1, 7, 4, 0], 0), none, none, some (.istore_n 3, 41, [], 0), some (.iload_n 3, 42, [], 0), some (.ifCond .ge 26, 45, [68], 0), none, none, some (.aload_n 0, 46, [], 0), some (.iload_n 2, 47, [], 0), some (.iload_n 3, 48, [], 0)],
  [some (.invokevirtual 205, 51, [9, 127, 3, 0, 7, 4, 0], 0), none, none, some (.aload_n 0, 52, [], 0), some (.getfield 12, 55, [7, 0, 1, 0], 0), none, none, some (.aload_n 0, 56, [], 0), some (.getfield 16, 59, [7, 1, 1, 0], 1), none, none, some (.invokevirtual 209, 62, [9, 2, 2, 0, 0, 3, 0], 0), none, none, some (.sipush (-1000), 65, [], 0), none],
  [none, some (.iload_n 2, 66, [], 0), some (.isub, 67, [], 0), some (.ireturn, 68, [0], 0), some (.iinc 2 1, 71, [], 0), none, none, some (.goto (-47), 74, [24], 0), none, none, some (.aload_n 0, 75, [], 0), some (.invokevirtual 212, 78, [9, 117, 1, 0, 7, 3, 0], 0), none, none, some (.aload_n 0, 79, [], 0), some (.getfield 47, 82, [7, 7, 7, 3], 7)],
  [none, none, some (.getfield 199, 85, [6, 1, 0, 0], 1), none, none, some (.ireturn, 86, [0], 0)]]
def ob_c_X7_back : List (List (Option ob_Ent)) := [[some (.aload_n 0, 1, [], 0), some (.getfield 215, 4, [7, 3, 0, 0], 3), none, none, some (.iconst 1, 5, [], 0), some (.if_icmp .ge 10, 8, [15], 0), none, none, some (.aload_n 0, 9, [], 0), some (.bipush (-3), 11, [], 0), none, some (.invokevirtual 90, 14, [9, 116, 2, 1, 7, 2, 0], 0), none, none, some (.ireturn, 15, [0], 0), some (.aload_n 0, 16, [], 0)],
  [some (.dup, 17, [], 0), some (.getfield 215, 20, [7, 3, 0, 0], 3), none, none, some (.iconst 1, 21, [], 0), some (.isub, 22, [], 0), some (.putfield 215, 25, [7, 3, 0, 0, 0], 3), none, none, some (.aload_n 0, 26, [], 0), some (.getfield 12, 29, [7, 0, 1, 0], 0), none, none, some (.astore_n 1, 30, [], 0), some (.aload_n 0, 31, [], 0), some (.aload_n 0, 32, [], 0)],
  [some (.getfield 19, 35, [7, 2, 40, 3], 2), none, none, some (.aload_n 0, 36, [], 0), some (.getfield 215, 39, [7, 3, 0, 0], 3), none, none, some (.aaload, 40, [], 0), some (.putfield 12, 43, [7, 0, 1, 0, 0], 0), none, none, some (.aload_n 0, 44, [], 0), some (.getfield 19, 47, [7, 2, 40, 3], 2), none, none, some (.aload_n 0, 48, [], 0)],
  [some (.getfield 215, 51, [7, 3, 0, 0], 3), none, none, some (.aload_n 1, 52, [], 0), some (.aastore, 53, [], 0), some (.aload_n 0, 54, [], 0), some (.getfield 215, 57, [7, 3, 0, 0], 3), none, none, some (.ireturn, 58, [0], 0)]]
def ob_c_X7_told : List (List (Option ob_Ent)) := [[some (.iload_n 1, 1, [], 0), some (.iconst 0, 2, [], 0), some (.bipush 10, 4, [], 0), none, some (.invokestatic 86, 7, [9, 128, 3, 1, 7, 3, 0], 0), none, none, some (.ifCond .ne 10, 10, [17], 0), none, none, some (.aload_n 0, 11, [], 0), some (.bipush (-2), 13, [], 0), none, some (.invokevirtual 90, 16, [9, 116, 2, 1, 7, 2, 0], 0), none, none],
  [some (.ireturn, 17, [0], 0), some (.aload_n 0, 18, [], 0), some (.iload_n 1, 19, [], 0), some (.invokevirtual 218, 22, [9, 118, 2, 1, 7, 2, 0], 0), none, none, some (.ireturn, 23, [0], 0)]]
def ob_c_X7_digest : List (List (Option ob_Ent)) := [[some (.aload_n 0, 1, [], 0), some (.getfield 33, 4, [7, 5, 2, 3], 5), none, none, some (.aload_n 0, 5, [], 0), some (.getfield 12, 8, [7, 0, 1, 0], 0), none, none, some (.invokevirtual 134, 11, [9, 25, 2, 0, 1, 6, 0], 0), none, none, some (.ldc2_w 221, 14, [2243], 2243), none, none, some (.lstore_n 1, 15, [], 0), some (.iconst 0, 16, [], 0)],
  [some (.istore_n 3, 17, [], 0), some (.iload_n 3, 18, [], 0), some (.bipush 10, 20, [], 0), none, some (.if_icmp .gt 22, 23, [42], 0), none, none, some (.ldc2_w 223, 26, [31], 31), none, none, some (.lload_n 1, 27, [], 0), some (.lmul, 28, [], 0), some (.aload_n 0, 29, [], 0), some (.iload_n 3, 30, [], 0), some (.invokevirtual 218, 33, [9, 118, 2, 1, 7, 2, 0], 0), none],
  [none, some (.i2l, 34, [], 0), some (.ladd, 35, [], 0), some (.lstore_n 1, 36, [], 0), some (.iinc 3 1, 39, [], 0), none, none, some (.goto (-22), 42, [17], 0), none, none, some (.iconst 0, 43, [], 0), some (.istore_n 3, 44, [], 0), some (.iload_n 3, 45, [], 0), some (.iconst 3, 46, [], 0), some (.if_icmp .gt 25, 49, [71], 0), none],
  [none, some (.ldc2_w 223, 52, [31], 31), none, none, some (.lload_n 1, 53, [], 0), some (.lmul, 54, [], 0), some (.aload_n 0, 55, [], 0), some (.getfield 40, 58, [7, 6, 3, 3], 6), none, none, some (.iload_n 3, 59, [], 0), some (.invokevirtual 131, 62, [9, 36, 2, 1, 2, 2, 0], 0), none, none, some (.i2l, 63, [], 0), some (.ladd, 64, [], 0)],
  [some (.lstore_n 1, 65, [], 0), some (.iinc 3 1, 68, [], 0), none, none, some (.goto (-24), 71, [44], 0), none, none, some (.iconst 0, 72, [], 0), some (.istore_n 3, 73, [], 0), some (.iload_n 3, 74, [], 0), some (.aload_n 0, 75, [], 0), some (.getfield 12, 78, [7, 0, 1, 0], 0), none, none, some (.getfield 225, 81, [0, 1, 0, 0], 1), none],
  [none, some (.if_icmp .ge 26, 84, [107], 0), none, none, some (.ldc2_w 223, 87, [31], 31), none, none, some (.lload_n 1, 88, [], 0), some (.lmul, 89, [], 0), some (.aload_n 0, 90, [], 0), some (.getfield 12, 93, [7, 0, 1, 0], 0), none, none, some (.getfield 228, 96, [0, 6, 17, 1], 6), none, none],
  [some (.iload_n 3, 97, [], 0), some (.iaload, 98, [], 0), some (.i2l, 99, [], 0), some (.ladd, 100, [], 0), some (.lstore_n 1, 101, [], 0), some (.iinc 3 1, 104, [], 0), none, none, some (.goto (-31), 107, [73], 0), none, none, some (.iconst 0, 108, [], 0), some (.istore_n 3, 109, [], 0), some (.iload_n 3, 110, [], 0), some (.aload_n 0, 111, [], 0), some (.getfield 12, 114, [7, 0, 1, 0], 0)],
  [none, none, some (.getfield 232, 117, [0, 2, 0, 0], 2), none, none, some (.if_icmp .ge 16, 120, [133], 0), none, none, some (.aload_n 0, 121, [], 0), some (.lload_n 1, 122, [], 0), some (.iload_n 3, 123, [], 0), some (.invokevirtual 235, 126, [9, 113, 3, 2, 7, 8, 0], 0), none, none, some (.lstore_n 1, 127, [], 0), some (.iinc 3 1, 130, [], 0)],
  [none, none, some (.goto (-21), 133, [109], 0), none, none, some (.iconst 0, 134, [], 0), some (.istore_n 3, 135, [], 0), some (.iload_n 3, 136, [], 0), some (.bipush 6, 138, [], 0), none, some (.if_icmp .gt 22, 141, [160], 0), none, none, some (.ldc2_w 223, 144, [31], 31), none, none],
  [some (.lload_n 1, 145, [], 0), some (.lmul, 146, [], 0), some (.aload_n 0, 147, [], 0), some (.iload_n 3, 148, [], 0), some (.invokevirtual 138, 151, [9, 120, 2, 1, 7, 2, 0], 0), none, none, some (.i2l, 152, [], 0), some (.ladd, 153, [], 0), some (.lstore_n 1, 154, [], 0), some (.iinc 3 1, 157, [], 0), none, none, some (.goto (-22), 160, [135], 0), none, none],
  [some (.iconst 0, 161, [], 0), some (.istore_n 3, 162, [], 0), some (.iload_n 3, 163, [], 0), some (.aload_n 0, 164, [], 0), some (.getfield 33, 167, [7, 5, 2, 3], 5), none, none, some (.getfield 141, 170, [1, 0, 0, 0], 0), none, none, some (.if_icmp .ge 49, 173, [219], 0), none, none, some (.iconst 0, 174, [], 0), some (.istore 4, 176, [], 0), none],
  [some (.iload 4, 178, [], 0), none, some (.iconst 5, 179, [], 0), some (.if_icmp .gt 34, 182, [213], 0), none, none, some (.ldc2_w 223, 185, [31], 31), none, none, some (.lload_n 1, 186, [], 0), some (.lmul, 187, [], 0), some (.aload_n 0, 188, [], 0), some (.getfield 33, 191, [7, 5, 2, 3], 5), none, none, some (.iload_n 3, 192, [], 0)],
  [some (.iload 4, 194, [], 0), none, some (.aload_n 0, 195, [], 0), some (.getfield 12, 198, [7, 0, 1, 0], 0), none, none, some (.getfield 145, 201, [0, 5, 0, 0], 5), none, none, some (.invokevirtual 148, 204, [9, 33, 4, 1, 1, 4, 0], 0), none, none, some (.i2l, 205, [], 0), some (.ladd, 206, [], 0), some (.lstore_n 1, 207, [], 0), some (.iinc 4 1, 210, [], 0)],
  [none, none, some (.goto (-34), 213, [176], 0), none, none, some (.iinc 3 1, 216, [], 0), none, none, some (.goto (-54), 219, [162], 0), none, none, some (.lload_n 1, 220, [], 0), some (.lreturn, 221, [], 0)]]
def ob_c_X7_digestOfTune : List (List (Option ob_Ent)) := [[some (.lload_n 1, 1, [], 0), some (.lstore 4, 3, [], 0), none, some (.iconst 0, 4, [], 0), some (.istore 6, 6, [], 0), none, some (.iload 6, 8, [], 0), none, some (.bipush 7, 10, [], 0), none, some (.if_icmp .gt 29, 13, [39], 0), none, none, some (.ldc2_w 223, 16, [31], 31), none, none],
  [some (.lload 4, 18, [], 0), none, some (.lmul, 19, [], 0), some (.aload_n 0, 20, [], 0), some (.getfield 12, 23, [7, 0, 1, 0], 0), none, none, some (.iload_n 3, 24, [], 0), some (.iload 6, 26, [], 0), none, some (.invokevirtual 93, 29, [9, 16, 3, 1, 0, 4, 0], 0), none, none, some (.i2l, 30, [], 0), some (.ladd, 31, [], 0), some (.lstore 4, 33, [], 0)],
  [none, some (.iinc 6 1, 36, [], 0), none, none, some (.goto (-30), 39, [6], 0), none, none, some (.iconst 0, 40, [], 0), some (.istore 6, 42, [], 0), none, some (.iload 6, 44, [], 0), none, some (.aload_n 0, 45, [], 0), some (.getfield 12, 48, [7, 0, 1, 0], 0), none, none],
  [some (.getfield 239, 51, [0, 7, 18, 1], 7), none, none, some (.iload_n 3, 52, [], 0), some (.aaload, 53, [], 0), some (.getfield 242, 56, [3, 2, 0, 0], 2), none, none, some (.if_icmp .ge 46, 59, [102], 0), none, none, some (.iconst 0, 60, [], 0), some (.istore 7, 62, [], 0), none, some (.iload 7, 64, [], 0), none],
  [some (.iconst 4, 65, [], 0), some (.if_icmp .gt 31, 68, [96], 0), none, none, some (.ldc2_w 223, 71, [31], 31), none, none, some (.lload 4, 73, [], 0), none, some (.lmul, 74, [], 0), some (.aload_n 0, 75, [], 0), some (.getfield 12, 78, [7, 0, 1, 0], 0), none, none, some (.iload_n 3, 79, [], 0), some (.iload 6, 81, [], 0)],
  [none, some (.iload 7, 83, [], 0), none, some (.invokevirtual 100, 86, [9, 17, 4, 1, 0, 6, 0], 0), none, none, some (.i2l, 87, [], 0), some (.ladd, 88, [], 0), some (.lstore 4, 90, [], 0), none, some (.iinc 7 1, 93, [], 0), none, none, some (.goto (-31), 96, [62], 0), none, none],
  [some (.iinc 6 1, 99, [], 0), none, none, some (.goto (-57), 102, [42], 0), none, none, some (.lload 4, 104, [], 0), none, some (.lreturn, 105, [], 0)]]
def ob_c_X7_remember : List (List (Option ob_Ent)) := [[some (.aload_n 0, 1, [], 0), some (.getfield 16, 4, [7, 1, 1, 0], 1), none, none, some (.aload_n 0, 5, [], 0), some (.getfield 12, 8, [7, 0, 1, 0], 0), none, none, some (.invokevirtual 209, 11, [9, 2, 2, 0, 0, 3, 0], 0), none, none, some (.return_, 12, [], 0)]]
def ob_c_X7_changed : List (List (Option ob_Ent)) := [[some (.iload_n 1, 1, [], 0), some (.ifCond .ge 9, 4, [10], 0), none, none, some (.aload_n 0, 5, [], 0), some (.iload_n 1, 6, [], 0), some (.invokevirtual 90, 9, [9, 116, 2, 1, 7, 2, 0], 0), none, none, some (.ireturn, 10, [0], 0), some (.aload_n 0, 11, [], 0), some (.invokevirtual 212, 14, [9, 117, 1, 0, 7, 3, 0], 0), none, none, some (.iload_n 1, 15, [], 0), some (.ireturn, 16, [0], 0)]]
def ob_c_X7_refused : List (List (Option ob_Ent)) := [[some (.iload_n 1, 1, [], 0), some (.bipush (-2), 3, [], 0), none, some (.if_icmp .ne 16, 6, [19], 0), none, none, some (.aload_n 0, 7, [], 0), some (.dup, 8, [], 0), some (.getfield 243, 11, [7, 8, 0, 0], 8), none, none, some (.iconst 1, 12, [], 0), some (.iadd, 13, [], 0), some (.putfield 243, 16, [7, 8, 0, 0, 0], 8), none, none],
  [some (.goto 32, 19, [48], 0), none, none, some (.iload_n 1, 20, [], 0), some (.bipush (-3), 22, [], 0), none, some (.if_icmp .ne 16, 25, [38], 0), none, none, some (.aload_n 0, 26, [], 0), some (.dup, 27, [], 0), some (.getfield 246, 30, [7, 9, 0, 0], 9), none, none, some (.iconst 1, 31, [], 0), some (.iadd, 32, [], 0)],
  [some (.putfield 246, 35, [7, 9, 0, 0, 0], 9), none, none, some (.goto 13, 38, [48], 0), none, none, some (.aload_n 0, 39, [], 0), some (.dup, 40, [], 0), some (.getfield 249, 43, [7, 10, 0, 0], 10), none, none, some (.iconst 1, 44, [], 0), some (.iadd, 45, [], 0), some (.putfield 249, 48, [7, 10, 0, 0, 0], 10), none, none],
  [some (.iload_n 1, 49, [], 0), some (.ireturn, 50, [0], 0)]]
def ob_c_X7_keepSpare : List (List (Option ob_Ent)) := [[some (.aload_n 0, 1, [], 0), some (.getfield 215, 4, [7, 3, 0, 0], 3), none, none, some (.iconst 5, 5, [], 0), some (.if_icmp .ge 42, 8, [47], 0), none, none, some (.aload_n 0, 9, [], 0), some (.getfield 19, 12, [7, 2, 40, 3], 2), none, none, some (.aload_n 0, 13, [], 0), some (.getfield 215, 16, [7, 3, 0, 0], 3), none, none],
  [some (.aaload, 17, [], 0), some (.astore_n 1, 18, [], 0), some (.aload_n 0, 19, [], 0), some (.getfield 19, 22, [7, 2, 40, 3], 2), none, none, some (.aload_n 0, 23, [], 0), some (.getfield 215, 26, [7, 3, 0, 0], 3), none, none, some (.aload_n 0, 27, [], 0), some (.getfield 16, 30, [7, 1, 1, 0], 1), none, none, some (.aastore, 31, [], 0), some (.aload_n 0, 32, [], 0)],
  [some (.aload_n 1, 33, [], 0), some (.putfield 16, 36, [7, 1, 1, 0, 0], 1), none, none, some (.aload_n 0, 37, [], 0), some (.dup, 38, [], 0), some (.getfield 215, 41, [7, 3, 0, 0], 3), none, none, some (.iconst 1, 42, [], 0), some (.iadd, 43, [], 0), some (.putfield 215, 46, [7, 3, 0, 0, 0], 3), none, none, some (.return_, 47, [], 0), some (.aload_n 0, 48, [], 0)],
  [some (.getfield 19, 51, [7, 2, 40, 3], 2), none, none, some (.iconst 0, 52, [], 0), some (.aaload, 53, [], 0), some (.astore_n 1, 54, [], 0), some (.iconst 1, 55, [], 0), some (.istore_n 2, 56, [], 0), some (.iload_n 2, 57, [], 0), some (.iconst 5, 58, [], 0), some (.if_icmp .ge 23, 61, [81], 0), none, none, some (.aload_n 0, 62, [], 0), some (.getfield 19, 65, [7, 2, 40, 3], 2), none],
  [none, some (.iload_n 2, 66, [], 0), some (.iconst 1, 67, [], 0), some (.isub, 68, [], 0), some (.aload_n 0, 69, [], 0), some (.getfield 19, 72, [7, 2, 40, 3], 2), none, none, some (.iload_n 2, 73, [], 0), some (.aaload, 74, [], 0), some (.aastore, 75, [], 0), some (.iinc 2 1, 78, [], 0), none, none, some (.goto (-22), 81, [56], 0), none],
  [none, some (.aload_n 0, 82, [], 0), some (.getfield 19, 85, [7, 2, 40, 3], 2), none, none, some (.iconst 4, 86, [], 0), some (.aload_n 0, 87, [], 0), some (.getfield 16, 90, [7, 1, 1, 0], 1), none, none, some (.aastore, 91, [], 0), some (.aload_n 0, 92, [], 0), some (.aload_n 1, 93, [], 0), some (.putfield 16, 96, [7, 1, 1, 0, 0], 1), none, none],
  [some (.return_, 97, [], 0)]]
def ob_c_X7_toldValue : List (List (Option ob_Ent)) := [[some (.iload_n 1, 1, [], 0), some (.tableswitch 126 0 9 #[55, 60, 65, 70, 78, 86, 94, 102, 110, 118], 56, [127, 56, 61, 66, 71, 79, 87, 95, 103, 111, 119], 0), none, none, none, none, none, none, none, none, none, none, none, none, none, none],
  [none, none, none, none, none, none, none, none, none, none, none, none, none, none, none, none],
  [none, none, none, none, none, none, none, none, none, none, none, none, none, none, none, none],
  [none, none, none, none, none, none, none, none, some (.aload_n 0, 57, [], 0), some (.getfield 243, 60, [7, 8, 0, 0], 8), none, none, some (.ireturn, 61, [0], 0), some (.aload_n 0, 62, [], 0), some (.getfield 246, 65, [7, 9, 0, 0], 9), none],
  [none, some (.ireturn, 66, [0], 0), some (.aload_n 0, 67, [], 0), some (.getfield 249, 70, [7, 10, 0, 0], 10), none, none, some (.ireturn, 71, [0], 0), some (.aload_n 0, 72, [], 0), some (.getfield 47, 75, [7, 7, 7, 3], 7), none, none, some (.getfield 190, 78, [6, 0, 0, 0], 0), none, none, some (.ireturn, 79, [0], 0), some (.aload_n 0, 80, [], 0)],
  [some (.getfield 12, 83, [7, 0, 1, 0], 0), none, none, some (.getfield 156, 86, [0, 0, 0, 0], 0), none, none, some (.ireturn, 87, [0], 0), some (.aload_n 0, 88, [], 0), some (.getfield 12, 91, [7, 0, 1, 0], 0), none, none, some (.getfield 225, 94, [0, 1, 0, 0], 1), none, none, some (.ireturn, 95, [0], 0), some (.aload_n 0, 96, [], 0)],
  [some (.getfield 12, 99, [7, 0, 1, 0], 0), none, none, some (.getfield 232, 102, [0, 2, 0, 0], 2), none, none, some (.ireturn, 103, [0], 0), some (.aload_n 0, 104, [], 0), some (.getfield 12, 107, [7, 0, 1, 0], 0), none, none, some (.getfield 252, 110, [0, 3, 0, 0], 3), none, none, some (.ireturn, 111, [0], 0), some (.aload_n 0, 112, [], 0)],
  [some (.getfield 12, 115, [7, 0, 1, 0], 0), none, none, some (.getfield 255, 118, [0, 4, 0, 0], 4), none, none, some (.ireturn, 119, [0], 0), some (.aload_n 0, 120, [], 0), some (.getfield 12, 123, [7, 0, 1, 0], 0), none, none, some (.getfield 145, 126, [0, 5, 0, 0], 5), none, none, some (.ireturn, 127, [0], 0), some (.aload_n 0, 128, [], 0)],
  [some (.getfield 215, 131, [7, 3, 0, 0], 3), none, none, some (.ireturn, 132, [0], 0)]]
def ob_c_X7_pinValue : List (List (Option ob_Ent)) := [[some (.aload_n 0, 1, [], 0), some (.getfield 12, 4, [7, 0, 1, 0], 0), none, none, some (.getfield 118, 7, [0, 8, 19, 1], 8), none, none, some (.iload_n 1, 8, [], 0), some (.aaload, 9, [], 0), some (.astore 4, 11, [], 0), none, some (.iload_n 3, 12, [], 0), some (.tableswitch 92 0 4 #[36, 47, 55, 63, 71], 48, [104, 48, 59, 67, 75, 83], 0), none, none, none],
  [none, none, none, none, none, none, none, none, none, none, none, none, none, none, none, none],
  [none, none, none, none, none, none, none, none, none, none, none, none, none, none, none, none],
  [some (.aload 4, 50, [], 0), none, some (.getfield 175, 53, [5, 2, 4, 2], 2), none, none, some (.getfield 258, 56, [3, 3, 27, 1], 3), none, none, some (.iload_n 2, 57, [], 0), some (.iaload, 58, [], 0), some (.ireturn, 59, [0], 0), some (.aload 4, 61, [], 0), none, some (.getfield 261, 64, [5, 3, 33, 1], 3), none, none],
  [some (.iload_n 2, 65, [], 0), some (.iaload, 66, [], 0), some (.ireturn, 67, [0], 0), some (.aload 4, 69, [], 0), none, some (.getfield 264, 72, [5, 4, 34, 1], 4), none, none, some (.iload_n 2, 73, [], 0), some (.iaload, 74, [], 0), some (.ireturn, 75, [0], 0), some (.aload 4, 77, [], 0), none, some (.getfield 267, 80, [5, 5, 35, 1], 5), none, none],
  [some (.iload_n 2, 81, [], 0), some (.iaload, 82, [], 0), some (.ireturn, 83, [0], 0), some (.aload_n 0, 84, [], 0), some (.getfield 33, 87, [7, 5, 2, 3], 5), none, none, some (.aload_n 0, 88, [], 0), some (.getfield 12, 91, [7, 0, 1, 0], 0), none, none, some (.invokevirtual 134, 94, [9, 25, 2, 0, 1, 6, 0], 0), none, none, some (.aload_n 0, 95, [], 0), some (.getfield 33, 98, [7, 5, 2, 3], 5)],
  [none, none, some (.iload_n 1, 99, [], 0), some (.iload_n 2, 100, [], 0), some (.invokevirtual 270, 103, [9, 28, 3, 1, 1, 3, 0], 0), none, none, some (.ireturn, 104, [0], 0), some (.aload 4, 106, [], 0), none, some (.iload_n 2, 107, [], 0), some (.aload_n 0, 108, [], 0), some (.getfield 12, 111, [7, 0, 1, 0], 0), none, none, some (.getfield 156, 114, [0, 0, 0, 0], 0)],
  [none, none, some (.invokevirtual 273, 117, [9, 67, 3, 1, 5, 5, 0], 0), none, none, some (.ireturn, 118, [0], 0)]]
def ob_c_X7_allValue : List (List (Option ob_Ent)) := [[some (.iload_n 1, 1, [], 0), some (.tableswitch 94 0 5 #[39, 47, 55, 63, 71, 86], 40, [95, 40, 48, 56, 64, 72, 87], 0), none, none, none, none, none, none, none, none, none, none, none, none, none, none],
  [none, none, none, none, none, none, none, none, none, none, none, none, none, none, none, none],
  [none, none, none, none, none, none, none, none, some (.aload_n 0, 41, [], 0), some (.getfield 12, 44, [7, 0, 1, 0], 0), none, none, some (.invokevirtual 276, 47, [9, 18, 1, 1, 0, 3, 0], 0), none, none, some (.ireturn, 48, [0], 0)],
  [some (.aload_n 0, 49, [], 0), some (.getfield 12, 52, [7, 0, 1, 0], 0), none, none, some (.invokevirtual 279, 55, [9, 19, 1, 1, 0, 3, 0], 0), none, none, some (.ireturn, 56, [0], 0), some (.aload_n 0, 57, [], 0), some (.getfield 33, 60, [7, 5, 2, 3], 5), none, none, some (.getfield 141, 63, [1, 0, 0, 0], 0), none, none, some (.ireturn, 64, [0], 0)],
  [some (.aload_n 0, 65, [], 0), some (.getfield 33, 68, [7, 5, 2, 3], 5), none, none, some (.invokevirtual 282, 71, [9, 30, 1, 1, 1, 3, 0], 0), none, none, some (.ireturn, 72, [0], 0), some (.aload_n 0, 73, [], 0), some (.getfield 33, 76, [7, 5, 2, 3], 5), none, none, some (.aload_n 0, 77, [], 0), some (.getfield 12, 80, [7, 0, 1, 0], 0), none, none],
  [some (.getfield 145, 83, [0, 5, 0, 0], 5), none, none, some (.invokevirtual 285, 86, [9, 31, 2, 1, 1, 4, 0], 0), none, none, some (.ireturn, 87, [0], 0), some (.aload_n 0, 88, [], 0), some (.getfield 12, 91, [7, 0, 1, 0], 0), none, none, some (.invokevirtual 288, 94, [9, 20, 1, 1, 0, 3, 0], 0), none, none, some (.ireturn, 95, [0], 0), some (.aload_n 0, 96, [], 0)],
  [some (.getfield 12, 99, [7, 0, 1, 0], 0), none, none, some (.invokevirtual 291, 102, [9, 22, 1, 1, 0, 4, 0], 0), none, none, some (.aload_n 0, 103, [], 0), some (.getfield 12, 106, [7, 0, 1, 0], 0), none, none, some (.getfield 156, 109, [0, 0, 0, 0], 0), none, none, some (.invokestatic 159, 112, [9, 132, 2, 1, 7, 5, 0], 0), none, none],
  [some (.ireturn, 113, [0], 0)]]
def ob_c_X7_goRound : List (List (Option ob_Ent)) := [[some (.aload_n 0, 1, [], 0), some (.getfield 12, 4, [7, 0, 1, 0], 0), none, none, some (.iload_n 1, 5, [], 0), some (.invokevirtual 82, 8, [9, 3, 2, 1, 0, 2, 0], 0), none, none, some (.ifCond .eq 13, 11, [21], 0), none, none, some (.iload_n 2, 12, [], 0), some (.iconst 1, 13, [], 0), some (.bipush 50, 15, [], 0), none, some (.invokestatic 86, 18, [9, 128, 3, 1, 7, 3, 0], 0)],
  [none, none, some (.ifCond .ne 6, 21, [24], 0), none, none, some (.bipush (-2), 23, [], 0), none, some (.ireturn, 24, [0], 0), some (.aload_n 0, 25, [], 0), some (.getfield 12, 28, [7, 0, 1, 0], 0), none, none, some (.getfield 118, 31, [0, 8, 19, 1], 8), none, none, some (.iload_n 1, 32, [], 0)],
  [some (.aaload, 33, [], 0), some (.astore_n 3, 34, [], 0), some (.aload_n 3, 35, [], 0), some (.getfield 168, 38, [5, 0, 0, 0], 0), none, none, some (.ifCond .ne 6, 41, [44], 0), none, none, some (.bipush (-3), 43, [], 0), none, some (.ireturn, 44, [0], 0), some (.iconst 0, 45, [], 0), some (.istore 4, 47, [], 0), none, some (.iload 4, 49, [], 0)],
  [none, some (.aload_n 3, 50, [], 0), some (.getfield 175, 53, [5, 2, 4, 2], 2), none, none, some (.getfield 242, 56, [3, 2, 0, 0], 2), none, none, some (.if_icmp .ge 20, 59, [76], 0), none, none, some (.aload_n 3, 60, [], 0), some (.getfield 267, 63, [5, 5, 35, 1], 5), none, none, some (.iload 4, 65, [], 0)],
  [none, some (.dup2, 66, [], 0), some (.iaload, 67, [], 0), some (.iload_n 2, 68, [], 0), some (.iadd, 69, [], 0), some (.iastore, 70, [], 0), some (.iinc 4 1, 73, [], 0), none, none, some (.goto (-26), 76, [47], 0), none, none, some (.aload_n 0, 77, [], 0), some (.getfield 33, 80, [7, 5, 2, 3], 5), none, none],
  [some (.aload_n 0, 81, [], 0), some (.getfield 12, 84, [7, 0, 1, 0], 0), none, none, some (.invokevirtual 134, 87, [9, 25, 2, 0, 1, 6, 0], 0), none, none, some (.iconst 0, 88, [], 0), some (.istore 4, 90, [], 0), none, some (.iconst 0, 91, [], 0), some (.istore 5, 93, [], 0), none, some (.iload 5, 95, [], 0), none, some (.aload_n 0, 96, [], 0)],
  [some (.getfield 33, 99, [7, 5, 2, 3], 5), none, none, some (.getfield 141, 102, [1, 0, 0, 0], 0), none, none, some (.if_icmp .ge 52, 105, [154], 0), none, none, some (.aload_n 0, 106, [], 0), some (.getfield 33, 109, [7, 5, 2, 3], 5), none, none, some (.getfield 294, 112, [1, 1, 20, 3], 1), none, none],
  [some (.iload 5, 114, [], 0), none, some (.iaload, 115, [], 0), some (.aload_n 0, 116, [], 0), some (.getfield 12, 119, [7, 0, 1, 0], 0), none, none, some (.getfield 145, 122, [0, 5, 0, 0], 5), none, none, some (.if_icmp .lt 26, 125, [148], 0), none, none, some (.aload_n 0, 126, [], 0), some (.getfield 33, 129, [7, 5, 2, 3], 5), none],
  [none, some (.iload 5, 131, [], 0), none, some (.iload_n 1, 132, [], 0), some (.aload_n 3, 133, [], 0), some (.getfield 175, 136, [5, 2, 4, 2], 2), none, none, some (.getfield 242, 139, [3, 2, 0, 0], 2), none, none, some (.invokevirtual 295, 142, [9, 29, 4, 1, 1, 5, 0], 0), none, none, some (.ifCond .eq 6, 145, [148], 0), none],
  [none, some (.iinc 4 1, 148, [], 0), none, none, some (.iinc 5 1, 151, [], 0), none, none, some (.goto (-58), 154, [93], 0), none, none, some (.iload 4, 156, [], 0), none, some (.ireturn, 157, [0], 0)]]
def ob_c_X7_mendBridge : List (List (Option ob_Ent)) := [[some (.iload_n 1, 1, [], 0), some (.ifCond .ge 6, 4, [7], 0), none, none, some (.bipush (-2), 6, [], 0), none, some (.ireturn, 7, [0], 0), some (.aload_n 0, 8, [], 0), some (.getfield 33, 11, [7, 5, 2, 3], 5), none, none, some (.aload_n 0, 12, [], 0), some (.getfield 12, 15, [7, 0, 1, 0], 0), none, none, some (.invokevirtual 134, 18, [9, 25, 2, 0, 1, 6, 0], 0)],
  [none, none, some (.iload_n 1, 19, [], 0), some (.aload_n 0, 20, [], 0), some (.getfield 33, 23, [7, 5, 2, 3], 5), none, none, some (.getfield 141, 26, [1, 0, 0, 0], 0), none, none, some (.if_icmp .lt 6, 29, [32], 0), none, none, some (.bipush (-3), 31, [], 0), none, some (.ireturn, 32, [0], 0)],
  [some (.iconst 0, 33, [], 0), some (.istore_n 2, 34, [], 0), some (.iload_n 2, 35, [], 0), some (.aload_n 0, 36, [], 0), some (.getfield 12, 39, [7, 0, 1, 0], 0), none, none, some (.getfield 232, 42, [0, 2, 0, 0], 2), none, none, some (.if_icmp .ge 59, 45, [101], 0), none, none, some (.aload_n 0, 46, [], 0), some (.getfield 12, 49, [7, 0, 1, 0], 0), none],
  [none, some (.getfield 118, 52, [0, 8, 19, 1], 8), none, none, some (.iload_n 2, 53, [], 0), some (.aaload, 54, [], 0), some (.astore_n 3, 55, [], 0), some (.iconst 0, 56, [], 0), some (.istore 4, 58, [], 0), none, some (.iload 4, 60, [], 0), none, some (.aload_n 3, 61, [], 0), some (.invokevirtual 122, 64, [9, 65, 1, 1, 5, 1, 0], 0), none, none],
  [some (.if_icmp .ge 31, 67, [95], 0), none, none, some (.aload_n 0, 68, [], 0), some (.getfield 33, 71, [7, 5, 2, 3], 5), none, none, some (.iload_n 2, 72, [], 0), some (.iload 4, 74, [], 0), none, some (.invokevirtual 270, 77, [9, 28, 3, 1, 1, 3, 0], 0), none, none, some (.iload_n 1, 78, [], 0), some (.if_icmp .ne 11, 81, [89], 0), none],
  [none, some (.aload_n 3, 82, [], 0), some (.getfield 267, 85, [5, 5, 35, 1], 5), none, none, some (.iload 4, 87, [], 0), none, some (.iconst 0, 88, [], 0), some (.iastore, 89, [], 0), some (.iinc 4 1, 92, [], 0), none, none, some (.goto (-34), 95, [58], 0), none, none, some (.iinc 2 1, 98, [], 0)],
  [none, none, some (.goto (-64), 101, [34], 0), none, none, some (.aload_n 0, 102, [], 0), some (.getfield 33, 105, [7, 5, 2, 3], 5), none, none, some (.getfield 294, 108, [1, 1, 20, 3], 1), none, none, some (.iload_n 1, 109, [], 0), some (.iaload, 110, [], 0), some (.ireturn, 111, [0], 0)]]
def ob_c_X7_keysHeard : List (List (Option ob_Ent)) := [[some (.aload_n 0, 1, [], 0), some (.getfield 12, 4, [7, 0, 1, 0], 0), none, none, some (.getfield 118, 7, [0, 8, 19, 1], 8), none, none, some (.iload_n 1, 8, [], 0), some (.aaload, 9, [], 0), some (.astore_n 3, 10, [], 0), some (.iconst 0, 11, [], 0), some (.istore 4, 13, [], 0), none, some (.iconst 0, 14, [], 0), some (.istore 5, 16, [], 0), none],
  [some (.iload 5, 18, [], 0), none, some (.aload_n 3, 19, [], 0), some (.invokevirtual 122, 22, [9, 65, 1, 1, 5, 1, 0], 0), none, none, some (.if_icmp .ge 83, 25, [105], 0), none, none, some (.aload_n 0, 26, [], 0), some (.getfield 33, 29, [7, 5, 2, 3], 5), none, none, some (.aload_n 0, 30, [], 0), some (.getfield 33, 33, [7, 5, 2, 3], 5), none],
  [none, some (.iload_n 1, 34, [], 0), some (.iload 5, 36, [], 0), none, some (.invokevirtual 270, 39, [9, 28, 3, 1, 1, 3, 0], 0), none, none, some (.aload_n 0, 40, [], 0), some (.getfield 12, 43, [7, 0, 1, 0], 0), none, none, some (.getfield 145, 46, [0, 5, 0, 0], 5), none, none, some (.invokevirtual 298, 49, [9, 32, 3, 1, 1, 3, 0], 0), none],
  [none, some (.istore 6, 51, [], 0), none, some (.aload_n 3, 52, [], 0), some (.getfield 261, 55, [5, 3, 33, 1], 3), none, none, some (.iload 5, 57, [], 0), none, some (.iaload, 58, [], 0), some (.iload_n 2, 59, [], 0), some (.aload_n 0, 60, [], 0), some (.getfield 12, 63, [7, 0, 1, 0], 0), none, none, some (.getfield 156, 66, [0, 0, 0, 0], 0)],
  [none, none, some (.invokestatic 301, 69, [9, 131, 3, 1, 7, 3, 0], 0), none, none, some (.aload_n 3, 70, [], 0), some (.getfield 264, 73, [5, 4, 34, 1], 4), none, none, some (.iload 5, 75, [], 0), none, some (.iaload, 76, [], 0), some (.iload 6, 78, [], 0), none, some (.isub, 79, [], 0), some (.if_icmp .ge 20, 82, [99], 0)],
  [none, none, some (.iload 4, 84, [], 0), none, some (.iconst 1, 85, [], 0), some (.aload_n 3, 86, [], 0), some (.getfield 175, 89, [5, 2, 4, 2], 2), none, none, some (.getfield 258, 92, [3, 3, 27, 1], 3), none, none, some (.iload 5, 94, [], 0), none, some (.iaload, 95, [], 0), some (.ishl, 96, [], 0)],
  [some (.ior, 97, [], 0), some (.istore 4, 99, [], 0), none, some (.iinc 5 1, 102, [], 0), none, none, some (.goto (-86), 105, [16], 0), none, none, some (.iload 4, 107, [], 0), none, some (.ireturn, 108, [0], 0)]]
def ob_c_X7_wrongTicks : List (List (Option ob_Ent)) := [[some (.aload_n 0, 1, [], 0), some (.getfield 12, 4, [7, 0, 1, 0], 0), none, none, some (.getfield 118, 7, [0, 8, 19, 1], 8), none, none, some (.iload_n 1, 8, [], 0), some (.aaload, 9, [], 0), some (.astore_n 2, 10, [], 0), some (.iconst 0, 11, [], 0), some (.istore_n 3, 12, [], 0), some (.iconst 0, 13, [], 0), some (.istore 4, 15, [], 0), none, some (.iload 4, 17, [], 0)],
  [none, some (.aload_n 2, 18, [], 0), some (.getfield 175, 21, [5, 2, 4, 2], 2), none, none, some (.getfield 179, 24, [3, 0, 0, 0], 0), none, none, some (.if_icmp .ge 42, 27, [66], 0), none, none, some (.aload_n 0, 28, [], 0), some (.iload_n 1, 29, [], 0), some (.aload_n 2, 30, [], 0), some (.iload 4, 32, [], 0), none],
  [some (.aload_n 0, 33, [], 0), some (.getfield 12, 36, [7, 0, 1, 0], 0), none, none, some (.getfield 156, 39, [0, 0, 0, 0], 0), none, none, some (.invokevirtual 184, 42, [9, 66, 3, 1, 5, 3, 0], 0), none, none, some (.invokevirtual 172, 45, [9, 123, 3, 1, 7, 7, 0], 0), none, none, some (.aload_n 2, 46, [], 0), some (.getfield 175, 49, [5, 2, 4, 2], 2), none],
  [none, some (.iload 4, 51, [], 0), none, some (.invokevirtual 304, 54, [9, 42, 2, 1, 3, 4, 0], 0), none, none, some (.if_icmp .eq 6, 57, [60], 0), none, none, some (.iinc 3 1, 60, [], 0), none, none, some (.iinc 4 1, 63, [], 0), none, none, some (.goto (-48), 66, [15], 0)],
  [none, none, some (.iload_n 3, 67, [], 0), some (.ireturn, 68, [0], 0)]]
def ob_c_X7_obey : List (List (Option ob_Ent)) := [[some (.aload_n 0, 1, [], 0), some (.getfield 47, 4, [7, 7, 7, 3], 7), none, none, some (.iload_n 1, 5, [], 0), some (.iconst 0, 6, [], 0), some (.invokevirtual 307, 9, [9, 72, 3, 1, 6, 3, 0], 0), none, none, some (.istore_n 2, 10, [], 0), some (.aload_n 0, 11, [], 0), some (.getfield 47, 14, [7, 7, 7, 3], 7), none, none, some (.iload_n 1, 15, [], 0), some (.iconst 1, 16, [], 0)],
  [some (.invokevirtual 307, 19, [9, 72, 3, 1, 6, 3, 0], 0), none, none, some (.istore_n 3, 20, [], 0), some (.aload_n 0, 21, [], 0), some (.getfield 47, 24, [7, 7, 7, 3], 7), none, none, some (.getfield 310, 27, [6, 2, 36, 3], 2), none, none, some (.iload_n 1, 28, [], 0), some (.iaload, 29, [], 0), some (.tableswitch 125 103 116 #[115, 79, 125, 125, 125, 125, 125, 125, 106, 89, 125, 125, 125, 71], 100, [154, 144, 108, 154, 154, 154, 154, 154, 154, 135, 118, 154, 154, 154, 100], 0), none, none],
  [none, none, none, none, none, none, none, none, none, none, none, none, none, none, none, none],
  [none, none, none, none, none, none, none, none, none, none, none, none, none, none, none, none],
  [none, none, none, none, none, none, none, none, none, none, none, none, none, none, none, none],
  [none, none, none, none, none, none, none, none, none, none, none, none, none, none, none, none],
  [none, none, none, none, some (.aload_n 0, 101, [], 0), some (.iload_n 1, 102, [], 0), some (.iload_n 2, 103, [], 0), some (.iload_n 3, 104, [], 0), some (.invokevirtual 313, 107, [9, 126, 4, 1, 7, 7, 0], 0), none, none, some (.ireturn, 108, [0], 0), some (.aload_n 0, 109, [], 0), some (.getfield 12, 112, [7, 0, 1, 0], 0), none, none],
  [some (.iload_n 2, 113, [], 0), some (.iload_n 3, 114, [], 0), some (.invokevirtual 79, 117, [9, 14, 3, 1, 0, 4, 0], 0), none, none, some (.ireturn, 118, [0], 0), some (.aload_n 0, 119, [], 0), some (.getfield 26, 122, [7, 4, 5, 3], 4), none, none, some (.aload_n 0, 123, [], 0), some (.getfield 12, 126, [7, 0, 1, 0], 0), none, none, some (.iload_n 2, 127, [], 0), some (.aload_n 0, 128, [], 0)],
  [some (.getfield 40, 131, [7, 6, 3, 3], 6), none, none, some (.invokevirtual 103, 134, [9, 44, 4, 1, 4, 5, 0], 0), none, none, some (.ireturn, 135, [0], 0), some (.aload_n 0, 136, [], 0), some (.getfield 12, 139, [7, 0, 1, 0], 0), none, none, some (.iload_n 2, 140, [], 0), some (.invokevirtual 107, 143, [9, 15, 2, 1, 0, 2, 0], 0), none, none, some (.ireturn, 144, [0], 0)],
  [some (.aload_n 0, 145, [], 0), some (.getfield 12, 148, [7, 0, 1, 0], 0), none, none, some (.iload_n 2, 149, [], 0), some (.iload_n 3, 150, [], 0), some (.invokevirtual 66, 153, [9, 10, 3, 1, 0, 4, 0], 0), none, none, some (.ireturn, 154, [0], 0), some (.aload_n 0, 155, [], 0), some (.getfield 12, 158, [7, 0, 1, 0], 0), none, none, some (.iconst 1, 159, [], 0), some (.iload_n 2, 160, [], 0)],
  [some (.invokevirtual 62, 163, [9, 9, 3, 1, 0, 4, 0], 0), none, none, some (.ireturn, 164, [0], 0)]]
def ob_c_X7_obeyTicks : List (List (Option ob_Ent)) := [[some (.aload_n 0, 1, [], 0), some (.getfield 12, 4, [7, 0, 1, 0], 0), none, none, some (.iload_n 2, 5, [], 0), some (.iload_n 3, 6, [], 0), some (.invokevirtual 69, 9, [9, 11, 3, 1, 0, 4, 0], 0), none, none, some (.istore 4, 11, [], 0), none, some (.aload_n 0, 12, [], 0), some (.getfield 47, 15, [7, 7, 7, 3], 7), none, none, some (.iload_n 1, 16, [], 0)],
  [some (.invokevirtual 316, 19, [9, 71, 2, 1, 6, 2, 0], 0), none, none, some (.istore 5, 21, [], 0), none, some (.iconst 2, 22, [], 0), some (.istore 6, 24, [], 0), none, some (.iload 6, 26, [], 0), none, some (.iconst 2, 27, [], 0), some (.iadd, 28, [], 0), some (.iload 5, 30, [], 0), none, some (.if_icmp .ge 58, 33, [88], 0), none],
  [none, some (.iload 4, 35, [], 0), none, some (.ifCond .lt 53, 38, [88], 0), none, none, some (.aload_n 0, 39, [], 0), some (.getfield 12, 42, [7, 0, 1, 0], 0), none, none, some (.iload_n 2, 43, [], 0), some (.aload_n 0, 44, [], 0), some (.getfield 47, 47, [7, 7, 7, 3], 7), none, none, some (.iload_n 1, 48, [], 0)],
  [some (.iload 6, 50, [], 0), none, some (.invokevirtual 307, 53, [9, 72, 3, 1, 6, 3, 0], 0), none, none, some (.aload_n 0, 54, [], 0), some (.getfield 47, 57, [7, 7, 7, 3], 7), none, none, some (.iload_n 1, 58, [], 0), some (.iload 6, 60, [], 0), none, some (.iconst 1, 61, [], 0), some (.iadd, 62, [], 0), some (.invokevirtual 307, 65, [9, 72, 3, 1, 6, 3, 0], 0), none],
  [none, some (.aload_n 0, 66, [], 0), some (.getfield 47, 69, [7, 7, 7, 3], 7), none, none, some (.iload_n 1, 70, [], 0), some (.iload 6, 72, [], 0), none, some (.iconst 2, 73, [], 0), some (.iadd, 74, [], 0), some (.invokevirtual 307, 77, [9, 72, 3, 1, 6, 3, 0], 0), none, none, some (.invokevirtual 72, 80, [9, 12, 5, 1, 0, 5, 0], 0), none, none],
  [some (.istore 4, 82, [], 0), none, some (.iinc 6 3, 85, [], 0), none, none, some (.goto (-61), 88, [24], 0), none, none, some (.iload 4, 90, [], 0), none, some (.ireturn, 91, [0], 0)]]
def ob_c_X7_blame : List (List (Option ob_Ent)) := [[some (.iload_n 2, 1, [], 0), some (.bipush (-3), 3, [], 0), none, some (.if_icmp .ne 21, 6, [24], 0), none, none, some (.aload_n 0, 7, [], 0), some (.getfield 47, 10, [7, 7, 7, 3], 7), none, none, some (.getfield 310, 13, [6, 2, 36, 3], 2), none, none, some (.iload_n 1, 14, [], 0), some (.iaload, 15, [], 0), some (.bipush 112, 17, [], 0)],
  [none, some (.if_icmp .ne 7, 20, [24], 0), none, none, some (.iconst 1, 21, [], 0), some (.goto 4, 24, [25], 0), none, none, some (.iconst 0, 25, [], 0), some (.istore_n 3, 26, [], 0), some (.iload_n 3, 27, [], 0), some (.ifCond .ne 35, 30, [62], 0), none, none, some (.aload_n 0, 31, [], 0), some (.getfield 40, 34, [7, 6, 3, 3], 6)],
  [none, none, some (.iload_n 2, 35, [], 0), some (.bipush (-2), 37, [], 0), none, some (.if_icmp .ne 7, 40, [44], 0), none, none, some (.iconst 5, 41, [], 0), some (.goto 16, 44, [57], 0), none, none, some (.iload_n 2, 45, [], 0), some (.bipush (-3), 47, [], 0), none, some (.if_icmp .ne 8, 50, [55], 0)],
  [none, none, some (.bipush 6, 52, [], 0), none, some (.goto 5, 55, [57], 0), none, none, some (.bipush 7, 57, [], 0), none, some (.iconst 0, 58, [], 0), some (.iconst 0, 59, [], 0), some (.invokevirtual 319, 62, [9, 35, 4, 0, 2, 4, 0], 0), none, none, some (.aload_n 0, 63, [], 0), some (.getfield 40, 66, [7, 6, 3, 3], 6)],
  [none, none, some (.iload_n 1, 67, [], 0), some (.putfield 323, 70, [2, 0, 0, 0, 0], 0), none, none, some (.return_, 71, [], 0)]]
def ob_c_X7_within : List (List (Option ob_Ent)) := [[some (.iload_n 0, 1, [], 0), some (.iload_n 1, 2, [], 0), some (.if_icmp .lt 12, 5, [14], 0), none, none, some (.iload_n 0, 6, [], 0), some (.iload_n 2, 7, [], 0), some (.if_icmp .gt 7, 10, [14], 0), none, none, some (.iconst 1, 11, [], 0), some (.goto 4, 14, [15], 0), none, none, some (.iconst 0, 15, [], 0), some (.ireturn, 16, [1], 0)]]
def ob_c_X7_angle : List (List (Option ob_Ent)) := [[some (.iload_n 1, 1, [], 0), some (.iconst 1, 2, [], 0), some (.if_icmp .ge 5, 5, [7], 0), none, none, some (.iconst 0, 6, [], 0), some (.ireturn, 7, [0], 0), some (.iload_n 2, 8, [], 0), some (.lookupswitch 50 #[(1, 28), (2, 40)], 36, [58, 36, 48], 0), none, none, none, none, none, none, none],
  [none, none, none, none, none, none, none, none, none, none, none, none, none, none, none, none],
  [none, none, none, none, some (.iconst 2, 37, [], 0), some (.iload_n 0, 38, [], 0), some (.imul, 39, [], 0), some (.iload_n 3, 40, [], 0), some (.imul, 41, [], 0), some (.iload_n 1, 42, [], 0), some (.iadd, 43, [], 0), some (.iconst 2, 44, [], 0), some (.iload_n 1, 45, [], 0), some (.imul, 46, [], 0), some (.idiv, 47, [], 0), some (.ireturn, 48, [0], 0)],
  [some (.iload_n 0, 49, [], 0), some (.iload_n 3, 50, [], 0), some (.imul, 51, [], 0), some (.iload_n 1, 52, [], 0), some (.iadd, 53, [], 0), some (.iconst 1, 54, [], 0), some (.isub, 55, [], 0), some (.iload_n 1, 56, [], 0), some (.idiv, 57, [], 0), some (.ireturn, 58, [0], 0), some (.iload_n 0, 59, [], 0), some (.iload_n 3, 60, [], 0), some (.imul, 61, [], 0), some (.iload_n 1, 62, [], 0), some (.idiv, 63, [], 0), some (.ireturn, 64, [0], 0)]]
def ob_c_X7_round : List (List (Option ob_Ent)) := [[some (.iload_n 0, 1, [], 0), some (.iload_n 1, 2, [], 0), some (.if_icmp .lt 9, 5, [11], 0), none, none, some (.iload_n 0, 6, [], 0), some (.iload_n 1, 7, [], 0), some (.isub, 8, [], 0), some (.goto 4, 11, [12], 0), none, none, some (.iload_n 0, 12, [], 0), some (.ireturn, 13, [0], 0)]]
def ob_c_X7_distance : List (List (Option ob_Ent)) := [[some (.iload_n 1, 1, [], 0), some (.iload_n 0, 2, [], 0), some (.if_icmp .lt 9, 5, [11], 0), none, none, some (.iload_n 1, 6, [], 0), some (.iload_n 0, 7, [], 0), some (.isub, 8, [], 0), some (.goto 8, 11, [16], 0), none, none, some (.iload_n 1, 12, [], 0), some (.iload_n 0, 13, [], 0), some (.isub, 14, [], 0), some (.iload_n 2, 15, [], 0), some (.iadd, 16, [], 0)],
  [some (.ireturn, 17, [0], 0)]]
def ob_c_X7_longestFree : List (List (Option ob_Ent)) := [[some (.iconst 0, 1, [], 0), some (.istore_n 2, 2, [], 0), some (.iconst 0, 3, [], 0), some (.istore_n 3, 4, [], 0), some (.iconst 0, 5, [], 0), some (.istore 4, 7, [], 0), none, some (.iload 4, 9, [], 0), none, some (.iconst 2, 10, [], 0), some (.iload_n 1, 11, [], 0), some (.imul, 12, [], 0), some (.if_icmp .ge 36, 15, [48], 0), none, none, some (.iload_n 0, 16, [], 0)],
  [some (.iload 4, 18, [], 0), none, some (.iload_n 1, 19, [], 0), some (.invokestatic 326, 22, [9, 130, 2, 1, 7, 2, 0], 0), none, none, some (.ishr, 23, [], 0), some (.iconst 1, 24, [], 0), some (.iand, 25, [], 0), some (.ifCond .ne 9, 28, [34], 0), none, none, some (.iload_n 2, 29, [], 0), some (.iconst 1, 30, [], 0), some (.iadd, 31, [], 0), some (.goto 4, 34, [35], 0)],
  [none, none, some (.iconst 0, 35, [], 0), some (.istore_n 2, 36, [], 0), some (.iload_n 3, 37, [], 0), some (.iload_n 2, 38, [], 0), some (.invokestatic 329, 41, [3], 0), none, none, some (.istore_n 3, 42, [], 0), some (.iinc 4 1, 45, [], 0), none, none, some (.goto (-38), 48, [7], 0), none, none],
  [some (.iload_n 3, 49, [], 0), some (.iload_n 1, 50, [], 0), some (.invokestatic 334, 53, [2], 0), none, none, some (.ireturn, 54, [0], 0)]]
def ob_c_X8_init : List (List (Option ob_Ent)) := [[some (.aload_n 0, 1, [], 0), some (.invokespecial 1, 4, [0], 0), none, none, some (.aload_n 0, 5, [], 0), some (.sipush 360, 8, [], 0), none, none, some (.newarray .int, 10, [40], 0), none, some (.putfield 7, 13, [8, 0, 41, 3, 0], 0), none, none, some (.aload_n 0, 14, [], 0), some (.sipush 1800, 17, [], 0), none],
  [none, some (.newarray .int, 19, [41], 0), none, some (.putfield 13, 22, [8, 1, 42, 3, 0], 1), none, none, some (.aload_n 0, 23, [], 0), some (.sipush 360, 26, [], 0), none, none, some (.newarray .int, 28, [42], 0), none, some (.putfield 16, 31, [8, 2, 43, 3, 0], 2), none, none, some (.aload_n 0, 32, [], 0)],
  [some (.iconst 3, 33, [], 0), some (.newarray .int, 35, [43], 0), none, some (.putfield 19, 38, [8, 4, 44, 3, 0], 4), none, none, some (.aload_n 0, 39, [], 0), some (.iconst 4, 40, [], 0), some (.newarray .int, 42, [44], 0), none, some (.putfield 22, 45, [8, 5, 45, 3, 0], 5), none, none, some (.aload_n 0, 46, [], 0), some (.bipush 72, 48, [], 0), none],
  [some (.newarray .boolean, 50, [45], 0), none, some (.putfield 25, 53, [8, 9, 46, 3, 0], 9), none, none, some (.aload_n 0, 54, [], 0), some (.bipush 36, 56, [], 0), none, some (.newarray .int, 58, [46], 0), none, some (.putfield 29, 61, [8, 10, 47, 3, 0], 10), none, none, some (.aload_n 0, 62, [], 0), some (.bipush 36, 64, [], 0), none],
  [some (.newarray .int, 66, [47], 0), none, some (.putfield 32, 69, [8, 11, 48, 3, 0], 11), none, none, some (.aload_n 0, 70, [], 0), some (.bipush 36, 72, [], 0), none, some (.newarray .int, 74, [48], 0), none, some (.putfield 35, 77, [8, 12, 49, 3, 0], 12), none, none, some (.aload_n 0, 78, [], 0), some (.bipush 36, 80, [], 0), none],
  [some (.newarray .int, 82, [49], 0), none, some (.putfield 38, 85, [8, 13, 50, 3, 0], 13), none, none, some (.aload_n 0, 86, [], 0), some (.bipush 36, 88, [], 0), none, some (.newarray .int, 90, [50], 0), none, some (.putfield 41, 93, [8, 15, 51, 3, 0], 15), none, none, some (.aload_n 0, 94, [], 0), some (.bipush 36, 96, [], 0), none],
  [some (.newarray .int, 98, [51], 0), none, some (.putfield 44, 101, [8, 16, 52, 3, 0], 16), none, none, some (.aload_n 0, 102, [], 0), some (.bipush 36, 104, [], 0), none, some (.newarray .int, 106, [52], 0), none, some (.putfield 47, 109, [8, 17, 53, 3, 0], 17), none, none, some (.aload_n 0, 110, [], 0), some (.bipush 36, 112, [], 0), none],
  [some (.newarray .int, 114, [53], 0), none, some (.putfield 50, 117, [8, 18, 54, 3, 0], 18), none, none, some (.aload_n 0, 118, [], 0), some (.bipush 36, 120, [], 0), none, some (.newarray .int, 122, [54], 0), none, some (.putfield 53, 125, [8, 19, 55, 3, 0], 19), none, none, some (.aload_n 0, 126, [], 0), some (.bipush 120, 128, [], 0), none],
  [some (.newarray .int, 130, [55], 0), none, some (.putfield 56, 133, [8, 21, 56, 3, 0], 21), none, none, some (.aload_n 0, 134, [], 0), some (.iconst 3, 135, [], 0), some (.newarray .int, 137, [56], 0), none, some (.putfield 59, 140, [8, 24, 57, 3, 0], 24), none, none, some (.aload_n 0, 141, [], 0), some (.bipush 24, 143, [], 0), none, some (.iconst 4, 144, [], 0)],
  [some (.iconst 3, 145, [], 0), some (.invokevirtual 62, 148, [9, 137, 4, 0, 8, 5, 0], 0), none, none, some (.aload_n 0, 149, [], 0), some (.getfield 22, 152, [8, 5, 45, 3], 5), none, none, some (.iconst 3, 153, [], 0), some (.iconst (-1), 154, [], 0), some (.iastore, 155, [], 0), some (.return_, 156, [], 0)]]
def ob_c_X8_in : List (List (Option ob_Ent)) := [[some (.lload_n 0, 1, [], 0), some (.lload_n 2, 2, [], 0), some (.lcmp, 3, [], 0), some (.ifCond .lt 14, 6, [17], 0), none, none, some (.lload_n 0, 7, [], 0), some (.lload 4, 9, [], 0), none, some (.lcmp, 10, [], 0), some (.ifCond .gt 7, 13, [17], 0), none, none, some (.iconst 1, 14, [], 0), some (.goto 4, 17, [18], 0), none],
  [none, some (.iconst 0, 18, [], 0), some (.ireturn, 19, [1], 0)]]
def ob_c_X8_refuses : List (List (Option ob_Ent)) := [[some (.aload_n 0, 1, [], 0), some (.getfield 19, 4, [8, 4, 44, 3], 4), none, none, some (.bipush (-2), 6, [], 0), none, some (.iload_n 1, 7, [], 0), some (.isub, 8, [], 0), some (.dup2, 9, [], 0), some (.iaload, 10, [], 0), some (.iconst 1, 11, [], 0), some (.iadd, 12, [], 0), some (.iastore, 13, [], 0), some (.iload_n 1, 14, [], 0), some (.ireturn, 15, [0], 0)]]
def ob_c_X8_keep : List (List (Option ob_Ent)) := [[some (.aload_n 0, 1, [], 0), some (.getfield 66, 4, [8, 3, 0, 0], 3), none, none, some (.iconst 5, 5, [], 0), some (.if_icmp .ne 44, 8, [49], 0), none, none, some (.iconst 0, 9, [], 0), some (.istore_n 1, 10, [], 0), some (.iload_n 1, 11, [], 0), some (.sipush 1440, 14, [], 0), none, none, some (.if_icmp .ge 25, 17, [39], 0), none],
  [none, some (.aload_n 0, 18, [], 0), some (.getfield 13, 21, [8, 1, 42, 3], 1), none, none, some (.iload_n 1, 22, [], 0), some (.aload_n 0, 23, [], 0), some (.getfield 13, 26, [8, 1, 42, 3], 1), none, none, some (.iload_n 1, 27, [], 0), some (.sipush 360, 30, [], 0), none, none, some (.iadd, 31, [], 0), some (.iaload, 32, [], 0)],
  [some (.iastore, 33, [], 0), some (.iinc 1 1, 36, [], 0), none, none, some (.goto (-26), 39, [10], 0), none, none, some (.aload_n 0, 40, [], 0), some (.dup, 41, [], 0), some (.getfield 66, 44, [8, 3, 0, 0], 3), none, none, some (.iconst 1, 45, [], 0), some (.isub, 46, [], 0), some (.putfield 66, 49, [8, 3, 0, 0, 0], 3), none],
  [none, some (.iconst 0, 50, [], 0), some (.istore_n 1, 51, [], 0), some (.iload_n 1, 52, [], 0), some (.sipush 360, 55, [], 0), none, none, some (.if_icmp .ge 30, 58, [85], 0), none, none, some (.aload_n 0, 59, [], 0), some (.getfield 13, 62, [8, 1, 42, 3], 1), none, none, some (.sipush 360, 65, [], 0), none],
  [none, some (.aload_n 0, 66, [], 0), some (.getfield 66, 69, [8, 3, 0, 0], 3), none, none, some (.imul, 70, [], 0), some (.iload_n 1, 71, [], 0), some (.iadd, 72, [], 0), some (.aload_n 0, 73, [], 0), some (.getfield 7, 76, [8, 0, 41, 3], 0), none, none, some (.iload_n 1, 77, [], 0), some (.iaload, 78, [], 0), some (.iastore, 79, [], 0), some (.iinc 1 1, 82, [], 0)],
  [none, none, some (.goto (-31), 85, [51], 0), none, none, some (.aload_n 0, 86, [], 0), some (.dup, 87, [], 0), some (.getfield 66, 90, [8, 3, 0, 0], 3), none, none, some (.iconst 1, 91, [], 0), some (.iadd, 92, [], 0), some (.putfield 66, 95, [8, 3, 0, 0, 0], 3), none, none, some (.return_, 96, [], 0)]]
def ob_c_X8_begins : List (List (Option ob_Ent)) := [[some (.iconst 0, 1, [], 0), some (.istore 4, 3, [], 0), none, some (.iload 4, 5, [], 0), none, some (.sipush 360, 8, [], 0), none, none, some (.if_icmp .ge 17, 11, [25], 0), none, none, some (.aload_n 0, 12, [], 0), some (.getfield 7, 15, [8, 0, 41, 3], 0), none, none, some (.iload 4, 17, [], 0)],
  [none, some (.iconst 0, 18, [], 0), some (.iastore, 19, [], 0), some (.iinc 4 1, 22, [], 0), none, none, some (.goto (-19), 25, [3], 0), none, none, some (.aload_n 0, 26, [], 0), some (.getfield 7, 29, [8, 0, 41, 3], 0), none, none, some (.iconst 0, 30, [], 0), some (.iload_n 1, 31, [], 0), some (.iastore, 32, [], 0)],
  [some (.aload_n 0, 33, [], 0), some (.getfield 7, 36, [8, 0, 41, 3], 0), none, none, some (.iconst 1, 37, [], 0), some (.iload_n 2, 38, [], 0), some (.iastore, 39, [], 0), some (.aload_n 0, 40, [], 0), some (.getfield 7, 43, [8, 0, 41, 3], 0), none, none, some (.iconst 2, 44, [], 0), some (.iload_n 3, 45, [], 0), some (.iastore, 46, [], 0), some (.aload_n 0, 47, [], 0), some (.getfield 7, 50, [8, 0, 41, 3], 0)],
  [none, none, some (.iconst 4, 51, [], 0), some (.iconst 1, 52, [], 0), some (.iastore, 53, [], 0), some (.aload_n 0, 54, [], 0), some (.getfield 7, 57, [8, 0, 41, 3], 0), none, none, some (.iconst 5, 58, [], 0), some (.bipush 20, 60, [], 0), none, some (.iastore, 61, [], 0), some (.iconst 0, 62, [], 0), some (.istore 4, 64, [], 0), none],
  [some (.iload 4, 66, [], 0), none, some (.bipush 6, 68, [], 0), none, some (.if_icmp .ge 20, 71, [88], 0), none, none, some (.aload_n 0, 72, [], 0), some (.getfield 7, 75, [8, 0, 41, 3], 0), none, none, some (.bipush 6, 77, [], 0), none, some (.iload 4, 79, [], 0), none, some (.iadd, 80, [], 0)],
  [some (.iconst 1, 81, [], 0), some (.iastore, 82, [], 0), some (.iinc 4 1, 85, [], 0), none, none, some (.goto (-21), 88, [64], 0), none, none, some (.iconst 0, 89, [], 0), some (.istore 4, 91, [], 0), none, some (.iload 4, 93, [], 0), none, some (.iconst 3, 94, [], 0), some (.if_icmp .ge 25, 97, [119], 0), none],
  [none, some (.aload_n 0, 98, [], 0), some (.getfield 7, 101, [8, 0, 41, 3], 0), none, none, some (.bipush 12, 103, [], 0), none, some (.bipush 116, 105, [], 0), none, some (.iload 4, 107, [], 0), none, some (.imul, 108, [], 0), some (.iadd, 109, [], 0), some (.iconst 0, 110, [], 0), some (.iadd, 111, [], 0), some (.iload_n 1, 112, [], 0)],
  [some (.iastore, 113, [], 0), some (.iinc 4 1, 116, [], 0), none, none, some (.goto (-25), 119, [91], 0), none, none, some (.return_, 120, [], 0)]]
def ob_c_X8_round : List (List (Option ob_Ent)) := [[some (.aload_n 0, 1, [], 0), some (.getfield 7, 4, [8, 0, 41, 3], 0), none, none, some (.iconst 0, 5, [], 0), some (.iaload, 6, [], 0), some (.ireturn, 7, [0], 0)]]
def ob_c_X8_tunes : List (List (Option ob_Ent)) := [[some (.aload_n 0, 1, [], 0), some (.getfield 7, 4, [8, 0, 41, 3], 0), none, none, some (.iconst 2, 5, [], 0), some (.iaload, 6, [], 0), some (.ireturn, 7, [0], 0)]]
def ob_c_X8_isTune : List (List (Option ob_Ent)) := [[some (.iload_n 1, 1, [], 0), some (.i2l, 2, [], 0), some (.lconst 0, 3, [], 0), some (.aload_n 0, 4, [], 0), some (.invokevirtual 70, 7, [9, 139, 1, 1, 8, 1, 0], 0), none, none, some (.iconst 1, 8, [], 0), some (.isub, 9, [], 0), some (.i2l, 10, [], 0), some (.invokestatic 74, 13, [9, 134, 3, 1, 8, 6, 0], 0), none, none, some (.ireturn, 14, [1], 0)]]
def ob_c_X8_isKey : List (List (Option ob_Ent)) := [[some (.iload_n 1, 1, [], 0), some (.i2l, 2, [], 0), some (.lconst 0, 3, [], 0), some (.aload_n 0, 4, [], 0), some (.getfield 7, 7, [8, 0, 41, 3], 0), none, none, some (.iconst 1, 8, [], 0), some (.iaload, 9, [], 0), some (.iconst 1, 10, [], 0), some (.isub, 11, [], 0), some (.i2l, 12, [], 0), some (.invokestatic 74, 15, [9, 134, 3, 1, 8, 6, 0], 0), none, none, some (.ireturn, 16, [1], 0)]]
def ob_c_X8_of : List (List (Option ob_Ent)) := [[some (.aload_n 0, 1, [], 0), some (.getfield 7, 4, [8, 0, 41, 3], 0), none, none, some (.bipush 12, 6, [], 0), none, some (.bipush 116, 8, [], 0), none, some (.iload_n 1, 9, [], 0), some (.imul, 10, [], 0), some (.iadd, 11, [], 0), some (.iload_n 2, 12, [], 0), some (.iadd, 13, [], 0), some (.iaload, 14, [], 0), some (.ireturn, 15, [0], 0)]]
def ob_c_X8_set : List (List (Option ob_Ent)) := [[some (.aload_n 0, 1, [], 0), some (.getfield 7, 4, [8, 0, 41, 3], 0), none, none, some (.bipush 12, 6, [], 0), none, some (.bipush 116, 8, [], 0), none, some (.iload_n 1, 9, [], 0), some (.imul, 10, [], 0), some (.iadd, 11, [], 0), some (.iload_n 2, 12, [], 0), some (.iadd, 13, [], 0), some (.iload_n 3, 14, [], 0), some (.iastore, 15, [], 0), some (.return_, 16, [], 0)]]
def ob_c_X8_isPinned : List (List (Option ob_Ent)) := [[some (.aload_n 0, 1, [], 0), some (.iload_n 1, 2, [], 0), some (.bipush 39, 4, [], 0), none, some (.invokevirtual 78, 7, [9, 142, 3, 1, 8, 3, 0], 0), none, none, some (.iconst 1, 8, [], 0), some (.if_icmp .ne 7, 11, [15], 0), none, none, some (.iconst 1, 12, [], 0), some (.goto 4, 15, [16], 0), none, none, some (.iconst 0, 16, [], 0)],
  [some (.ireturn, 17, [1], 0)]]
def ob_c_X8_from : List (List (Option ob_Ent)) := [[some (.iload_n 2, 1, [], 0), some (.iload_n 1, 2, [], 0), some (.isub, 3, [], 0), some (.aload_n 0, 4, [], 0), some (.invokevirtual 82, 7, [9, 138, 1, 1, 8, 1, 0], 0), none, none, some (.irem, 8, [], 0), some (.istore_n 3, 9, [], 0), some (.iload_n 3, 10, [], 0), some (.ifCond .ge 12, 13, [22], 0), none, none, some (.iload_n 3, 14, [], 0), some (.aload_n 0, 15, [], 0), some (.invokevirtual 82, 18, [9, 138, 1, 1, 8, 1, 0], 0)],
  [none, none, some (.iadd, 19, [], 0), some (.goto 4, 22, [23], 0), none, none, some (.iload_n 3, 23, [], 0), some (.ireturn, 24, [0], 0)]]
def ob_c_X8_angle : List (List (Option ob_Ent)) := [[some (.iload_n 1, 1, [], 0), some (.aload_n 0, 2, [], 0), some (.invokevirtual 82, 5, [9, 138, 1, 1, 8, 1, 0], 0), none, none, some (.imul, 6, [], 0), some (.istore 4, 8, [], 0), none, some (.iload_n 3, 9, [], 0), some (.ifCond .ne 10, 12, [19], 0), none, none, some (.iload 4, 14, [], 0), none, some (.iload_n 2, 15, [], 0), some (.idiv, 16, [], 0)],
  [some (.goto 29, 19, [45], 0), none, none, some (.iload_n 3, 20, [], 0), some (.iconst 1, 21, [], 0), some (.if_icmp .ne 16, 24, [37], 0), none, none, some (.iconst 2, 25, [], 0), some (.iload 4, 27, [], 0), none, some (.imul, 28, [], 0), some (.iload_n 2, 29, [], 0), some (.iadd, 30, [], 0), some (.iconst 2, 31, [], 0), some (.iload_n 2, 32, [], 0)],
  [some (.imul, 33, [], 0), some (.idiv, 34, [], 0), some (.goto 11, 37, [45], 0), none, none, some (.iload 4, 39, [], 0), none, some (.iload_n 2, 40, [], 0), some (.iadd, 41, [], 0), some (.iconst 1, 42, [], 0), some (.isub, 43, [], 0), some (.iload_n 2, 44, [], 0), some (.idiv, 45, [], 0), some (.ireturn, 46, [0], 0)]]
def ob_c_X8_angleNow : List (List (Option ob_Ent)) := [[some (.aload_n 0, 1, [], 0), some (.iload_n 2, 2, [], 0), some (.aload_n 0, 3, [], 0), some (.iload_n 1, 4, [], 0), some (.iconst 0, 5, [], 0), some (.invokevirtual 78, 8, [9, 142, 3, 1, 8, 3, 0], 0), none, none, some (.aload_n 0, 9, [], 0), some (.getfield 7, 12, [8, 0, 41, 3], 0), none, none, some (.iconst 3, 13, [], 0), some (.iaload, 14, [], 0), some (.invokevirtual 85, 17, [9, 146, 4, 1, 8, 5, 0], 0), none],
  [none, some (.ireturn, 18, [0], 0)]]
def ob_c_X8_key : List (List (Option ob_Ent)) := [[some (.aload_n 0, 1, [], 0), some (.iload_n 1, 2, [], 0), some (.iconst 3, 3, [], 0), some (.iconst 3, 4, [], 0), some (.iload_n 2, 5, [], 0), some (.imul, 6, [], 0), some (.iadd, 7, [], 0), some (.invokevirtual 78, 10, [9, 142, 3, 1, 8, 3, 0], 0), none, none, some (.ireturn, 11, [0], 0)]]
def ob_c_X8_start : List (List (Option ob_Ent)) := [[some (.aload_n 0, 1, [], 0), some (.iload_n 1, 2, [], 0), some (.iconst 3, 3, [], 0), some (.iconst 3, 4, [], 0), some (.iload_n 2, 5, [], 0), some (.imul, 6, [], 0), some (.iadd, 7, [], 0), some (.iconst 1, 8, [], 0), some (.iadd, 9, [], 0), some (.invokevirtual 78, 12, [9, 142, 3, 1, 8, 3, 0], 0), none, none, some (.ireturn, 13, [0], 0)]]
def ob_c_X8_length : List (List (Option ob_Ent)) := [[some (.aload_n 0, 1, [], 0), some (.iload_n 1, 2, [], 0), some (.iconst 3, 3, [], 0), some (.iconst 3, 4, [], 0), some (.iload_n 2, 5, [], 0), some (.imul, 6, [], 0), some (.iadd, 7, [], 0), some (.iconst 2, 8, [], 0), some (.iadd, 9, [], 0), some (.invokevirtual 78, 12, [9, 142, 3, 1, 8, 3, 0], 0), none, none, some (.ireturn, 13, [0], 0)]]
def ob_c_X8_begin : List (List (Option ob_Ent)) := [[some (.aload_n 0, 1, [], 0), some (.iload_n 1, 2, [], 0), some (.aload_n 0, 3, [], 0), some (.iload_n 1, 4, [], 0), some (.iload_n 2, 5, [], 0), some (.invokevirtual 89, 8, [9, 149, 3, 1, 8, 3, 0], 0), none, none, some (.invokevirtual 92, 11, [9, 147, 3, 1, 8, 3, 0], 0), none, none, some (.iload_n 3, 12, [], 0), some (.iadd, 13, [], 0), some (.aload_n 0, 14, [], 0), some (.invokevirtual 82, 17, [9, 138, 1, 1, 8, 1, 0], 0), none],
  [none, some (.irem, 18, [], 0), some (.ireturn, 19, [0], 0)]]
def ob_c_X8_hold : List (List (Option ob_Ent)) := [[some (.aload_n 0, 1, [], 0), some (.iload_n 1, 2, [], 0), some (.aload_n 0, 3, [], 0), some (.iload_n 1, 4, [], 0), some (.iload_n 2, 5, [], 0), some (.invokevirtual 89, 8, [9, 149, 3, 1, 8, 3, 0], 0), none, none, some (.aload_n 0, 9, [], 0), some (.iload_n 1, 10, [], 0), some (.iload_n 2, 11, [], 0), some (.invokevirtual 95, 14, [9, 150, 3, 1, 8, 3, 0], 0), none, none, some (.iadd, 15, [], 0), some (.invokevirtual 92, 18, [9, 147, 3, 1, 8, 3, 0], 0)],
  [none, none, some (.aload_n 0, 19, [], 0), some (.iload_n 1, 20, [], 0), some (.aload_n 0, 21, [], 0), some (.iload_n 1, 22, [], 0), some (.iload_n 2, 23, [], 0), some (.invokevirtual 89, 26, [9, 149, 3, 1, 8, 3, 0], 0), none, none, some (.invokevirtual 92, 29, [9, 147, 3, 1, 8, 3, 0], 0), none, none, some (.isub, 30, [], 0), some (.ireturn, 31, [0], 0)]]
def ob_c_X8_track : List (List (Option ob_Ent)) := [[some (.aload_n 0, 1, [], 0), some (.invokevirtual 70, 4, [9, 139, 1, 1, 8, 1, 0], 0), none, none, some (.iload_n 2, 5, [], 0), some (.imul, 6, [], 0), some (.iload_n 1, 7, [], 0), some (.iadd, 8, [], 0), some (.ireturn, 9, [0], 0)]]
def ob_c_X8_barrel : List (List (Option ob_Ent)) := [[some (.iload_n 1, 1, [], 0), some (.i2l, 2, [], 0), some (.ldc2_w 98, 5, [6], 6), none, none, some (.ldc2_w 100, 8, [24], 24), none, none, some (.invokestatic 74, 11, [9, 134, 3, 1, 8, 6, 0], 0), none, none, some (.ifCond .eq 29, 14, [40], 0), none, none, some (.iload_n 2, 15, [], 0), some (.i2l, 16, [], 0)],
  [some (.lconst 1, 17, [], 0), some (.ldc2_w 98, 20, [6], 6), none, none, some (.invokestatic 74, 23, [9, 134, 3, 1, 8, 6, 0], 0), none, none, some (.ifCond .eq 17, 26, [40], 0), none, none, some (.iload_n 3, 27, [], 0), some (.i2l, 28, [], 0), some (.ldc2_w 102, 31, [2], 2), none, none, some (.ldc2_w 104, 34, [3], 3)],
  [none, none, some (.invokestatic 74, 37, [9, 134, 3, 1, 8, 6, 0], 0), none, none, some (.ifCond .ne 10, 40, [47], 0), none, none, some (.aload_n 0, 41, [], 0), some (.bipush (-2), 43, [], 0), none, some (.invokevirtual 106, 46, [9, 135, 2, 1, 8, 2, 0], 0), none, none, some (.ireturn, 47, [0], 0), some (.aload_n 0, 48, [], 0)],
  [some (.invokevirtual 82, 51, [9, 138, 1, 1, 8, 1, 0], 0), none, none, some (.istore 4, 53, [], 0), none, some (.aload_n 0, 54, [], 0), some (.invokevirtual 110, 57, [9, 136, 1, 0, 8, 2, 0], 0), none, none, some (.aload_n 0, 58, [], 0), some (.iload_n 1, 59, [], 0), some (.iload_n 2, 60, [], 0), some (.iload_n 3, 61, [], 0), some (.invokevirtual 62, 64, [9, 137, 4, 0, 8, 5, 0], 0), none, none],
  [some (.iload 4, 66, [], 0), none, some (.ireturn, 67, [0], 0)]]
def ob_c_X8_setNow : List (List (Option ob_Ent)) := [[some (.aload_n 0, 1, [], 0), some (.getfield 7, 4, [8, 0, 41, 3], 0), none, none, some (.iload_n 1, 5, [], 0), some (.iaload, 6, [], 0), some (.istore_n 3, 7, [], 0), some (.aload_n 0, 8, [], 0), some (.getfield 7, 11, [8, 0, 41, 3], 0), none, none, some (.iload_n 1, 12, [], 0), some (.iload_n 2, 13, [], 0), some (.iastore, 14, [], 0), some (.iload_n 3, 15, [], 0), some (.ireturn, 16, [0], 0)]]
def ob_c_X8_sets : List (List (Option ob_Ent)) := [[some (.iload_n 1, 1, [], 0), some (.i2l, 2, [], 0), some (.lconst 0, 3, [], 0), some (.ldc2_w 102, 6, [2], 2), none, none, some (.invokestatic 74, 9, [9, 134, 3, 1, 8, 6, 0], 0), none, none, some (.ifCond .eq 54, 12, [63], 0), none, none, some (.iload_n 1, 13, [], 0), some (.ifCond .ne 18, 16, [31], 0), none, none],
  [some (.iload_n 2, 17, [], 0), some (.i2l, 18, [], 0), some (.lconst 0, 19, [], 0), some (.ldc2_w 102, 22, [2], 2), none, none, some (.invokestatic 74, 25, [9, 134, 3, 1, 8, 6, 0], 0), none, none, some (.ifCond .eq 38, 28, [63], 0), none, none, some (.goto 42, 31, [70], 0), none, none, some (.iload_n 1, 32, [], 0)],
  [some (.iconst 1, 33, [], 0), some (.if_icmp .ne 18, 36, [51], 0), none, none, some (.iload_n 2, 37, [], 0), some (.i2l, 38, [], 0), some (.lconst 0, 39, [], 0), some (.ldc2_w 104, 42, [3], 3), none, none, some (.invokestatic 74, 45, [9, 134, 3, 1, 8, 6, 0], 0), none, none, some (.ifCond .eq 18, 48, [63], 0), none, none],
  [some (.goto 22, 51, [70], 0), none, none, some (.iload_n 2, 52, [], 0), some (.i2l, 53, [], 0), some (.lconst 1, 54, [], 0), some (.ldc2_w 113, 57, [99], 99), none, none, some (.invokestatic 74, 60, [9, 134, 3, 1, 8, 6, 0], 0), none, none, some (.ifCond .ne 10, 63, [70], 0), none, none, some (.aload_n 0, 64, [], 0)],
  [some (.bipush (-2), 66, [], 0), none, some (.invokevirtual 106, 69, [9, 135, 2, 1, 8, 2, 0], 0), none, none, some (.ireturn, 70, [0], 0), some (.aload_n 0, 71, [], 0), some (.invokevirtual 110, 74, [9, 136, 1, 0, 8, 2, 0], 0), none, none, some (.aload_n 0, 75, [], 0), some (.iconst 3, 76, [], 0), some (.iload_n 1, 77, [], 0), some (.iadd, 78, [], 0), some (.iload_n 2, 79, [], 0), some (.invokevirtual 115, 82, [9, 155, 3, 1, 8, 4, 0], 0)],
  [none, none, some (.ireturn, 83, [0], 0)]]
def ob_c_X8_canGap : List (List (Option ob_Ent)) := [[some (.aload_n 0, 1, [], 0), some (.iload_n 1, 2, [], 0), some (.invokevirtual 118, 5, [9, 141, 2, 1, 8, 2, 0], 0), none, none, some (.ifCond .eq 19, 8, [24], 0), none, none, some (.iload_n 2, 9, [], 0), some (.i2l, 10, [], 0), some (.lconst 0, 11, [], 0), some (.ldc2_w 98, 14, [6], 6), none, none, some (.invokestatic 74, 17, [9, 134, 3, 1, 8, 6, 0], 0), none],
  [none, some (.ifCond .eq 7, 20, [24], 0), none, none, some (.iconst 0, 21, [], 0), some (.goto 5, 24, [26], 0), none, none, some (.bipush (-2), 26, [], 0), none, some (.ireturn, 27, [0], 0)]]
def ob_c_X8_gap : List (List (Option ob_Ent)) := [[some (.aload_n 0, 1, [], 0), some (.iload_n 1, 2, [], 0), some (.iload_n 2, 3, [], 0), some (.invokevirtual 122, 6, [9, 157, 3, 1, 8, 3, 0], 0), none, none, some (.ifCond .ge 10, 9, [16], 0), none, none, some (.aload_n 0, 10, [], 0), some (.bipush (-2), 12, [], 0), none, some (.invokevirtual 106, 15, [9, 135, 2, 1, 8, 2, 0], 0), none, none, some (.ireturn, 16, [0], 0)],
  [some (.aload_n 0, 17, [], 0), some (.invokevirtual 110, 20, [9, 136, 1, 0, 8, 2, 0], 0), none, none, some (.aload_n 0, 21, [], 0), some (.bipush 6, 23, [], 0), none, some (.iload_n 1, 24, [], 0), some (.iadd, 25, [], 0), some (.iload_n 2, 26, [], 0), some (.invokevirtual 115, 29, [9, 155, 3, 1, 8, 4, 0], 0), none, none, some (.ireturn, 30, [0], 0)]]
def ob_c_X8_canSide : List (List (Option ob_Ent)) := [[some (.iload_n 1, 1, [], 0), some (.i2l, 2, [], 0), some (.lconst 0, 3, [], 0), some (.ldc2_w 104, 6, [3], 3), none, none, some (.invokestatic 74, 9, [9, 134, 3, 1, 8, 6, 0], 0), none, none, some (.ifCond .eq 7, 12, [16], 0), none, none, some (.iconst 0, 13, [], 0), some (.goto 5, 16, [18], 0), none, none],
  [some (.bipush (-2), 18, [], 0), none, some (.ireturn, 19, [0], 0)]]
def ob_c_X8_side : List (List (Option ob_Ent)) := [[some (.aload_n 0, 1, [], 0), some (.iload_n 1, 2, [], 0), some (.invokevirtual 125, 5, [9, 159, 2, 1, 8, 2, 0], 0), none, none, some (.ifCond .ge 10, 8, [15], 0), none, none, some (.aload_n 0, 9, [], 0), some (.bipush (-2), 11, [], 0), none, some (.invokevirtual 106, 14, [9, 135, 2, 1, 8, 2, 0], 0), none, none, some (.ireturn, 15, [0], 0), some (.aload_n 0, 16, [], 0)],
  [some (.invokevirtual 110, 19, [9, 136, 1, 0, 8, 2, 0], 0), none, none, some (.aload_n 0, 20, [], 0), some (.iconst 4, 21, [], 0), some (.iload_n 1, 22, [], 0), some (.invokevirtual 115, 25, [9, 155, 3, 1, 8, 4, 0], 0), none, none, some (.ireturn, 26, [0], 0)]]
def ob_c_X8_canTicks : List (List (Option ob_Ent)) := [[some (.aload_n 0, 1, [], 0), some (.iload_n 1, 2, [], 0), some (.invokevirtual 128, 5, [9, 140, 2, 1, 8, 2, 0], 0), none, none, some (.ifCond .eq 21, 8, [26], 0), none, none, some (.iload_n 2, 9, [], 0), some (.i2l, 10, [], 0), some (.lconst 1, 11, [], 0), some (.aload_n 0, 12, [], 0), some (.invokevirtual 82, 15, [9, 138, 1, 1, 8, 1, 0], 0), none, none, some (.i2l, 16, [], 0)],
  [some (.invokestatic 74, 19, [9, 134, 3, 1, 8, 6, 0], 0), none, none, some (.ifCond .eq 7, 22, [26], 0), none, none, some (.iconst 0, 23, [], 0), some (.goto 5, 26, [28], 0), none, none, some (.bipush (-2), 28, [], 0), none, some (.ireturn, 29, [0], 0)]]
def ob_c_X8_ticksNow : List (List (Option ob_Ent)) := [[some (.aload_n 0, 1, [], 0), some (.iload_n 1, 2, [], 0), some (.iconst 2, 3, [], 0), some (.invokevirtual 78, 6, [9, 142, 3, 1, 8, 3, 0], 0), none, none, some (.istore_n 3, 7, [], 0), some (.aload_n 0, 8, [], 0), some (.iload_n 1, 9, [], 0), some (.iconst 0, 10, [], 0), some (.iload_n 2, 11, [], 0), some (.invokevirtual 131, 14, [9, 143, 4, 0, 8, 4, 0], 0), none, none, some (.aload_n 0, 15, [], 0), some (.iload_n 1, 16, [], 0)],
  [some (.iconst 2, 17, [], 0), some (.iconst 0, 18, [], 0), some (.invokevirtual 131, 21, [9, 143, 4, 0, 8, 4, 0], 0), none, none, some (.iload_n 3, 22, [], 0), some (.ireturn, 23, [0], 0)]]
def ob_c_X8_ticks : List (List (Option ob_Ent)) := [[some (.aload_n 0, 1, [], 0), some (.iload_n 1, 2, [], 0), some (.iload_n 2, 3, [], 0), some (.invokevirtual 134, 6, [9, 161, 3, 1, 8, 3, 0], 0), none, none, some (.ifCond .ge 10, 9, [16], 0), none, none, some (.aload_n 0, 10, [], 0), some (.bipush (-2), 12, [], 0), none, some (.invokevirtual 106, 15, [9, 135, 2, 1, 8, 2, 0], 0), none, none, some (.ireturn, 16, [0], 0)],
  [some (.aload_n 0, 17, [], 0), some (.invokevirtual 110, 20, [9, 136, 1, 0, 8, 2, 0], 0), none, none, some (.aload_n 0, 21, [], 0), some (.iload_n 1, 22, [], 0), some (.iload_n 2, 23, [], 0), some (.invokevirtual 137, 26, [9, 162, 3, 1, 8, 4, 0], 0), none, none, some (.ireturn, 27, [0], 0)]]
def ob_c_X8_canNote : List (List (Option ob_Ent)) := [[some (.aload_n 0, 1, [], 0), some (.iload_n 1, 2, [], 0), some (.invokevirtual 128, 5, [9, 140, 2, 1, 8, 2, 0], 0), none, none, some (.ifCond .eq 48, 8, [53], 0), none, none, some (.aload_n 0, 9, [], 0), some (.iload_n 2, 10, [], 0), some (.invokevirtual 118, 13, [9, 141, 2, 1, 8, 2, 0], 0), none, none, some (.ifCond .eq 40, 16, [53], 0), none, none],
  [some (.iload_n 3, 17, [], 0), some (.i2l, 18, [], 0), some (.lconst 0, 19, [], 0), some (.aload_n 0, 20, [], 0), some (.iload_n 1, 21, [], 0), some (.iconst 0, 22, [], 0), some (.invokevirtual 78, 25, [9, 142, 3, 1, 8, 3, 0], 0), none, none, some (.iconst 1, 26, [], 0), some (.isub, 27, [], 0), some (.i2l, 28, [], 0), some (.invokestatic 74, 31, [9, 134, 3, 1, 8, 6, 0], 0), none, none, some (.ifCond .eq 22, 34, [53], 0)],
  [none, none, some (.iload 4, 36, [], 0), none, some (.i2l, 37, [], 0), some (.lconst 1, 38, [], 0), some (.aload_n 0, 39, [], 0), some (.iload_n 1, 40, [], 0), some (.iconst 0, 41, [], 0), some (.invokevirtual 78, 44, [9, 142, 3, 1, 8, 3, 0], 0), none, none, some (.iload_n 3, 45, [], 0), some (.isub, 46, [], 0), some (.i2l, 47, [], 0), some (.invokestatic 74, 50, [9, 134, 3, 1, 8, 6, 0], 0)],
  [none, none, some (.ifCond .ne 6, 53, [56], 0), none, none, some (.bipush (-2), 55, [], 0), none, some (.ireturn, 56, [0], 0), some (.iconst 0, 57, [], 0), some (.istore 5, 59, [], 0), none, some (.iload 5, 61, [], 0), none, some (.aload_n 0, 62, [], 0), some (.iload_n 1, 63, [], 0), some (.iconst 2, 64, [], 0)],
  [some (.invokevirtual 78, 67, [9, 142, 3, 1, 8, 3, 0], 0), none, none, some (.if_icmp .ge 56, 70, [123], 0), none, none, some (.aload_n 0, 71, [], 0), some (.iload_n 1, 72, [], 0), some (.iload 5, 74, [], 0), none, some (.invokevirtual 140, 77, [9, 148, 3, 1, 8, 3, 0], 0), none, none, some (.iload_n 2, 78, [], 0), some (.if_icmp .ne 39, 81, [117], 0), none],
  [none, some (.iload_n 3, 82, [], 0), some (.aload_n 0, 83, [], 0), some (.iload_n 1, 84, [], 0), some (.iload 5, 86, [], 0), none, some (.invokevirtual 89, 89, [9, 149, 3, 1, 8, 3, 0], 0), none, none, some (.aload_n 0, 90, [], 0), some (.iload_n 1, 91, [], 0), some (.iload 5, 93, [], 0), none, some (.invokevirtual 95, 96, [9, 150, 3, 1, 8, 3, 0], 0), none, none],
  [some (.iadd, 97, [], 0), some (.if_icmp .ge 20, 100, [117], 0), none, none, some (.aload_n 0, 101, [], 0), some (.iload_n 1, 102, [], 0), some (.iload 5, 104, [], 0), none, some (.invokevirtual 89, 107, [9, 149, 3, 1, 8, 3, 0], 0), none, none, some (.iload_n 3, 108, [], 0), some (.iload 4, 110, [], 0), none, some (.iadd, 111, [], 0), some (.if_icmp .ge 6, 114, [117], 0)],
  [none, none, some (.bipush (-3), 116, [], 0), none, some (.ireturn, 117, [0], 0), some (.iinc 5 1, 120, [], 0), none, none, some (.goto (-61), 123, [59], 0), none, none, some (.aload_n 0, 124, [], 0), some (.iload_n 1, 125, [], 0), some (.iconst 2, 126, [], 0), some (.invokevirtual 78, 129, [9, 142, 3, 1, 8, 3, 0], 0), none],
  [none, some (.bipush 12, 131, [], 0), none, some (.if_icmp .ne 8, 134, [139], 0), none, none, some (.bipush (-4), 136, [], 0), none, some (.goto 4, 139, [140], 0), none, none, some (.iconst 0, 140, [], 0), some (.ireturn, 141, [0], 0)]]
def ob_c_X8_noteNow : List (List (Option ob_Ent)) := [[some (.aload_n 0, 1, [], 0), some (.iload_n 1, 2, [], 0), some (.iconst 2, 3, [], 0), some (.invokevirtual 78, 6, [9, 142, 3, 1, 8, 3, 0], 0), none, none, some (.istore 5, 8, [], 0), none, some (.aload_n 0, 9, [], 0), some (.iload_n 1, 10, [], 0), some (.iconst 3, 11, [], 0), some (.iconst 3, 12, [], 0), some (.iload 5, 14, [], 0), none, some (.imul, 15, [], 0), some (.iadd, 16, [], 0)],
  [some (.iload_n 2, 17, [], 0), some (.invokevirtual 131, 20, [9, 143, 4, 0, 8, 4, 0], 0), none, none, some (.aload_n 0, 21, [], 0), some (.iload_n 1, 22, [], 0), some (.iconst 3, 23, [], 0), some (.iconst 3, 24, [], 0), some (.iload 5, 26, [], 0), none, some (.imul, 27, [], 0), some (.iadd, 28, [], 0), some (.iconst 1, 29, [], 0), some (.iadd, 30, [], 0), some (.iload_n 3, 31, [], 0), some (.invokevirtual 131, 34, [9, 143, 4, 0, 8, 4, 0], 0)],
  [none, none, some (.aload_n 0, 35, [], 0), some (.iload_n 1, 36, [], 0), some (.iconst 3, 37, [], 0), some (.iconst 3, 38, [], 0), some (.iload 5, 40, [], 0), none, some (.imul, 41, [], 0), some (.iadd, 42, [], 0), some (.iconst 2, 43, [], 0), some (.iadd, 44, [], 0), some (.iload 4, 46, [], 0), none, some (.invokevirtual 131, 49, [9, 143, 4, 0, 8, 4, 0], 0), none],
  [none, some (.aload_n 0, 50, [], 0), some (.iload_n 1, 51, [], 0), some (.iconst 2, 52, [], 0), some (.iload 5, 54, [], 0), none, some (.iconst 1, 55, [], 0), some (.iadd, 56, [], 0), some (.invokevirtual 131, 59, [9, 143, 4, 0, 8, 4, 0], 0), none, none, some (.iload 5, 61, [], 0), none, some (.ireturn, 62, [0], 0)]]
def ob_c_X8_note : List (List (Option ob_Ent)) := [[some (.aload_n 0, 1, [], 0), some (.iload_n 1, 2, [], 0), some (.iload_n 2, 3, [], 0), some (.iload_n 3, 4, [], 0), some (.iload 4, 6, [], 0), none, some (.invokevirtual 143, 9, [9, 164, 5, 1, 8, 6, 0], 0), none, none, some (.istore 5, 11, [], 0), none, some (.iload 5, 13, [], 0), none, some (.ifCond .ge 10, 16, [23], 0), none, none],
  [some (.aload_n 0, 17, [], 0), some (.iload 5, 19, [], 0), none, some (.invokevirtual 106, 22, [9, 135, 2, 1, 8, 2, 0], 0), none, none, some (.ireturn, 23, [0], 0), some (.aload_n 0, 24, [], 0), some (.invokevirtual 110, 27, [9, 136, 1, 0, 8, 2, 0], 0), none, none, some (.aload_n 0, 28, [], 0), some (.iload_n 1, 29, [], 0), some (.iload_n 2, 30, [], 0), some (.iload_n 3, 31, [], 0), some (.iload 4, 33, [], 0)],
  [none, some (.invokevirtual 147, 36, [9, 165, 5, 1, 8, 6, 0], 0), none, none, some (.ireturn, 37, [0], 0)]]
def ob_c_X8_isNote : List (List (Option ob_Ent)) := [[some (.aload_n 0, 1, [], 0), some (.iload_n 1, 2, [], 0), some (.invokevirtual 128, 5, [9, 140, 2, 1, 8, 2, 0], 0), none, none, some (.ifCond .eq 25, 8, [30], 0), none, none, some (.iload_n 2, 9, [], 0), some (.i2l, 10, [], 0), some (.lconst 0, 11, [], 0), some (.aload_n 0, 12, [], 0), some (.iload_n 1, 13, [], 0), some (.iconst 2, 14, [], 0), some (.invokevirtual 78, 17, [9, 142, 3, 1, 8, 3, 0], 0), none],
  [none, some (.iconst 1, 18, [], 0), some (.isub, 19, [], 0), some (.i2l, 20, [], 0), some (.invokestatic 74, 23, [9, 134, 3, 1, 8, 6, 0], 0), none, none, some (.ifCond .eq 7, 26, [30], 0), none, none, some (.iconst 1, 27, [], 0), some (.goto 4, 30, [31], 0), none, none, some (.iconst 0, 31, [], 0), some (.ireturn, 32, [1], 0)]]
def ob_c_X8_drop : List (List (Option ob_Ent)) := [[some (.aload_n 0, 1, [], 0), some (.iload_n 1, 2, [], 0), some (.iload_n 2, 3, [], 0), some (.invokevirtual 150, 6, [9, 167, 3, 1, 8, 3, 0], 0), none, none, some (.ifCond .ne 10, 9, [16], 0), none, none, some (.aload_n 0, 10, [], 0), some (.bipush (-2), 12, [], 0), none, some (.invokevirtual 106, 15, [9, 135, 2, 1, 8, 2, 0], 0), none, none, some (.ireturn, 16, [0], 0)],
  [some (.aload_n 0, 17, [], 0), some (.invokevirtual 110, 20, [9, 136, 1, 0, 8, 2, 0], 0), none, none, some (.iconst 3, 21, [], 0), some (.iload_n 2, 22, [], 0), some (.imul, 23, [], 0), some (.istore_n 3, 24, [], 0), some (.iload_n 3, 25, [], 0), some (.iconst 3, 26, [], 0), some (.aload_n 0, 27, [], 0), some (.iload_n 1, 28, [], 0), some (.iconst 2, 29, [], 0), some (.invokevirtual 78, 32, [9, 142, 3, 1, 8, 3, 0], 0), none, none],
  [some (.iconst 1, 33, [], 0), some (.isub, 34, [], 0), some (.imul, 35, [], 0), some (.if_icmp .ge 27, 38, [62], 0), none, none, some (.aload_n 0, 39, [], 0), some (.iload_n 1, 40, [], 0), some (.iconst 3, 41, [], 0), some (.iload_n 3, 42, [], 0), some (.iadd, 43, [], 0), some (.aload_n 0, 44, [], 0), some (.iload_n 1, 45, [], 0), some (.iconst 3, 46, [], 0), some (.iload_n 3, 47, [], 0), some (.iadd, 48, [], 0)],
  [some (.iconst 3, 49, [], 0), some (.iadd, 50, [], 0), some (.invokevirtual 78, 53, [9, 142, 3, 1, 8, 3, 0], 0), none, none, some (.invokevirtual 131, 56, [9, 143, 4, 0, 8, 4, 0], 0), none, none, some (.iinc 3 1, 59, [], 0), none, none, some (.goto (-35), 62, [24], 0), none, none, some (.aload_n 0, 63, [], 0), some (.iload_n 1, 64, [], 0)],
  [some (.iconst 2, 65, [], 0), some (.aload_n 0, 66, [], 0), some (.iload_n 1, 67, [], 0), some (.iconst 2, 68, [], 0), some (.invokevirtual 78, 71, [9, 142, 3, 1, 8, 3, 0], 0), none, none, some (.iconst 1, 72, [], 0), some (.isub, 73, [], 0), some (.invokevirtual 131, 76, [9, 143, 4, 0, 8, 4, 0], 0), none, none, some (.aload_n 0, 77, [], 0), some (.iload_n 1, 78, [], 0), some (.iconst 2, 79, [], 0), some (.invokevirtual 78, 82, [9, 142, 3, 1, 8, 3, 0], 0)],
  [none, none, some (.ireturn, 83, [0], 0)]]
def ob_c_X8_canShift : List (List (Option ob_Ent)) := [[some (.aload_n 0, 1, [], 0), some (.iload_n 1, 2, [], 0), some (.invokevirtual 128, 5, [9, 140, 2, 1, 8, 2, 0], 0), none, none, some (.ifCond .eq 23, 8, [28], 0), none, none, some (.iload_n 2, 9, [], 0), some (.i2l, 10, [], 0), some (.lconst 0, 11, [], 0), some (.aload_n 0, 12, [], 0), some (.invokevirtual 82, 15, [9, 138, 1, 1, 8, 1, 0], 0), none, none, some (.iconst 1, 16, [], 0)],
  [some (.isub, 17, [], 0), some (.i2l, 18, [], 0), some (.invokestatic 74, 21, [9, 134, 3, 1, 8, 6, 0], 0), none, none, some (.ifCond .eq 7, 24, [28], 0), none, none, some (.iconst 0, 25, [], 0), some (.goto 5, 28, [30], 0), none, none, some (.bipush (-2), 30, [], 0), none, some (.ireturn, 31, [0], 0)]]
def ob_c_X8_shiftNow : List (List (Option ob_Ent)) := [[some (.aload_n 0, 1, [], 0), some (.iload_n 1, 2, [], 0), some (.iconst 1, 3, [], 0), some (.invokevirtual 78, 6, [9, 142, 3, 1, 8, 3, 0], 0), none, none, some (.istore_n 3, 7, [], 0), some (.aload_n 0, 8, [], 0), some (.iload_n 1, 9, [], 0), some (.iconst 1, 10, [], 0), some (.iload_n 2, 11, [], 0), some (.invokevirtual 131, 14, [9, 143, 4, 0, 8, 4, 0], 0), none, none, some (.iload_n 3, 15, [], 0), some (.ireturn, 16, [0], 0)]]
def ob_c_X8_shift : List (List (Option ob_Ent)) := [[some (.aload_n 0, 1, [], 0), some (.iload_n 1, 2, [], 0), some (.iload_n 2, 3, [], 0), some (.invokevirtual 154, 6, [9, 169, 3, 1, 8, 3, 0], 0), none, none, some (.ifCond .ge 10, 9, [16], 0), none, none, some (.aload_n 0, 10, [], 0), some (.bipush (-2), 12, [], 0), none, some (.invokevirtual 106, 15, [9, 135, 2, 1, 8, 2, 0], 0), none, none, some (.ireturn, 16, [0], 0)],
  [some (.aload_n 0, 17, [], 0), some (.invokevirtual 110, 20, [9, 136, 1, 0, 8, 2, 0], 0), none, none, some (.aload_n 0, 21, [], 0), some (.iload_n 1, 22, [], 0), some (.iload_n 2, 23, [], 0), some (.invokevirtual 157, 26, [9, 170, 3, 1, 8, 4, 0], 0), none, none, some (.ireturn, 27, [0], 0)]]
def ob_c_X8_tuneNow : List (List (Option ob_Ent)) := [[some (.iload_n 2, 1, [], 0), some (.tableswitch 132 0 6 #[43, 50, 57, 64, 72, 92, 112], 44, [133, 44, 51, 58, 65, 73, 93, 113], 0), none, none, none, none, none, none, none, none, none, none, none, none, none, none],
  [none, none, none, none, none, none, none, none, none, none, none, none, none, none, none, none],
  [none, none, none, none, none, none, none, none, none, none, none, none, some (.aload_n 0, 45, [], 0), some (.iload_n 1, 46, [], 0), some (.iconst 0, 47, [], 0), some (.invokevirtual 78, 50, [9, 142, 3, 1, 8, 3, 0], 0)],
  [none, none, some (.ireturn, 51, [0], 0), some (.aload_n 0, 52, [], 0), some (.iload_n 1, 53, [], 0), some (.iconst 2, 54, [], 0), some (.invokevirtual 78, 57, [9, 142, 3, 1, 8, 3, 0], 0), none, none, some (.ireturn, 58, [0], 0), some (.aload_n 0, 59, [], 0), some (.iload_n 1, 60, [], 0), some (.iconst 1, 61, [], 0), some (.invokevirtual 78, 64, [9, 142, 3, 1, 8, 3, 0], 0), none, none],
  [some (.ireturn, 65, [0], 0), some (.aload_n 0, 66, [], 0), some (.iload_n 1, 67, [], 0), some (.bipush 39, 69, [], 0), none, some (.invokevirtual 78, 72, [9, 142, 3, 1, 8, 3, 0], 0), none, none, some (.ireturn, 73, [0], 0), some (.aload_n 0, 74, [], 0), some (.iload_n 1, 75, [], 0), some (.invokevirtual 160, 78, [9, 144, 2, 1, 8, 2, 0], 0), none, none, some (.ifCond .eq 13, 81, [91], 0), none],
  [none, some (.aload_n 0, 82, [], 0), some (.iload_n 1, 83, [], 0), some (.bipush 40, 85, [], 0), none, some (.invokevirtual 78, 88, [9, 142, 3, 1, 8, 3, 0], 0), none, none, some (.goto 4, 91, [92], 0), none, none, some (.iconst (-1), 92, [], 0), some (.ireturn, 93, [0], 0), some (.aload_n 0, 94, [], 0), some (.iload_n 1, 95, [], 0), some (.invokevirtual 160, 98, [9, 144, 2, 1, 8, 2, 0], 0)],
  [none, none, some (.ifCond .eq 13, 101, [111], 0), none, none, some (.aload_n 0, 102, [], 0), some (.iload_n 1, 103, [], 0), some (.bipush 41, 105, [], 0), none, some (.invokevirtual 78, 108, [9, 142, 3, 1, 8, 3, 0], 0), none, none, some (.goto 4, 111, [112], 0), none, none, some (.iconst (-1), 112, [], 0)],
  [some (.ireturn, 113, [0], 0), some (.aload_n 0, 114, [], 0), some (.iload_n 1, 115, [], 0), some (.invokevirtual 160, 118, [9, 144, 2, 1, 8, 2, 0], 0), none, none, some (.ifCond .eq 13, 121, [131], 0), none, none, some (.aload_n 0, 122, [], 0), some (.iload_n 1, 123, [], 0), some (.bipush 43, 125, [], 0), none, some (.invokevirtual 78, 128, [9, 142, 3, 1, 8, 3, 0], 0), none, none],
  [some (.goto 4, 131, [132], 0), none, none, some (.iconst (-1), 132, [], 0), some (.ireturn, 133, [0], 0), some (.aload_n 0, 134, [], 0), some (.iload_n 1, 135, [], 0), some (.invokevirtual 160, 138, [9, 144, 2, 1, 8, 2, 0], 0), none, none, some (.ifCond .eq 13, 141, [151], 0), none, none, some (.aload_n 0, 142, [], 0), some (.iload_n 1, 143, [], 0), some (.bipush 42, 145, [], 0)],
  [none, some (.invokevirtual 78, 148, [9, 142, 3, 1, 8, 3, 0], 0), none, none, some (.goto 4, 151, [152], 0), none, none, some (.iconst (-1), 152, [], 0), some (.ireturn, 153, [0], 0)]]
def ob_c_X8_tune : List (List (Option ob_Ent)) := [[some (.aload_n 0, 1, [], 0), some (.iload_n 1, 2, [], 0), some (.invokevirtual 128, 5, [9, 140, 2, 1, 8, 2, 0], 0), none, none, some (.ifCond .eq 24, 8, [29], 0), none, none, some (.iload_n 2, 9, [], 0), some (.i2l, 10, [], 0), some (.lconst 0, 11, [], 0), some (.ldc2_w 163, 14, [7], 7), none, none, some (.invokestatic 74, 17, [9, 134, 3, 1, 8, 6, 0], 0), none],
  [none, some (.ifCond .eq 12, 20, [29], 0), none, none, some (.aload_n 0, 21, [], 0), some (.iload_n 1, 22, [], 0), some (.iload_n 2, 23, [], 0), some (.invokevirtual 165, 26, [9, 172, 3, 1, 8, 3, 0], 0), none, none, some (.goto 9, 29, [35], 0), none, none, some (.aload_n 0, 30, [], 0), some (.bipush (-2), 32, [], 0), none],
  [some (.invokevirtual 106, 35, [9, 135, 2, 1, 8, 2, 0], 0), none, none, some (.ireturn, 36, [0], 0)]]
def ob_c_X8_noteTold : List (List (Option ob_Ent)) := [[some (.iload_n 3, 1, [], 0), some (.ifCond .ne 12, 4, [13], 0), none, none, some (.aload_n 0, 5, [], 0), some (.iload_n 1, 6, [], 0), some (.iload_n 2, 7, [], 0), some (.invokevirtual 140, 10, [9, 148, 3, 1, 8, 3, 0], 0), none, none, some (.goto 57, 13, [67], 0), none, none, some (.iload_n 3, 14, [], 0), some (.iconst 1, 15, [], 0), some (.if_icmp .ne 12, 18, [27], 0)],
  [none, none, some (.aload_n 0, 19, [], 0), some (.iload_n 1, 20, [], 0), some (.iload_n 2, 21, [], 0), some (.invokevirtual 89, 24, [9, 149, 3, 1, 8, 3, 0], 0), none, none, some (.goto 43, 27, [67], 0), none, none, some (.iload_n 3, 28, [], 0), some (.iconst 2, 29, [], 0), some (.if_icmp .ne 12, 32, [41], 0), none, none],
  [some (.aload_n 0, 33, [], 0), some (.iload_n 1, 34, [], 0), some (.iload_n 2, 35, [], 0), some (.invokevirtual 95, 38, [9, 150, 3, 1, 8, 3, 0], 0), none, none, some (.goto 29, 41, [67], 0), none, none, some (.iload_n 3, 42, [], 0), some (.iconst 3, 43, [], 0), some (.if_icmp .ne 18, 46, [61], 0), none, none, some (.aload_n 0, 47, [], 0), some (.iload_n 1, 48, [], 0)],
  [some (.iload_n 2, 49, [], 0), some (.aload_n 0, 50, [], 0), some (.iload_n 1, 51, [], 0), some (.iconst 1, 52, [], 0), some (.invokevirtual 78, 55, [9, 142, 3, 1, 8, 3, 0], 0), none, none, some (.invokevirtual 168, 58, [9, 151, 4, 1, 8, 4, 0], 0), none, none, some (.goto 9, 61, [67], 0), none, none, some (.aload_n 0, 62, [], 0), some (.iload_n 1, 63, [], 0), some (.iload_n 2, 64, [], 0)],
  [some (.invokevirtual 171, 67, [9, 152, 3, 1, 8, 3, 0], 0), none, none, some (.ireturn, 68, [0], 0)]]
def ob_c_X8_noteOf : List (List (Option ob_Ent)) := [[some (.aload_n 0, 1, [], 0), some (.iload_n 1, 2, [], 0), some (.iload_n 2, 3, [], 0), some (.invokevirtual 150, 6, [9, 167, 3, 1, 8, 3, 0], 0), none, none, some (.ifCond .eq 25, 9, [31], 0), none, none, some (.iload_n 3, 10, [], 0), some (.i2l, 11, [], 0), some (.lconst 0, 12, [], 0), some (.ldc2_w 174, 15, [4], 4), none, none, some (.invokestatic 74, 18, [9, 134, 3, 1, 8, 6, 0], 0)],
  [none, none, some (.ifCond .eq 13, 21, [31], 0), none, none, some (.aload_n 0, 22, [], 0), some (.iload_n 1, 23, [], 0), some (.iload_n 2, 24, [], 0), some (.iload_n 3, 25, [], 0), some (.invokevirtual 176, 28, [9, 174, 4, 1, 8, 4, 0], 0), none, none, some (.goto 9, 31, [37], 0), none, none, some (.aload_n 0, 32, [], 0)],
  [some (.bipush (-2), 34, [], 0), none, some (.invokevirtual 106, 37, [9, 135, 2, 1, 8, 2, 0], 0), none, none, some (.ireturn, 38, [0], 0)]]
def ob_c_X8_because : List (List (Option ob_Ent)) := [[some (.aload_n 0, 1, [], 0), some (.iload_n 1, 2, [], 0), some (.putfield 179, 5, [8, 6, 0, 0, 0], 6), none, none, some (.aload_n 0, 6, [], 0), some (.iload_n 2, 7, [], 0), some (.putfield 182, 10, [8, 7, 0, 0, 0], 7), none, none, some (.aload_n 0, 11, [], 0), some (.iload_n 3, 12, [], 0), some (.putfield 185, 15, [8, 8, 0, 0, 0], 8), none, none, some (.bipush (-3), 17, [], 0)],
  [none, some (.ireturn, 18, [0], 0)]]
def ob_c_X8_freeBehind : List (List (Option ob_Ent)) := [[some (.aload_n 0, 1, [], 0), some (.invokevirtual 82, 4, [9, 138, 1, 1, 8, 1, 0], 0), none, none, some (.istore_n 3, 5, [], 0), some (.iconst 0, 6, [], 0), some (.istore 4, 8, [], 0), none, some (.iload 4, 10, [], 0), none, some (.aload_n 0, 11, [], 0), some (.iload_n 1, 12, [], 0), some (.iconst 2, 13, [], 0), some (.invokevirtual 78, 16, [9, 142, 3, 1, 8, 3, 0], 0), none, none],
  [some (.if_icmp .ge 65, 19, [81], 0), none, none, some (.iload 4, 21, [], 0), none, some (.iload_n 2, 22, [], 0), some (.if_icmp .eq 53, 25, [75], 0), none, none, some (.aload_n 0, 26, [], 0), some (.iload_n 1, 27, [], 0), some (.iload 4, 29, [], 0), none, some (.invokevirtual 140, 32, [9, 148, 3, 1, 8, 3, 0], 0), none, none],
  [some (.aload_n 0, 33, [], 0), some (.iload_n 1, 34, [], 0), some (.iload_n 2, 35, [], 0), some (.invokevirtual 140, 38, [9, 148, 3, 1, 8, 3, 0], 0), none, none, some (.if_icmp .ne 37, 41, [75], 0), none, none, some (.aload_n 0, 42, [], 0), some (.aload_n 0, 43, [], 0), some (.iload_n 1, 44, [], 0), some (.iload_n 2, 45, [], 0), some (.iconst 0, 46, [], 0), some (.invokevirtual 168, 49, [9, 151, 4, 1, 8, 4, 0], 0), none],
  [none, some (.aload_n 0, 50, [], 0), some (.iload_n 1, 51, [], 0), some (.iload 4, 53, [], 0), none, some (.iconst 0, 54, [], 0), some (.invokevirtual 168, 57, [9, 151, 4, 1, 8, 4, 0], 0), none, none, some (.invokevirtual 188, 60, [9, 145, 3, 1, 8, 4, 0], 0), none, none, some (.istore 5, 62, [], 0), none, some (.iload 5, 64, [], 0), none],
  [some (.iload_n 3, 65, [], 0), some (.if_icmp .ge 8, 68, [73], 0), none, none, some (.iload 5, 70, [], 0), none, some (.goto 4, 73, [74], 0), none, none, some (.iload_n 3, 74, [], 0), some (.istore_n 3, 75, [], 0), some (.iinc 4 1, 78, [], 0), none, none, some (.goto (-70), 81, [8], 0), none],
  [none, some (.iload_n 3, 82, [], 0), some (.aload_n 0, 83, [], 0), some (.iload_n 1, 84, [], 0), some (.iload_n 2, 85, [], 0), some (.invokevirtual 171, 88, [9, 152, 3, 1, 8, 3, 0], 0), none, none, some (.isub, 89, [], 0), some (.ireturn, 90, [0], 0)]]
def ob_c_X8_isWide : List (List (Option ob_Ent)) := [[some (.iconst 0, 1, [], 0), some (.istore_n 2, 2, [], 0), some (.iload_n 2, 3, [], 0), some (.aload_n 0, 4, [], 0), some (.iload_n 1, 5, [], 0), some (.iconst 2, 6, [], 0), some (.invokevirtual 78, 9, [9, 142, 3, 1, 8, 3, 0], 0), none, none, some (.if_icmp .ge 47, 12, [56], 0), none, none, some (.aload_n 0, 13, [], 0), some (.iload_n 1, 14, [], 0), some (.iload_n 2, 15, [], 0), some (.invokevirtual 191, 18, [9, 177, 3, 1, 8, 6, 0], 0)],
  [none, none, some (.aload_n 0, 19, [], 0), some (.getfield 7, 22, [8, 0, 41, 3], 0), none, none, some (.bipush 6, 24, [], 0), none, some (.aload_n 0, 25, [], 0), some (.iload_n 1, 26, [], 0), some (.iload_n 2, 27, [], 0), some (.invokevirtual 140, 30, [9, 148, 3, 1, 8, 3, 0], 0), none, none, some (.iadd, 31, [], 0), some (.iaload, 32, [], 0)],
  [some (.if_icmp .ge 18, 35, [50], 0), none, none, some (.aload_n 0, 36, [], 0), some (.iconst 1, 37, [], 0), some (.iload_n 2, 38, [], 0), some (.aload_n 0, 39, [], 0), some (.iload_n 1, 40, [], 0), some (.iload_n 2, 41, [], 0), some (.invokevirtual 191, 44, [9, 177, 3, 1, 8, 6, 0], 0), none, none, some (.invokevirtual 194, 47, [9, 176, 4, 1, 8, 4, 0], 0), none, none, some (.istore_n 3, 48, [], 0)],
  [some (.iconst 0, 49, [], 0), some (.ireturn, 50, [1], 0), some (.iinc 2 1, 53, [], 0), none, none, some (.goto (-51), 56, [2], 0), none, none, some (.iconst 1, 57, [], 0), some (.ireturn, 58, [1], 0)]]
def ob_c_X8_isBeside : List (List (Option ob_Ent)) := [[some (.iload_n 1, 1, [], 0), some (.iload_n 3, 2, [], 0), some (.if_icmp .ne 17, 5, [19], 0), none, none, some (.iload_n 2, 6, [], 0), some (.iload 4, 8, [], 0), none, some (.if_icmp .ne 7, 11, [15], 0), none, none, some (.iconst 1, 12, [], 0), some (.goto 47, 15, [59], 0), none, none, some (.iconst 0, 16, [], 0)],
  [some (.goto 43, 19, [59], 0), none, none, some (.aload_n 0, 20, [], 0), some (.iload_n 1, 21, [], 0), some (.iload_n 3, 22, [], 0), some (.invokevirtual 188, 25, [9, 145, 3, 1, 8, 4, 0], 0), none, none, some (.iload_n 2, 26, [], 0), some (.aload_n 0, 27, [], 0), some (.getfield 7, 30, [8, 0, 41, 3], 0), none, none, some (.iconst 4, 31, [], 0), some (.iaload, 32, [], 0)],
  [some (.iadd, 33, [], 0), some (.if_icmp .lt 25, 36, [58], 0), none, none, some (.aload_n 0, 37, [], 0), some (.iload_n 3, 38, [], 0), some (.iload_n 1, 39, [], 0), some (.invokevirtual 188, 42, [9, 145, 3, 1, 8, 4, 0], 0), none, none, some (.iload 4, 44, [], 0), none, some (.aload_n 0, 45, [], 0), some (.getfield 7, 48, [8, 0, 41, 3], 0), none, none],
  [some (.iconst 4, 49, [], 0), some (.iaload, 50, [], 0), some (.iadd, 51, [], 0), some (.if_icmp .lt 7, 54, [58], 0), none, none, some (.iconst 1, 55, [], 0), some (.goto 4, 58, [59], 0), none, none, some (.iconst 0, 59, [], 0), some (.ireturn, 60, [1], 0)]]
def ob_c_X8_areNeighbours : List (List (Option ob_Ent)) := [[some (.iload_n 0, 1, [], 0), some (.iload_n 1, 2, [], 0), some (.isub, 3, [], 0), some (.iconst 1, 4, [], 0), some (.if_icmp .eq 10, 7, [14], 0), none, none, some (.iload_n 1, 8, [], 0), some (.iload_n 0, 9, [], 0), some (.isub, 10, [], 0), some (.iconst 1, 11, [], 0), some (.if_icmp .ne 7, 14, [18], 0), none, none, some (.iconst 1, 15, [], 0), some (.goto 4, 18, [19], 0)],
  [none, none, some (.iconst 0, 19, [], 0), some (.ireturn, 20, [1], 0)]]
def ob_c_X8_pinOf : List (List (Option ob_Ent)) := [[some (.aload_n 0, 1, [], 0), some (.iload_n 1, 2, [], 0), some (.bipush 44, 4, [], 0), none, some (.iconst 4, 5, [], 0), some (.iload_n 2, 6, [], 0), some (.imul, 7, [], 0), some (.iadd, 8, [], 0), some (.iload_n 3, 9, [], 0), some (.iadd, 10, [], 0), some (.invokevirtual 78, 13, [9, 142, 3, 1, 8, 3, 0], 0), none, none, some (.ireturn, 14, [0], 0)]]
def ob_c_X8_strange : List (List (Option ob_Ent)) := [[some (.iconst 0, 1, [], 0), some (.istore 5, 3, [], 0), none, some (.iload 5, 5, [], 0), none, some (.aload_n 0, 6, [], 0), some (.iload 4, 8, [], 0), none, some (.bipush 43, 10, [], 0), none, some (.invokevirtual 78, 13, [9, 142, 3, 1, 8, 3, 0], 0), none, none, some (.if_icmp .ge 86, 16, [99], 0), none, none],
  [some (.aload_n 0, 17, [], 0), some (.iload_n 1, 18, [], 0), some (.aload_n 0, 19, [], 0), some (.iload_n 1, 20, [], 0), some (.iload_n 2, 21, [], 0), some (.invokevirtual 140, 24, [9, 148, 3, 1, 8, 3, 0], 0), none, none, some (.invokevirtual 197, 27, [9, 153, 3, 1, 8, 3, 0], 0), none, none, some (.aload_n 0, 28, [], 0), some (.iload 4, 30, [], 0), none, some (.aload_n 0, 31, [], 0), some (.iload 4, 33, [], 0)],
  [none, some (.iload 5, 35, [], 0), none, some (.iconst 0, 36, [], 0), some (.invokevirtual 200, 39, [9, 181, 4, 1, 8, 4, 0], 0), none, none, some (.invokevirtual 197, 42, [9, 153, 3, 1, 8, 3, 0], 0), none, none, some (.invokestatic 203, 45, [9, 180, 2, 1, 8, 2, 0], 0), none, none, some (.istore 6, 47, [], 0), none, some (.iload 6, 49, [], 0)],
  [none, some (.ifCond .eq 44, 52, [93], 0), none, none, some (.aload_n 0, 53, [], 0), some (.aload_n 0, 54, [], 0), some (.iload_n 1, 55, [], 0), some (.iload_n 2, 56, [], 0), some (.iload_n 3, 57, [], 0), some (.invokevirtual 168, 60, [9, 151, 4, 1, 8, 4, 0], 0), none, none, some (.aload_n 0, 61, [], 0), some (.iload_n 1, 62, [], 0), some (.iload_n 2, 63, [], 0), some (.invokevirtual 171, 66, [9, 152, 3, 1, 8, 3, 0], 0)],
  [none, none, some (.aload_n 0, 67, [], 0), some (.iload 4, 69, [], 0), none, some (.iload 5, 71, [], 0), none, some (.iconst 1, 72, [], 0), some (.invokevirtual 200, 75, [9, 181, 4, 1, 8, 4, 0], 0), none, none, some (.aload_n 0, 76, [], 0), some (.iload 4, 78, [], 0), none, some (.iload 5, 80, [], 0), none],
  [some (.iconst 2, 81, [], 0), some (.invokevirtual 200, 84, [9, 181, 4, 1, 8, 4, 0], 0), none, none, some (.invokevirtual 206, 87, [9, 179, 5, 1, 8, 5, 0], 0), none, none, some (.ifCond .ne 6, 90, [93], 0), none, none, some (.iload 5, 92, [], 0), none, some (.ireturn, 93, [0], 0), some (.iinc 5 1, 96, [], 0), none, none],
  [some (.goto (-93), 99, [3], 0), none, none, some (.iconst (-1), 100, [], 0), some (.ireturn, 101, [0], 0)]]
def ob_c_X8_isFree : List (List (Option ob_Ent)) := [[some (.iconst 0, 1, [], 0), some (.istore_n 3, 2, [], 0), some (.iload_n 3, 3, [], 0), some (.aload_n 0, 4, [], 0), some (.iload_n 1, 5, [], 0), some (.iconst 2, 6, [], 0), some (.invokevirtual 78, 9, [9, 142, 3, 1, 8, 3, 0], 0), none, none, some (.if_icmp .ge 81, 12, [90], 0), none, none, some (.iconst 0, 13, [], 0), some (.istore 4, 15, [], 0), none, some (.iload 4, 17, [], 0)],
  [none, some (.aload_n 0, 18, [], 0), some (.invokevirtual 70, 21, [9, 139, 1, 1, 8, 1, 0], 0), none, none, some (.if_icmp .ge 63, 24, [84], 0), none, none, some (.iload 4, 26, [], 0), none, some (.iload_n 1, 27, [], 0), some (.if_icmp .eq 24, 30, [51], 0), none, none, some (.aload_n 0, 31, [], 0), some (.iload 4, 33, [], 0)],
  [none, some (.invokevirtual 160, 36, [9, 144, 2, 1, 8, 2, 0], 0), none, none, some (.ifCond .eq 15, 39, [51], 0), none, none, some (.aload_n 0, 40, [], 0), some (.iload_n 1, 41, [], 0), some (.iload_n 3, 42, [], 0), some (.iload_n 2, 43, [], 0), some (.iload 4, 45, [], 0), none, some (.invokevirtual 210, 48, [9, 182, 5, 1, 8, 7, 0], 0), none, none],
  [some (.goto 4, 51, [52], 0), none, none, some (.iconst (-1), 52, [], 0), some (.istore 5, 54, [], 0), none, some (.iload 5, 56, [], 0), none, some (.iconst (-1), 57, [], 0), some (.if_icmp .eq 21, 60, [78], 0), none, none, some (.aload_n 0, 61, [], 0), some (.iconst 2, 62, [], 0), some (.iload_n 3, 63, [], 0), some (.bipush 16, 65, [], 0)],
  [none, some (.iload 4, 67, [], 0), none, some (.imul, 68, [], 0), some (.iload 5, 70, [], 0), none, some (.iadd, 71, [], 0), some (.invokevirtual 194, 74, [9, 176, 4, 1, 8, 4, 0], 0), none, none, some (.istore 6, 76, [], 0), none, some (.iconst 0, 77, [], 0), some (.ireturn, 78, [1], 0), some (.iinc 4 1, 81, [], 0), none],
  [none, some (.goto (-66), 84, [15], 0), none, none, some (.iinc 3 1, 87, [], 0), none, none, some (.goto (-85), 90, [2], 0), none, none, some (.iconst 1, 91, [], 0), some (.ireturn, 92, [1], 0)]]
def ob_c_X8_canPin : List (List (Option ob_Ent)) := [[some (.aload_n 0, 1, [], 0), some (.iload_n 1, 2, [], 0), some (.invokevirtual 128, 5, [9, 140, 2, 1, 8, 2, 0], 0), none, none, some (.ifCond .ne 6, 8, [11], 0), none, none, some (.bipush (-2), 10, [], 0), none, some (.ireturn, 11, [0], 0), some (.aload_n 0, 12, [], 0), some (.iload_n 1, 13, [], 0), some (.iconst 2, 14, [], 0), some (.invokevirtual 78, 17, [9, 142, 3, 1, 8, 3, 0], 0), none],
  [none, some (.ifCond .ne 11, 20, [28], 0), none, none, some (.aload_n 0, 21, [], 0), some (.iconst 4, 22, [], 0), some (.iconst 0, 23, [], 0), some (.iconst 0, 24, [], 0), some (.invokevirtual 194, 27, [9, 176, 4, 1, 8, 4, 0], 0), none, none, some (.ireturn, 28, [0], 0), some (.aload_n 0, 29, [], 0), some (.iload_n 1, 30, [], 0), some (.invokevirtual 213, 33, [9, 178, 2, 1, 8, 4, 0], 0), none],
  [none, some (.ifCond .eq 21, 36, [54], 0), none, none, some (.aload_n 0, 37, [], 0), some (.iload_n 1, 38, [], 0), some (.aload_n 0, 39, [], 0), some (.iload_n 1, 40, [], 0), some (.iconst 1, 41, [], 0), some (.invokevirtual 78, 44, [9, 142, 3, 1, 8, 3, 0], 0), none, none, some (.invokevirtual 216, 47, [9, 183, 3, 1, 8, 7, 0], 0), none, none, some (.ifCond .eq 7, 50, [54], 0)],
  [none, none, some (.iconst 0, 51, [], 0), some (.goto 5, 54, [56], 0), none, none, some (.bipush (-3), 56, [], 0), none, some (.ireturn, 57, [0], 0)]]
def ob_c_X8_pinNow : List (List (Option ob_Ent)) := [[some (.aload_n 0, 1, [], 0), some (.iload_n 1, 2, [], 0), some (.iconst 2, 3, [], 0), some (.invokevirtual 78, 6, [9, 142, 3, 1, 8, 3, 0], 0), none, none, some (.istore_n 2, 7, [], 0), some (.aload_n 0, 8, [], 0), some (.iload_n 1, 9, [], 0), some (.bipush 39, 11, [], 0), none, some (.iconst 1, 12, [], 0), some (.invokevirtual 131, 15, [9, 143, 4, 0, 8, 4, 0], 0), none, none, some (.aload_n 0, 16, [], 0)],
  [some (.iload_n 1, 17, [], 0), some (.bipush 40, 19, [], 0), none, some (.aload_n 0, 20, [], 0), some (.iload_n 1, 21, [], 0), some (.iconst 0, 22, [], 0), some (.invokevirtual 78, 25, [9, 142, 3, 1, 8, 3, 0], 0), none, none, some (.invokevirtual 131, 28, [9, 143, 4, 0, 8, 4, 0], 0), none, none, some (.aload_n 0, 29, [], 0), some (.iload_n 1, 30, [], 0), some (.bipush 41, 32, [], 0), none],
  [some (.aload_n 0, 33, [], 0), some (.iload_n 1, 34, [], 0), some (.iconst 1, 35, [], 0), some (.invokevirtual 78, 38, [9, 142, 3, 1, 8, 3, 0], 0), none, none, some (.invokevirtual 131, 41, [9, 143, 4, 0, 8, 4, 0], 0), none, none, some (.aload_n 0, 42, [], 0), some (.iload_n 1, 43, [], 0), some (.bipush 42, 45, [], 0), none, some (.aload_n 0, 46, [], 0), some (.getfield 7, 49, [8, 0, 41, 3], 0), none],
  [none, some (.iconst 3, 50, [], 0), some (.iaload, 51, [], 0), some (.invokevirtual 131, 54, [9, 143, 4, 0, 8, 4, 0], 0), none, none, some (.aload_n 0, 55, [], 0), some (.iload_n 1, 56, [], 0), some (.bipush 43, 58, [], 0), none, some (.iload_n 2, 59, [], 0), some (.invokevirtual 131, 62, [9, 143, 4, 0, 8, 4, 0], 0), none, none, some (.iconst 0, 63, [], 0), some (.istore_n 3, 64, [], 0)],
  [some (.iload_n 3, 65, [], 0), some (.iload_n 2, 66, [], 0), some (.if_icmp .ge 120, 69, [186], 0), none, none, some (.aload_n 0, 70, [], 0), some (.iload_n 1, 71, [], 0), some (.bipush 44, 73, [], 0), none, some (.iconst 4, 74, [], 0), some (.iload_n 3, 75, [], 0), some (.imul, 76, [], 0), some (.iadd, 77, [], 0), some (.aload_n 0, 78, [], 0), some (.iload_n 1, 79, [], 0), some (.iload_n 3, 80, [], 0)],
  [some (.invokevirtual 140, 83, [9, 148, 3, 1, 8, 3, 0], 0), none, none, some (.invokevirtual 131, 86, [9, 143, 4, 0, 8, 4, 0], 0), none, none, some (.aload_n 0, 87, [], 0), some (.iload_n 1, 88, [], 0), some (.bipush 44, 90, [], 0), none, some (.iconst 4, 91, [], 0), some (.iload_n 3, 92, [], 0), some (.imul, 93, [], 0), some (.iadd, 94, [], 0), some (.iconst 1, 95, [], 0), some (.iadd, 96, [], 0)],
  [some (.aload_n 0, 97, [], 0), some (.iload_n 1, 98, [], 0), some (.iload_n 3, 99, [], 0), some (.aload_n 0, 100, [], 0), some (.iload_n 1, 101, [], 0), some (.iconst 1, 102, [], 0), some (.invokevirtual 78, 105, [9, 142, 3, 1, 8, 3, 0], 0), none, none, some (.invokevirtual 168, 108, [9, 151, 4, 1, 8, 4, 0], 0), none, none, some (.invokevirtual 131, 111, [9, 143, 4, 0, 8, 4, 0], 0), none, none, some (.aload_n 0, 112, [], 0)],
  [some (.iload_n 1, 113, [], 0), some (.bipush 44, 115, [], 0), none, some (.iconst 4, 116, [], 0), some (.iload_n 3, 117, [], 0), some (.imul, 118, [], 0), some (.iadd, 119, [], 0), some (.iconst 2, 120, [], 0), some (.iadd, 121, [], 0), some (.aload_n 0, 122, [], 0), some (.iload_n 1, 123, [], 0), some (.iload_n 3, 124, [], 0), some (.invokevirtual 171, 127, [9, 152, 3, 1, 8, 3, 0], 0), none, none, some (.invokevirtual 131, 130, [9, 143, 4, 0, 8, 4, 0], 0)],
  [none, none, some (.aload_n 0, 131, [], 0), some (.iload_n 1, 132, [], 0), some (.bipush 44, 134, [], 0), none, some (.iconst 4, 135, [], 0), some (.iload_n 3, 136, [], 0), some (.imul, 137, [], 0), some (.iadd, 138, [], 0), some (.iconst 3, 139, [], 0), some (.iadd, 140, [], 0), some (.iconst 0, 141, [], 0), some (.invokevirtual 131, 144, [9, 143, 4, 0, 8, 4, 0], 0), none, none],
  [some (.aload_n 0, 145, [], 0), some (.iload_n 1, 146, [], 0), some (.bipush 92, 148, [], 0), none, some (.iconst 2, 149, [], 0), some (.iload_n 3, 150, [], 0), some (.imul, 151, [], 0), some (.iadd, 152, [], 0), some (.aload_n 0, 153, [], 0), some (.iload_n 1, 154, [], 0), some (.iload_n 3, 155, [], 0), some (.invokevirtual 89, 158, [9, 149, 3, 1, 8, 3, 0], 0), none, none, some (.invokevirtual 131, 161, [9, 143, 4, 0, 8, 4, 0], 0), none],
  [none, some (.aload_n 0, 162, [], 0), some (.iload_n 1, 163, [], 0), some (.bipush 92, 165, [], 0), none, some (.iconst 2, 166, [], 0), some (.iload_n 3, 167, [], 0), some (.imul, 168, [], 0), some (.iadd, 169, [], 0), some (.iconst 1, 170, [], 0), some (.iadd, 171, [], 0), some (.aload_n 0, 172, [], 0), some (.iload_n 1, 173, [], 0), some (.iload_n 3, 174, [], 0), some (.invokevirtual 95, 177, [9, 150, 3, 1, 8, 3, 0], 0), none],
  [none, some (.invokevirtual 131, 180, [9, 143, 4, 0, 8, 4, 0], 0), none, none, some (.iinc 3 1, 183, [], 0), none, none, some (.goto (-119), 186, [64], 0), none, none, some (.iload_n 2, 187, [], 0), some (.ireturn, 188, [0], 0)]]
def ob_c_X8_blames : List (List (Option ob_Ent)) := [[some (.aload_n 0, 1, [], 0), some (.getfield 22, 4, [8, 5, 45, 3], 5), none, none, some (.iconst 0, 5, [], 0), some (.iload_n 1, 6, [], 0), some (.iastore, 7, [], 0), some (.aload_n 0, 8, [], 0), some (.getfield 22, 11, [8, 5, 45, 3], 5), none, none, some (.iconst 1, 12, [], 0), some (.iload_n 1, 13, [], 0), some (.iconst 3, 14, [], 0), some (.if_icmp .ge 10, 17, [24], 0), none],
  [none, some (.aload_n 0, 18, [], 0), some (.getfield 182, 21, [8, 7, 0, 0], 7), none, none, some (.goto 4, 24, [25], 0), none, none, some (.iconst 0, 25, [], 0), some (.iastore, 26, [], 0), some (.aload_n 0, 27, [], 0), some (.getfield 22, 30, [8, 5, 45, 3], 5), none, none, some (.iconst 2, 31, [], 0), some (.iload_n 1, 32, [], 0)],
  [some (.iconst 3, 33, [], 0), some (.if_icmp .ge 10, 36, [43], 0), none, none, some (.aload_n 0, 37, [], 0), some (.getfield 185, 40, [8, 8, 0, 0], 8), none, none, some (.goto 4, 43, [44], 0), none, none, some (.iconst 0, 44, [], 0), some (.iastore, 45, [], 0), some (.aload_n 0, 46, [], 0), some (.getfield 22, 49, [8, 5, 45, 3], 5), none],
  [none, some (.iconst 3, 50, [], 0), some (.iload_n 2, 51, [], 0), some (.iastore, 52, [], 0), some (.return_, 53, [], 0)]]
def ob_c_X8_pins : List (List (Option ob_Ent)) := [[some (.aload_n 0, 1, [], 0), some (.iload_n 1, 2, [], 0), some (.invokevirtual 219, 5, [9, 184, 2, 1, 8, 2, 0], 0), none, none, some (.istore_n 2, 6, [], 0), some (.iload_n 2, 7, [], 0), some (.ifCond .ge 24, 10, [31], 0), none, none, some (.iload_n 2, 11, [], 0), some (.bipush (-3), 13, [], 0), none, some (.if_icmp .ne 12, 16, [25], 0), none, none],
  [some (.aload_n 0, 17, [], 0), some (.aload_n 0, 18, [], 0), some (.getfield 179, 21, [8, 6, 0, 0], 6), none, none, some (.iconst (-1), 22, [], 0), some (.invokevirtual 222, 25, [9, 186, 3, 0, 8, 3, 0], 0), none, none, some (.aload_n 0, 26, [], 0), some (.iload_n 2, 27, [], 0), some (.invokevirtual 106, 30, [9, 135, 2, 1, 8, 2, 0], 0), none, none, some (.ireturn, 31, [0], 0), some (.aload_n 0, 32, [], 0)],
  [some (.invokevirtual 110, 35, [9, 136, 1, 0, 8, 2, 0], 0), none, none, some (.aload_n 0, 36, [], 0), some (.iload_n 1, 37, [], 0), some (.invokevirtual 226, 40, [9, 185, 2, 1, 8, 4, 0], 0), none, none, some (.ireturn, 41, [0], 0)]]
def ob_c_X8_canOff : List (List (Option ob_Ent)) := [[some (.aload_n 0, 1, [], 0), some (.iload_n 1, 2, [], 0), some (.invokevirtual 128, 5, [9, 140, 2, 1, 8, 2, 0], 0), none, none, some (.ifCond .ne 8, 8, [13], 0), none, none, some (.bipush (-2), 10, [], 0), none, some (.goto 17, 13, [27], 0), none, none, some (.aload_n 0, 14, [], 0), some (.iload_n 1, 15, [], 0), some (.invokevirtual 160, 18, [9, 144, 2, 1, 8, 2, 0], 0)],
  [none, none, some (.ifCond .eq 7, 21, [25], 0), none, none, some (.iconst 0, 22, [], 0), some (.goto 5, 25, [27], 0), none, none, some (.bipush (-3), 27, [], 0), none, some (.ireturn, 28, [0], 0)]]
def ob_c_X8_offNow : List (List (Option ob_Ent)) := [[some (.aload_n 0, 1, [], 0), some (.iload_n 1, 2, [], 0), some (.bipush 43, 4, [], 0), none, some (.invokevirtual 78, 7, [9, 142, 3, 1, 8, 3, 0], 0), none, none, some (.istore_n 2, 8, [], 0), some (.bipush 39, 10, [], 0), none, some (.istore_n 3, 11, [], 0), some (.iload_n 3, 12, [], 0), some (.bipush 116, 14, [], 0), none, some (.if_icmp .ge 16, 17, [30], 0), none],
  [none, some (.aload_n 0, 18, [], 0), some (.iload_n 1, 19, [], 0), some (.iload_n 3, 20, [], 0), some (.iconst 0, 21, [], 0), some (.invokevirtual 131, 24, [9, 143, 4, 0, 8, 4, 0], 0), none, none, some (.iinc 3 1, 27, [], 0), none, none, some (.goto (-16), 30, [11], 0), none, none, some (.iload_n 2, 31, [], 0), some (.ireturn, 32, [0], 0)]]
def ob_c_X8_off : List (List (Option ob_Ent)) := [[some (.aload_n 0, 1, [], 0), some (.iload_n 1, 2, [], 0), some (.invokevirtual 229, 5, [9, 188, 2, 1, 8, 2, 0], 0), none, none, some (.istore_n 2, 6, [], 0), some (.iload_n 2, 7, [], 0), some (.ifCond .ge 9, 10, [16], 0), none, none, some (.aload_n 0, 11, [], 0), some (.iload_n 2, 12, [], 0), some (.invokevirtual 106, 15, [9, 135, 2, 1, 8, 2, 0], 0), none, none, some (.ireturn, 16, [0], 0)],
  [some (.aload_n 0, 17, [], 0), some (.invokevirtual 110, 20, [9, 136, 1, 0, 8, 2, 0], 0), none, none, some (.aload_n 0, 21, [], 0), some (.iload_n 1, 22, [], 0), some (.invokevirtual 232, 25, [9, 189, 2, 1, 8, 4, 0], 0), none, none, some (.ireturn, 26, [0], 0)]]
def ob_c_X8_fits : List (List (Option ob_Ent)) := [[some (.aload_n 0, 1, [], 0), some (.iload_n 1, 2, [], 0), some (.invokevirtual 128, 5, [9, 140, 2, 1, 8, 2, 0], 0), none, none, some (.ifCond .ne 10, 8, [15], 0), none, none, some (.aload_n 0, 9, [], 0), some (.bipush (-2), 11, [], 0), none, some (.invokevirtual 106, 14, [9, 135, 2, 1, 8, 2, 0], 0), none, none, some (.ireturn, 15, [0], 0), some (.aload_n 0, 16, [], 0)],
  [some (.iload_n 1, 17, [], 0), some (.iconst 2, 18, [], 0), some (.invokevirtual 78, 21, [9, 142, 3, 1, 8, 3, 0], 0), none, none, some (.ifCond .eq 11, 24, [32], 0), none, none, some (.aload_n 0, 25, [], 0), some (.iload_n 1, 26, [], 0), some (.invokevirtual 213, 29, [9, 178, 2, 1, 8, 4, 0], 0), none, none, some (.ifCond .ne 5, 32, [34], 0), none, none],
  [some (.iconst (-1), 33, [], 0), some (.ireturn, 34, [0], 0), some (.iconst 0, 35, [], 0), some (.istore_n 2, 36, [], 0), some (.iload_n 2, 37, [], 0), some (.aload_n 0, 38, [], 0), some (.invokevirtual 82, 41, [9, 138, 1, 1, 8, 1, 0], 0), none, none, some (.if_icmp .ge 20, 44, [61], 0), none, none, some (.aload_n 0, 45, [], 0), some (.iload_n 1, 46, [], 0), some (.iload_n 2, 47, [], 0), some (.invokevirtual 216, 50, [9, 183, 3, 1, 8, 7, 0], 0)],
  [none, none, some (.ifCond .eq 5, 53, [55], 0), none, none, some (.iload_n 2, 54, [], 0), some (.ireturn, 55, [0], 0), some (.iinc 2 1, 58, [], 0), none, none, some (.goto (-22), 61, [36], 0), none, none, some (.iconst (-1), 62, [], 0), some (.ireturn, 63, [0], 0)]]
def ob_c_X8_areBeside : List (List (Option ob_Ent)) := [[some (.iconst 1, 1, [], 0), some (.istore 4, 3, [], 0), none, some (.iconst 0, 4, [], 0), some (.istore 5, 6, [], 0), none, some (.iload 5, 8, [], 0), none, some (.aload_n 0, 9, [], 0), some (.iload_n 1, 10, [], 0), some (.iconst 2, 11, [], 0), some (.invokevirtual 78, 14, [9, 142, 3, 1, 8, 3, 0], 0), none, none, some (.if_icmp .ge 112, 17, [126], 0), none],
  [none, some (.iconst 0, 18, [], 0), some (.istore 6, 20, [], 0), none, some (.iload 6, 22, [], 0), none, some (.aload_n 0, 23, [], 0), some (.iload_n 2, 24, [], 0), some (.iconst 2, 25, [], 0), some (.invokevirtual 78, 28, [9, 142, 3, 1, 8, 3, 0], 0), none, none, some (.if_icmp .ge 92, 31, [120], 0), none, none, some (.aload_n 0, 32, [], 0)],
  [some (.iload_n 1, 33, [], 0), some (.aload_n 0, 34, [], 0), some (.iload_n 1, 35, [], 0), some (.iload 5, 37, [], 0), none, some (.invokevirtual 140, 40, [9, 148, 3, 1, 8, 3, 0], 0), none, none, some (.invokevirtual 197, 43, [9, 153, 3, 1, 8, 3, 0], 0), none, none, some (.aload_n 0, 44, [], 0), some (.iload_n 2, 45, [], 0), some (.aload_n 0, 46, [], 0), some (.iload_n 2, 47, [], 0), some (.iload 6, 49, [], 0)],
  [none, some (.invokevirtual 140, 52, [9, 148, 3, 1, 8, 3, 0], 0), none, none, some (.invokevirtual 197, 55, [9, 153, 3, 1, 8, 3, 0], 0), none, none, some (.invokestatic 203, 58, [9, 180, 2, 1, 8, 2, 0], 0), none, none, some (.istore 7, 60, [], 0), none, some (.iload 4, 62, [], 0), none, some (.ifCond .eq 49, 65, [111], 0), none],
  [none, some (.iload 7, 67, [], 0), none, some (.ifCond .eq 40, 70, [107], 0), none, none, some (.aload_n 0, 71, [], 0), some (.aload_n 0, 72, [], 0), some (.iload_n 1, 73, [], 0), some (.iload 5, 75, [], 0), none, some (.iconst 0, 76, [], 0), some (.invokevirtual 168, 79, [9, 151, 4, 1, 8, 4, 0], 0), none, none, some (.aload_n 0, 80, [], 0)],
  [some (.iload_n 1, 81, [], 0), some (.iload 5, 83, [], 0), none, some (.invokevirtual 171, 86, [9, 152, 3, 1, 8, 3, 0], 0), none, none, some (.aload_n 0, 87, [], 0), some (.iload_n 2, 88, [], 0), some (.iload 6, 90, [], 0), none, some (.iload_n 3, 91, [], 0), some (.invokevirtual 168, 94, [9, 151, 4, 1, 8, 4, 0], 0), none, none, some (.aload_n 0, 95, [], 0), some (.iload_n 2, 96, [], 0)],
  [some (.iload 6, 98, [], 0), none, some (.invokevirtual 171, 101, [9, 152, 3, 1, 8, 3, 0], 0), none, none, some (.invokevirtual 206, 104, [9, 179, 5, 1, 8, 5, 0], 0), none, none, some (.ifCond .eq 7, 107, [111], 0), none, none, some (.iconst 1, 108, [], 0), some (.goto 4, 111, [112], 0), none, none, some (.iconst 0, 112, [], 0)],
  [some (.istore 4, 114, [], 0), none, some (.iinc 6 1, 117, [], 0), none, none, some (.goto (-97), 120, [20], 0), none, none, some (.iinc 5 1, 123, [], 0), none, none, some (.goto (-117), 126, [6], 0), none, none, some (.iload 4, 128, [], 0), none],
  [some (.ireturn, 129, [1], 0)]]
def ob_c_X8_triesAll : List (List (Option ob_Ent)) := [[some (.iconst 0, 1, [], 0), some (.istore_n 1, 2, [], 0), some (.iload_n 1, 3, [], 0), some (.aload_n 0, 4, [], 0), some (.invokevirtual 82, 7, [9, 138, 1, 1, 8, 1, 0], 0), none, none, some (.if_icmp .ge 86, 10, [93], 0), none, none, some (.aload_n 0, 11, [], 0), some (.getfield 25, 14, [8, 9, 46, 3], 9), none, none, some (.iload_n 1, 15, [], 0), some (.aload_n 0, 16, [], 0)],
  [some (.iconst 0, 17, [], 0), some (.iconst 1, 18, [], 0), some (.iload_n 1, 19, [], 0), some (.invokevirtual 235, 22, [9, 192, 4, 1, 8, 8, 0], 0), none, none, some (.bastore, 23, [], 0), some (.aload_n 0, 24, [], 0), some (.getfield 25, 27, [8, 9, 46, 3], 9), none, none, some (.bipush 24, 29, [], 0), none, some (.iload_n 1, 30, [], 0), some (.iadd, 31, [], 0), some (.aload_n 0, 32, [], 0)],
  [some (.invokevirtual 70, 35, [9, 139, 1, 1, 8, 1, 0], 0), none, none, some (.iconst 3, 36, [], 0), some (.if_icmp .lt 13, 39, [49], 0), none, none, some (.aload_n 0, 40, [], 0), some (.iconst 0, 41, [], 0), some (.iconst 2, 42, [], 0), some (.iload_n 1, 43, [], 0), some (.invokevirtual 235, 46, [9, 192, 4, 1, 8, 8, 0], 0), none, none, some (.ifCond .eq 7, 49, [53], 0), none],
  [none, some (.iconst 1, 50, [], 0), some (.goto 4, 53, [54], 0), none, none, some (.iconst 0, 54, [], 0), some (.bastore, 55, [], 0), some (.aload_n 0, 56, [], 0), some (.getfield 25, 59, [8, 9, 46, 3], 9), none, none, some (.bipush 48, 61, [], 0), none, some (.iload_n 1, 62, [], 0), some (.iadd, 63, [], 0), some (.aload_n 0, 64, [], 0)],
  [some (.invokevirtual 70, 67, [9, 139, 1, 1, 8, 1, 0], 0), none, none, some (.iconst 3, 68, [], 0), some (.if_icmp .lt 13, 71, [81], 0), none, none, some (.aload_n 0, 72, [], 0), some (.iconst 1, 73, [], 0), some (.iconst 2, 74, [], 0), some (.iload_n 1, 75, [], 0), some (.invokevirtual 235, 78, [9, 192, 4, 1, 8, 8, 0], 0), none, none, some (.ifCond .eq 7, 81, [85], 0), none],
  [none, some (.iconst 1, 82, [], 0), some (.goto 4, 85, [86], 0), none, none, some (.iconst 0, 86, [], 0), some (.bastore, 87, [], 0), some (.iinc 1 1, 90, [], 0), none, none, some (.goto (-88), 93, [2], 0), none, none, some (.return_, 94, [], 0)]]
def ob_c_X8_shifts : List (List (Option ob_Ent)) := [[some (.iload_n 1, 1, [], 0), some (.aload_n 0, 2, [], 0), some (.invokevirtual 70, 5, [9, 139, 1, 1, 8, 1, 0], 0), none, none, some (.if_icmp .ge 19, 8, [24], 0), none, none, some (.aload_n 0, 9, [], 0), some (.iload_n 1, 10, [], 0), some (.iconst 2, 11, [], 0), some (.invokevirtual 78, 14, [9, 142, 3, 1, 8, 3, 0], 0), none, none, some (.ifCond .le 10, 17, [24], 0), none],
  [none, some (.aload_n 0, 18, [], 0), some (.invokevirtual 82, 21, [9, 138, 1, 1, 8, 1, 0], 0), none, none, some (.goto 4, 24, [25], 0), none, none, some (.iconst 1, 25, [], 0), some (.ireturn, 26, [0], 0)]]
def ob_c_X8_settled : List (List (Option ob_Ent)) := [[some (.iconst (-1), 1, [], 0), some (.istore_n 1, 2, [], 0), some (.aload_n 0, 3, [], 0), some (.invokevirtual 239, 6, [9, 193, 1, 0, 8, 2, 0], 0), none, none, some (.iconst 0, 7, [], 0), some (.istore_n 2, 8, [], 0), some (.iload_n 2, 9, [], 0), some (.aload_n 0, 10, [], 0), some (.iconst 0, 11, [], 0), some (.invokevirtual 242, 14, [9, 194, 2, 1, 8, 2, 0], 0), none, none, some (.if_icmp .ge 138, 17, [152], 0), none],
  [none, some (.iconst 0, 18, [], 0), some (.istore_n 3, 19, [], 0), some (.iload_n 3, 20, [], 0), some (.aload_n 0, 21, [], 0), some (.iconst 1, 22, [], 0), some (.invokevirtual 242, 25, [9, 194, 2, 1, 8, 2, 0], 0), none, none, some (.if_icmp .ge 121, 28, [146], 0), none, none, some (.iconst 0, 29, [], 0), some (.istore 4, 31, [], 0), none, some (.iload 4, 33, [], 0)],
  [none, some (.aload_n 0, 34, [], 0), some (.iconst 2, 35, [], 0), some (.invokevirtual 242, 38, [9, 194, 2, 1, 8, 2, 0], 0), none, none, some (.if_icmp .ge 102, 41, [140], 0), none, none, some (.aload_n 0, 42, [], 0), some (.getfield 25, 45, [8, 9, 46, 3], 9), none, none, some (.aload_n 0, 46, [], 0), some (.iload_n 2, 47, [], 0), some (.iload_n 3, 48, [], 0)],
  [some (.invokevirtual 188, 51, [9, 145, 3, 1, 8, 4, 0], 0), none, none, some (.baload, 52, [], 0), some (.ifCond .eq 82, 55, [134], 0), none, none, some (.aload_n 0, 56, [], 0), some (.getfield 25, 59, [8, 9, 46, 3], 9), none, none, some (.bipush 24, 61, [], 0), none, some (.aload_n 0, 62, [], 0), some (.iload_n 2, 63, [], 0), some (.iload 4, 65, [], 0)],
  [none, some (.invokevirtual 188, 68, [9, 145, 3, 1, 8, 4, 0], 0), none, none, some (.iadd, 69, [], 0), some (.baload, 70, [], 0), some (.ifCond .eq 64, 73, [134], 0), none, none, some (.aload_n 0, 74, [], 0), some (.getfield 25, 77, [8, 9, 46, 3], 9), none, none, some (.bipush 48, 79, [], 0), none, some (.aload_n 0, 80, [], 0)],
  [some (.iload_n 3, 81, [], 0), some (.iload 4, 83, [], 0), none, some (.invokevirtual 188, 86, [9, 145, 3, 1, 8, 4, 0], 0), none, none, some (.iadd, 87, [], 0), some (.baload, 88, [], 0), some (.ifCond .eq 46, 91, [134], 0), none, none, some (.iload_n 2, 92, [], 0), some (.iload_n 3, 93, [], 0), some (.iadd, 94, [], 0), some (.iload 4, 96, [], 0), none],
  [some (.iadd, 97, [], 0), some (.ldc 245, 99, [32768], 32768), none, some (.imul, 100, [], 0), some (.iload_n 2, 101, [], 0), some (.sipush 1024, 104, [], 0), none, none, some (.imul, 105, [], 0), some (.iadd, 106, [], 0), some (.iload_n 3, 107, [], 0), some (.bipush 32, 109, [], 0), none, some (.imul, 110, [], 0), some (.iadd, 111, [], 0), some (.iload 4, 113, [], 0)],
  [none, some (.iadd, 114, [], 0), some (.istore 5, 116, [], 0), none, some (.iload_n 1, 117, [], 0), some (.iconst (-1), 118, [], 0), some (.if_icmp .eq 9, 121, [127], 0), none, none, some (.iload 5, 123, [], 0), none, some (.iload_n 1, 124, [], 0), some (.if_icmp .ge 8, 127, [132], 0), none, none, some (.iload 5, 129, [], 0)],
  [none, some (.goto 4, 132, [133], 0), none, none, some (.iload_n 1, 133, [], 0), some (.istore_n 1, 134, [], 0), some (.iinc 4 1, 137, [], 0), none, none, some (.goto (-106), 140, [31], 0), none, none, some (.iinc 3 1, 143, [], 0), none, none, some (.goto (-124), 146, [19], 0)],
  [none, none, some (.iinc 2 1, 149, [], 0), none, none, some (.goto (-141), 152, [8], 0), none, none, some (.iload_n 1, 153, [], 0), some (.ireturn, 154, [0], 0)]]
def ob_c_X8_canSettle : List (List (Option ob_Ent)) := [[some (.iconst 0, 1, [], 0), some (.istore_n 1, 2, [], 0), some (.iconst 0, 3, [], 0), some (.istore_n 2, 4, [], 0), some (.iload_n 2, 5, [], 0), some (.aload_n 0, 6, [], 0), some (.invokevirtual 70, 9, [9, 139, 1, 1, 8, 1, 0], 0), none, none, some (.if_icmp .ge 18, 12, [27], 0), none, none, some (.iload_n 1, 13, [], 0), some (.aload_n 0, 14, [], 0), some (.iload_n 2, 15, [], 0), some (.iconst 2, 16, [], 0)],
  [some (.invokevirtual 78, 19, [9, 142, 3, 1, 8, 3, 0], 0), none, none, some (.iadd, 20, [], 0), some (.istore_n 1, 21, [], 0), some (.iinc 2 1, 24, [], 0), none, none, some (.goto (-20), 27, [4], 0), none, none, some (.iload_n 1, 28, [], 0), some (.ifCond .ne 11, 31, [39], 0), none, none, some (.aload_n 0, 32, [], 0)],
  [some (.iconst 4, 33, [], 0), some (.iconst 0, 34, [], 0), some (.iconst 0, 35, [], 0), some (.invokevirtual 194, 38, [9, 176, 4, 1, 8, 4, 0], 0), none, none, some (.ireturn, 39, [0], 0), some (.iconst 0, 40, [], 0), some (.istore_n 2, 41, [], 0), some (.iload_n 2, 42, [], 0), some (.aload_n 0, 43, [], 0), some (.invokevirtual 70, 46, [9, 139, 1, 1, 8, 1, 0], 0), none, none, some (.if_icmp .ge 20, 49, [66], 0), none],
  [none, some (.aload_n 0, 50, [], 0), some (.iload_n 2, 51, [], 0), some (.invokevirtual 213, 54, [9, 178, 2, 1, 8, 4, 0], 0), none, none, some (.ifCond .ne 6, 57, [60], 0), none, none, some (.bipush (-3), 59, [], 0), none, some (.ireturn, 60, [0], 0), some (.iinc 2 1, 63, [], 0), none, none, some (.goto (-22), 66, [41], 0)],
  [none, none, some (.aload_n 0, 67, [], 0), some (.invokevirtual 246, 70, [9, 195, 1, 1, 8, 6, 0], 0), none, none, some (.iconst (-1), 71, [], 0), some (.if_icmp .ne 13, 74, [84], 0), none, none, some (.aload_n 0, 75, [], 0), some (.iconst 3, 76, [], 0), some (.iconst 0, 77, [], 0), some (.iconst 0, 78, [], 0), some (.invokevirtual 194, 81, [9, 176, 4, 1, 8, 4, 0], 0), none],
  [none, some (.goto 4, 84, [85], 0), none, none, some (.iconst 0, 85, [], 0), some (.ireturn, 86, [0], 0)]]
def ob_c_X8_settles : List (List (Option ob_Ent)) := [[some (.aload_n 0, 1, [], 0), some (.invokevirtual 249, 4, [9, 196, 1, 1, 8, 3, 0], 0), none, none, some (.ifCond .ge 19, 7, [23], 0), none, none, some (.aload_n 0, 8, [], 0), some (.aload_n 0, 9, [], 0), some (.getfield 179, 12, [8, 6, 0, 0], 6), none, none, some (.iconst (-1), 13, [], 0), some (.invokevirtual 222, 16, [9, 186, 3, 0, 8, 3, 0], 0), none, none],
  [some (.aload_n 0, 17, [], 0), some (.bipush (-3), 19, [], 0), none, some (.invokevirtual 106, 22, [9, 135, 2, 1, 8, 2, 0], 0), none, none, some (.ireturn, 23, [0], 0), some (.aload_n 0, 24, [], 0), some (.invokevirtual 246, 27, [9, 195, 1, 1, 8, 6, 0], 0), none, none, some (.istore_n 1, 28, [], 0), some (.aload_n 0, 29, [], 0), some (.invokevirtual 110, 32, [9, 136, 1, 0, 8, 2, 0], 0), none, none],
  [some (.iconst 0, 33, [], 0), some (.istore_n 2, 34, [], 0), some (.iload_n 2, 35, [], 0), some (.aload_n 0, 36, [], 0), some (.invokevirtual 70, 39, [9, 139, 1, 1, 8, 1, 0], 0), none, none, some (.if_icmp .ge 15, 42, [54], 0), none, none, some (.aload_n 0, 43, [], 0), some (.iload_n 2, 44, [], 0), some (.invokevirtual 232, 47, [9, 189, 2, 1, 8, 4, 0], 0), none, none, some (.istore_n 3, 48, [], 0)],
  [some (.iinc 2 1, 51, [], 0), none, none, some (.goto (-17), 54, [34], 0), none, none, some (.iconst 0, 55, [], 0), some (.istore_n 2, 56, [], 0), some (.iload_n 2, 57, [], 0), some (.aload_n 0, 58, [], 0), some (.invokevirtual 70, 61, [9, 139, 1, 1, 8, 1, 0], 0), none, none, some (.if_icmp .ge 58, 64, [119], 0), none, none],
  [some (.aload_n 0, 65, [], 0), some (.iload_n 2, 66, [], 0), some (.iconst 2, 67, [], 0), some (.invokevirtual 78, 70, [9, 142, 3, 1, 8, 3, 0], 0), none, none, some (.ifCond .le 43, 73, [113], 0), none, none, some (.aload_n 0, 74, [], 0), some (.iload_n 2, 75, [], 0), some (.iconst 1, 76, [], 0), some (.iload_n 2, 77, [], 0), some (.ifCond .ne 11, 80, [88], 0), none, none],
  [some (.iload_n 1, 81, [], 0), some (.sipush 1024, 84, [], 0), none, none, some (.idiv, 85, [], 0), some (.goto 16, 88, [101], 0), none, none, some (.iload_n 2, 89, [], 0), some (.iconst 1, 90, [], 0), some (.if_icmp .ne 10, 93, [100], 0), none, none, some (.iload_n 1, 94, [], 0), some (.bipush 32, 96, [], 0), none],
  [some (.idiv, 97, [], 0), some (.goto 4, 100, [101], 0), none, none, some (.iload_n 1, 101, [], 0), some (.bipush 32, 103, [], 0), none, some (.irem, 104, [], 0), some (.invokevirtual 131, 107, [9, 143, 4, 0, 8, 4, 0], 0), none, none, some (.aload_n 0, 108, [], 0), some (.iload_n 2, 109, [], 0), some (.invokevirtual 226, 112, [9, 185, 2, 1, 8, 4, 0], 0), none, none],
  [some (.istore_n 3, 113, [], 0), some (.iinc 2 1, 116, [], 0), none, none, some (.goto (-60), 119, [56], 0), none, none, some (.iload_n 1, 120, [], 0), some (.ldc 245, 122, [32768], 32768), none, some (.idiv, 123, [], 0), some (.ireturn, 124, [0], 0)]]
def ob_c_X8_pinAt : List (List (Option ob_Ent)) := [[some (.aload_n 0, 1, [], 0), some (.aload_n 0, 2, [], 0), some (.getfield 29, 5, [8, 10, 47, 3], 10), none, none, some (.iload_n 1, 6, [], 0), some (.iaload, 7, [], 0), some (.aload_n 0, 8, [], 0), some (.getfield 32, 11, [8, 11, 48, 3], 11), none, none, some (.iload_n 1, 12, [], 0), some (.iaload, 13, [], 0), some (.iload_n 2, 14, [], 0), some (.invokevirtual 200, 17, [9, 181, 4, 1, 8, 4, 0], 0), none],
  [none, some (.ireturn, 18, [0], 0)]]
def ob_c_X8_found : List (List (Option ob_Ent)) := [[some (.iconst (-1), 1, [], 0), some (.istore_n 3, 2, [], 0), some (.iconst 0, 3, [], 0), some (.istore 4, 5, [], 0), none, some (.iload 4, 7, [], 0), none, some (.aload_n 0, 8, [], 0), some (.getfield 252, 11, [8, 14, 0, 0], 14), none, none, some (.if_icmp .ge 38, 14, [49], 0), none, none, some (.aload_n 0, 15, [], 0), some (.getfield 35, 18, [8, 12, 49, 3], 12)],
  [none, none, some (.iload 4, 20, [], 0), none, some (.iaload, 21, [], 0), some (.iload_n 1, 22, [], 0), some (.if_icmp .ne 19, 25, [41], 0), none, none, some (.aload_n 0, 26, [], 0), some (.iload 4, 28, [], 0), none, some (.iconst 1, 29, [], 0), some (.invokevirtual 255, 32, [9, 198, 3, 1, 8, 3, 0], 0), none, none],
  [some (.iload_n 2, 33, [], 0), some (.if_icmp .ne 8, 36, [41], 0), none, none, some (.iload 4, 38, [], 0), none, some (.goto 4, 41, [42], 0), none, none, some (.iload_n 3, 42, [], 0), some (.istore_n 3, 43, [], 0), some (.iinc 4 1, 46, [], 0), none, none, some (.goto (-41), 49, [5], 0), none],
  [none, some (.iload_n 3, 50, [], 0), some (.ireturn, 51, [0], 0)]]
def ob_c_X8_laysPins : List (List (Option ob_Ent)) := [[some (.aload_n 0, 1, [], 0), some (.iconst 0, 2, [], 0), some (.putfield 252, 5, [8, 14, 0, 0, 0], 14), none, none, some (.iconst 0, 6, [], 0), some (.istore_n 1, 7, [], 0), some (.iload_n 1, 8, [], 0), some (.aload_n 0, 9, [], 0), some (.invokevirtual 70, 12, [9, 139, 1, 1, 8, 1, 0], 0), none, none, some (.if_icmp .ge 87, 15, [99], 0), none, none, some (.iconst 0, 16, [], 0)],
  [some (.istore_n 2, 17, [], 0), some (.aload_n 0, 18, [], 0), some (.iload_n 1, 19, [], 0), some (.invokevirtual 160, 22, [9, 144, 2, 1, 8, 2, 0], 0), none, none, some (.ifCond .eq 71, 25, [93], 0), none, none, some (.iload_n 2, 26, [], 0), some (.aload_n 0, 27, [], 0), some (.iload_n 1, 28, [], 0), some (.bipush 43, 30, [], 0), none, some (.invokevirtual 78, 33, [9, 142, 3, 1, 8, 3, 0], 0), none],
  [none, some (.if_icmp .ge 60, 36, [93], 0), none, none, some (.aload_n 0, 37, [], 0), some (.getfield 29, 40, [8, 10, 47, 3], 10), none, none, some (.aload_n 0, 41, [], 0), some (.getfield 252, 44, [8, 14, 0, 0], 14), none, none, some (.iload_n 1, 45, [], 0), some (.iastore, 46, [], 0), some (.aload_n 0, 47, [], 0), some (.getfield 32, 50, [8, 11, 48, 3], 11)],
  [none, none, some (.aload_n 0, 51, [], 0), some (.getfield 252, 54, [8, 14, 0, 0], 14), none, none, some (.iload_n 2, 55, [], 0), some (.iastore, 56, [], 0), some (.aload_n 0, 57, [], 0), some (.getfield 35, 60, [8, 12, 49, 3], 12), none, none, some (.aload_n 0, 61, [], 0), some (.getfield 252, 64, [8, 14, 0, 0], 14), none, none],
  [some (.aload_n 0, 65, [], 0), some (.iload_n 1, 66, [], 0), some (.aload_n 0, 67, [], 0), some (.iload_n 1, 68, [], 0), some (.iload_n 2, 69, [], 0), some (.iconst 0, 70, [], 0), some (.invokevirtual 200, 73, [9, 181, 4, 1, 8, 4, 0], 0), none, none, some (.invokevirtual 197, 76, [9, 153, 3, 1, 8, 3, 0], 0), none, none, some (.iastore, 77, [], 0), some (.aload_n 0, 78, [], 0), some (.dup, 79, [], 0), some (.getfield 252, 82, [8, 14, 0, 0], 14)],
  [none, none, some (.iconst 1, 83, [], 0), some (.iadd, 84, [], 0), some (.putfield 252, 87, [8, 14, 0, 0, 0], 14), none, none, some (.iinc 2 1, 90, [], 0), none, none, some (.goto (-73), 93, [17], 0), none, none, some (.iinc 1 1, 96, [], 0), none, none],
  [some (.goto (-89), 99, [7], 0), none, none, some (.return_, 100, [], 0)]]
def ob_c_X8_tracks : List (List (Option ob_Ent)) := [[some (.aload_n 0, 1, [], 0), some (.invokevirtual 70, 4, [9, 139, 1, 1, 8, 1, 0], 0), none, none, some (.aload_n 0, 5, [], 0), some (.getfield 7, 8, [8, 0, 41, 3], 0), none, none, some (.iconst 1, 9, [], 0), some (.iaload, 10, [], 0), some (.imul, 11, [], 0), some (.ireturn, 12, [0], 0)]]
def ob_c_X8_laysBridges : List (List (Option ob_Ent)) := [[some (.aload_n 0, 1, [], 0), some (.invokevirtual 258, 4, [9, 200, 1, 0, 8, 3, 0], 0), none, none, some (.aload_n 0, 5, [], 0), some (.iconst 0, 6, [], 0), some (.putfield 261, 9, [8, 20, 0, 0, 0], 20), none, none, some (.iconst 0, 10, [], 0), some (.istore_n 1, 11, [], 0), some (.iload_n 1, 12, [], 0), some (.aload_n 0, 13, [], 0), some (.invokevirtual 82, 16, [9, 138, 1, 1, 8, 1, 0], 0), none, none],
  [some (.if_icmp .ge 204, 19, [220], 0), none, none, some (.iconst (-1), 20, [], 0), some (.istore_n 2, 21, [], 0), some (.iconst 0, 22, [], 0), some (.istore_n 3, 23, [], 0), some (.iload_n 3, 24, [], 0), some (.aload_n 0, 25, [], 0), some (.invokevirtual 264, 28, [9, 201, 1, 1, 8, 1, 0], 0), none, none, some (.if_icmp .ge 186, 31, [214], 0), none, none, some (.aload_n 0, 32, [], 0)],
  [some (.iload_n 3, 33, [], 0), some (.iload_n 1, 34, [], 0), some (.invokevirtual 267, 37, [9, 199, 3, 1, 8, 5, 0], 0), none, none, some (.istore 4, 39, [], 0), none, some (.iload 4, 41, [], 0), none, some (.iconst (-1), 42, [], 0), some (.if_icmp .eq 166, 45, [208], 0), none, none, some (.iload_n 2, 46, [], 0), some (.iconst (-1), 47, [], 0), some (.if_icmp .eq 35, 50, [82], 0)],
  [none, none, some (.aload_n 0, 51, [], 0), some (.getfield 35, 54, [8, 12, 49, 3], 12), none, none, some (.iload_n 2, 55, [], 0), some (.iaload, 56, [], 0), some (.iload_n 3, 57, [], 0), some (.iconst 1, 58, [], 0), some (.isub, 59, [], 0), some (.if_icmp .ne 23, 62, [82], 0), none, none, some (.aload_n 0, 63, [], 0), some (.iload_n 2, 64, [], 0)],
  [some (.iconst 2, 65, [], 0), some (.invokevirtual 255, 68, [9, 198, 3, 1, 8, 3, 0], 0), none, none, some (.aload_n 0, 69, [], 0), some (.iload 4, 71, [], 0), none, some (.iconst 2, 72, [], 0), some (.invokevirtual 255, 75, [9, 198, 3, 1, 8, 3, 0], 0), none, none, some (.if_icmp .ne 7, 78, [82], 0), none, none, some (.iconst 1, 79, [], 0), some (.goto 4, 82, [83], 0)],
  [none, none, some (.iconst 0, 83, [], 0), some (.istore 5, 85, [], 0), none, some (.iload 5, 87, [], 0), none, some (.ifCond .ne 69, 90, [156], 0), none, none, some (.aload_n 0, 91, [], 0), some (.getfield 41, 94, [8, 15, 51, 3], 15), none, none, some (.aload_n 0, 95, [], 0), some (.getfield 261, 98, [8, 20, 0, 0], 20)],
  [none, none, some (.iload_n 1, 99, [], 0), some (.iastore, 100, [], 0), some (.aload_n 0, 101, [], 0), some (.getfield 44, 104, [8, 16, 52, 3], 16), none, none, some (.aload_n 0, 105, [], 0), some (.getfield 261, 108, [8, 20, 0, 0], 20), none, none, some (.aload_n 0, 109, [], 0), some (.iload 4, 111, [], 0), none, some (.iconst 2, 112, [], 0)],
  [some (.invokevirtual 255, 115, [9, 198, 3, 1, 8, 3, 0], 0), none, none, some (.iastore, 116, [], 0), some (.aload_n 0, 117, [], 0), some (.getfield 47, 120, [8, 17, 53, 3], 17), none, none, some (.aload_n 0, 121, [], 0), some (.getfield 261, 124, [8, 20, 0, 0], 20), none, none, some (.iload_n 3, 125, [], 0), some (.iastore, 126, [], 0), some (.aload_n 0, 127, [], 0), some (.getfield 50, 130, [8, 18, 54, 3], 18)],
  [none, none, some (.aload_n 0, 131, [], 0), some (.getfield 261, 134, [8, 20, 0, 0], 20), none, none, some (.iconst 0, 135, [], 0), some (.iastore, 136, [], 0), some (.aload_n 0, 137, [], 0), some (.getfield 53, 140, [8, 19, 55, 3], 19), none, none, some (.aload_n 0, 141, [], 0), some (.getfield 261, 144, [8, 20, 0, 0], 20), none, none],
  [some (.iconst 0, 145, [], 0), some (.iastore, 146, [], 0), some (.aload_n 0, 147, [], 0), some (.dup, 148, [], 0), some (.getfield 261, 151, [8, 20, 0, 0], 20), none, none, some (.iconst 1, 152, [], 0), some (.iadd, 153, [], 0), some (.putfield 261, 156, [8, 20, 0, 0, 0], 20), none, none, some (.aload_n 0, 157, [], 0), some (.getfield 38, 160, [8, 13, 50, 3], 13), none, none],
  [some (.iload 4, 162, [], 0), none, some (.aload_n 0, 163, [], 0), some (.getfield 261, 166, [8, 20, 0, 0], 20), none, none, some (.iconst 1, 167, [], 0), some (.isub, 168, [], 0), some (.iastore, 169, [], 0), some (.aload_n 0, 170, [], 0), some (.getfield 50, 173, [8, 18, 54, 3], 18), none, none, some (.aload_n 0, 174, [], 0), some (.getfield 261, 177, [8, 20, 0, 0], 20), none],
  [none, some (.iconst 1, 178, [], 0), some (.isub, 179, [], 0), some (.dup2, 180, [], 0), some (.iaload, 181, [], 0), some (.iconst 1, 182, [], 0), some (.iadd, 183, [], 0), some (.iastore, 184, [], 0), some (.aload_n 0, 185, [], 0), some (.getfield 53, 188, [8, 19, 55, 3], 19), none, none, some (.aload_n 0, 189, [], 0), some (.getfield 261, 192, [8, 20, 0, 0], 20), none, none],
  [some (.iconst 1, 193, [], 0), some (.isub, 194, [], 0), some (.dup2, 195, [], 0), some (.iaload, 196, [], 0), some (.aload_n 0, 197, [], 0), some (.iload 4, 199, [], 0), none, some (.iconst 3, 200, [], 0), some (.invokevirtual 255, 203, [9, 198, 3, 1, 8, 3, 0], 0), none, none, some (.iadd, 204, [], 0), some (.iastore, 205, [], 0), some (.iload 4, 207, [], 0), none, some (.istore_n 2, 208, [], 0)],
  [some (.iinc 3 1, 211, [], 0), none, none, some (.goto (-188), 214, [23], 0), none, none, some (.iinc 1 1, 217, [], 0), none, none, some (.goto (-206), 220, [11], 0), none, none, some (.return_, 221, [], 0)]]
def ob_c_X8_isWorn : List (List (Option ob_Ent)) := [[some (.aload_n 0, 1, [], 0), some (.getfield 53, 4, [8, 19, 55, 3], 19), none, none, some (.iload_n 1, 5, [], 0), some (.iaload, 6, [], 0), some (.aload_n 0, 7, [], 0), some (.getfield 7, 10, [8, 0, 41, 3], 0), none, none, some (.iconst 5, 11, [], 0), some (.iaload, 12, [], 0), some (.if_icmp .lt 7, 15, [19], 0), none, none, some (.iconst 1, 16, [], 0)],
  [some (.goto 4, 19, [20], 0), none, none, some (.iconst 0, 20, [], 0), some (.ireturn, 21, [1], 0)]]
def ob_c_X8_dumb : List (List (Option ob_Ent)) := [[some (.aload_n 0, 1, [], 0), some (.getfield 53, 4, [8, 19, 55, 3], 19), none, none, some (.iload_n 1, 5, [], 0), some (.iaload, 6, [], 0), some (.aload_n 0, 7, [], 0), some (.getfield 7, 10, [8, 0, 41, 3], 0), none, none, some (.iconst 5, 11, [], 0), some (.iaload, 12, [], 0), some (.idiv, 13, [], 0), some (.istore_n 2, 14, [], 0), some (.iload_n 2, 15, [], 0), some (.aload_n 0, 16, [], 0)],
  [some (.getfield 44, 19, [8, 16, 52, 3], 16), none, none, some (.iload_n 1, 20, [], 0), some (.iaload, 21, [], 0), some (.if_icmp .ge 7, 24, [28], 0), none, none, some (.iload_n 2, 25, [], 0), some (.goto 9, 28, [34], 0), none, none, some (.aload_n 0, 29, [], 0), some (.getfield 44, 32, [8, 16, 52, 3], 16), none, none],
  [some (.iload_n 1, 33, [], 0), some (.iaload, 34, [], 0), some (.ireturn, 35, [0], 0)]]
def ob_c_X8_indexOf : List (List (Option ob_Ent)) := [[some (.iconst (-1), 1, [], 0), some (.istore_n 3, 2, [], 0), some (.iconst 0, 3, [], 0), some (.istore 4, 5, [], 0), none, some (.iload 4, 7, [], 0), none, some (.aload_n 0, 8, [], 0), some (.getfield 252, 11, [8, 14, 0, 0], 14), none, none, some (.if_icmp .ge 38, 14, [49], 0), none, none, some (.aload_n 0, 15, [], 0), some (.getfield 29, 18, [8, 10, 47, 3], 10)],
  [none, none, some (.iload 4, 20, [], 0), none, some (.iaload, 21, [], 0), some (.iload_n 1, 22, [], 0), some (.if_icmp .ne 19, 25, [41], 0), none, none, some (.aload_n 0, 26, [], 0), some (.getfield 32, 29, [8, 11, 48, 3], 11), none, none, some (.iload 4, 31, [], 0), none, some (.iaload, 32, [], 0)],
  [some (.iload_n 2, 33, [], 0), some (.if_icmp .ne 8, 36, [41], 0), none, none, some (.iload 4, 38, [], 0), none, some (.goto 4, 41, [42], 0), none, none, some (.iload_n 3, 42, [], 0), some (.istore_n 3, 43, [], 0), some (.iinc 4 1, 46, [], 0), none, none, some (.goto (-41), 49, [5], 0), none],
  [none, some (.iload_n 3, 50, [], 0), some (.ireturn, 51, [0], 0)]]
def ob_c_X8_freeNow : List (List (Option ob_Ent)) := [[some (.aload_n 0, 1, [], 0), some (.invokevirtual 82, 4, [9, 138, 1, 1, 8, 1, 0], 0), none, none, some (.istore_n 2, 5, [], 0), some (.iconst 0, 6, [], 0), some (.istore_n 3, 7, [], 0), some (.iload_n 3, 8, [], 0), some (.aload_n 0, 9, [], 0), some (.getfield 252, 12, [8, 14, 0, 0], 14), none, none, some (.if_icmp .ge 60, 15, [72], 0), none, none, some (.iload_n 3, 16, [], 0)],
  [some (.iload_n 1, 17, [], 0), some (.if_icmp .eq 49, 20, [66], 0), none, none, some (.aload_n 0, 21, [], 0), some (.getfield 35, 24, [8, 12, 49, 3], 12), none, none, some (.iload_n 3, 25, [], 0), some (.iaload, 26, [], 0), some (.aload_n 0, 27, [], 0), some (.getfield 35, 30, [8, 12, 49, 3], 12), none, none, some (.iload_n 1, 31, [], 0), some (.iaload, 32, [], 0)],
  [some (.if_icmp .ne 34, 35, [66], 0), none, none, some (.aload_n 0, 36, [], 0), some (.aload_n 0, 37, [], 0), some (.iload_n 1, 38, [], 0), some (.iconst 1, 39, [], 0), some (.invokevirtual 255, 42, [9, 198, 3, 1, 8, 3, 0], 0), none, none, some (.aload_n 0, 43, [], 0), some (.iload_n 3, 44, [], 0), some (.iconst 1, 45, [], 0), some (.invokevirtual 255, 48, [9, 198, 3, 1, 8, 3, 0], 0), none, none],
  [some (.invokevirtual 188, 51, [9, 145, 3, 1, 8, 4, 0], 0), none, none, some (.istore 4, 53, [], 0), none, some (.iload 4, 55, [], 0), none, some (.iload_n 2, 56, [], 0), some (.if_icmp .ge 8, 59, [64], 0), none, none, some (.iload 4, 61, [], 0), none, some (.goto 4, 64, [65], 0), none, none],
  [some (.iload_n 2, 65, [], 0), some (.istore_n 2, 66, [], 0), some (.iinc 3 1, 69, [], 0), none, none, some (.goto (-62), 72, [7], 0), none, none, some (.iload_n 2, 73, [], 0), some (.aload_n 0, 74, [], 0), some (.iload_n 1, 75, [], 0), some (.iconst 2, 76, [], 0), some (.invokevirtual 255, 79, [9, 198, 3, 1, 8, 3, 0], 0), none, none, some (.isub, 80, [], 0)],
  [some (.ireturn, 81, [0], 0)]]
def ob_c_X8_pin : List (List (Option ob_Ent)) := [[some (.aload_n 0, 1, [], 0), some (.iload_n 1, 2, [], 0), some (.invokevirtual 128, 5, [9, 140, 2, 1, 8, 2, 0], 0), none, none, some (.ifCond .eq 19, 8, [24], 0), none, none, some (.iload_n 2, 9, [], 0), some (.ifCond .lt 15, 12, [24], 0), none, none, some (.iload_n 3, 13, [], 0), some (.i2l, 14, [], 0), some (.lconst 0, 15, [], 0), some (.ldc2_w 270, 18, [5], 5)],
  [none, none, some (.invokestatic 74, 21, [9, 134, 3, 1, 8, 6, 0], 0), none, none, some (.ifCond .ne 10, 24, [31], 0), none, none, some (.aload_n 0, 25, [], 0), some (.bipush (-2), 27, [], 0), none, some (.invokevirtual 106, 30, [9, 135, 2, 1, 8, 2, 0], 0), none, none, some (.ireturn, 31, [0], 0), some (.aload_n 0, 32, [], 0)],
  [some (.iload_n 1, 33, [], 0), some (.invokevirtual 160, 36, [9, 144, 2, 1, 8, 2, 0], 0), none, none, some (.ifCond .eq 14, 39, [50], 0), none, none, some (.iload_n 2, 40, [], 0), some (.aload_n 0, 41, [], 0), some (.iload_n 1, 42, [], 0), some (.bipush 43, 44, [], 0), none, some (.invokevirtual 78, 47, [9, 142, 3, 1, 8, 3, 0], 0), none, none, some (.if_icmp .lt 10, 50, [57], 0)],
  [none, none, some (.aload_n 0, 51, [], 0), some (.bipush (-3), 53, [], 0), none, some (.invokevirtual 106, 56, [9, 135, 2, 1, 8, 2, 0], 0), none, none, some (.ireturn, 57, [0], 0), some (.iload_n 3, 58, [], 0), some (.iconst 4, 59, [], 0), some (.if_icmp .ge 11, 62, [70], 0), none, none, some (.aload_n 0, 63, [], 0), some (.iload_n 1, 64, [], 0)],
  [some (.iload_n 2, 65, [], 0), some (.iload_n 3, 66, [], 0), some (.invokevirtual 200, 69, [9, 181, 4, 1, 8, 4, 0], 0), none, none, some (.ireturn, 70, [0], 0), some (.aload_n 0, 71, [], 0), some (.invokevirtual 272, 74, [9, 202, 1, 0, 8, 6, 0], 0), none, none, some (.iload_n 3, 75, [], 0), some (.iconst 4, 76, [], 0), some (.if_icmp .ne 17, 79, [93], 0), none, none, some (.aload_n 0, 80, [], 0)],
  [some (.getfield 38, 83, [8, 13, 50, 3], 13), none, none, some (.aload_n 0, 84, [], 0), some (.iload_n 1, 85, [], 0), some (.iload_n 2, 86, [], 0), some (.invokevirtual 275, 89, [9, 205, 3, 1, 8, 5, 0], 0), none, none, some (.iaload, 90, [], 0), some (.goto 13, 93, [103], 0), none, none, some (.aload_n 0, 94, [], 0), some (.aload_n 0, 95, [], 0), some (.iload_n 1, 96, [], 0)],
  [some (.iload_n 2, 97, [], 0), some (.invokevirtual 275, 100, [9, 205, 3, 1, 8, 5, 0], 0), none, none, some (.invokevirtual 278, 103, [9, 206, 2, 1, 8, 5, 0], 0), none, none, some (.ireturn, 104, [0], 0)]]
def ob_c_X8_why : List (List (Option ob_Ent)) := [[some (.iload_n 1, 1, [], 0), some (.i2l, 2, [], 0), some (.lconst 0, 3, [], 0), some (.ldc2_w 104, 6, [3], 3), none, none, some (.invokestatic 74, 9, [9, 134, 3, 1, 8, 6, 0], 0), none, none, some (.ifCond .ne 16, 12, [25], 0), none, none, some (.aload_n 0, 13, [], 0), some (.getfield 19, 16, [8, 4, 44, 3], 4), none, none],
  [some (.iconst 0, 17, [], 0), some (.dup2, 18, [], 0), some (.iaload, 19, [], 0), some (.iconst 1, 20, [], 0), some (.iadd, 21, [], 0), some (.iastore, 22, [], 0), some (.bipush (-10), 24, [], 0), none, some (.ireturn, 25, [0], 0), some (.aload_n 0, 26, [], 0), some (.getfield 22, 29, [8, 5, 45, 3], 5), none, none, some (.iload_n 1, 30, [], 0), some (.iaload, 31, [], 0), some (.ireturn, 32, [0], 0)]]
def ob_c_X8_longest : List (List (Option ob_Ent)) := [[some (.iconst 0, 1, [], 0), some (.istore_n 2, 2, [], 0), some (.iconst 0, 3, [], 0), some (.istore_n 3, 4, [], 0), some (.iconst 0, 5, [], 0), some (.istore 4, 7, [], 0), none, some (.iload 4, 9, [], 0), none, some (.iconst 2, 10, [], 0), some (.aload_n 0, 11, [], 0), some (.invokevirtual 82, 14, [9, 138, 1, 1, 8, 1, 0], 0), none, none, some (.imul, 15, [], 0), some (.if_icmp .ge 110, 18, [125], 0)],
  [none, none, some (.iconst 0, 19, [], 0), some (.istore 5, 21, [], 0), none, some (.iconst 0, 22, [], 0), some (.istore 6, 24, [], 0), none, some (.iload 6, 26, [], 0), none, some (.aload_n 0, 27, [], 0), some (.getfield 252, 30, [8, 14, 0, 0], 14), none, none, some (.if_icmp .ge 65, 33, [95], 0), none],
  [none, some (.iload 5, 35, [], 0), none, some (.ifCond .ne 47, 38, [82], 0), none, none, some (.iload_n 1, 39, [], 0), some (.iconst (-1), 40, [], 0), some (.if_icmp .eq 14, 43, [54], 0), none, none, some (.aload_n 0, 44, [], 0), some (.getfield 35, 47, [8, 12, 49, 3], 12), none, none, some (.iload 6, 49, [], 0)],
  [none, some (.iaload, 50, [], 0), some (.iload_n 1, 51, [], 0), some (.if_icmp .ne 35, 54, [86], 0), none, none, some (.aload_n 0, 55, [], 0), some (.aload_n 0, 56, [], 0), some (.iload 6, 58, [], 0), none, some (.iconst 1, 59, [], 0), some (.invokevirtual 255, 62, [9, 198, 3, 1, 8, 3, 0], 0), none, none, some (.iload 4, 64, [], 0), none],
  [some (.aload_n 0, 65, [], 0), some (.invokevirtual 82, 68, [9, 138, 1, 1, 8, 1, 0], 0), none, none, some (.irem, 69, [], 0), some (.invokevirtual 188, 72, [9, 145, 3, 1, 8, 4, 0], 0), none, none, some (.aload_n 0, 73, [], 0), some (.iload 6, 75, [], 0), none, some (.iconst 2, 76, [], 0), some (.invokevirtual 255, 79, [9, 198, 3, 1, 8, 3, 0], 0), none, none, some (.if_icmp .ge 7, 82, [86], 0)],
  [none, none, some (.iconst 1, 83, [], 0), some (.goto 4, 86, [87], 0), none, none, some (.iconst 0, 87, [], 0), some (.istore 5, 89, [], 0), none, some (.iinc 6 1, 92, [], 0), none, none, some (.goto (-68), 95, [24], 0), none, none, some (.iload 5, 97, [], 0)],
  [none, some (.ifCond .eq 7, 100, [104], 0), none, none, some (.iconst 0, 101, [], 0), some (.goto 6, 104, [107], 0), none, none, some (.iload_n 3, 105, [], 0), some (.iconst 1, 106, [], 0), some (.iadd, 107, [], 0), some (.istore_n 3, 108, [], 0), some (.iload_n 3, 109, [], 0), some (.iload_n 2, 110, [], 0), some (.if_icmp .le 7, 113, [117], 0), none],
  [none, some (.iload_n 3, 114, [], 0), some (.goto 4, 117, [118], 0), none, none, some (.iload_n 2, 118, [], 0), some (.istore_n 2, 119, [], 0), some (.iinc 4 1, 122, [], 0), none, none, some (.goto (-115), 125, [7], 0), none, none, some (.iload_n 2, 126, [], 0), some (.aload_n 0, 127, [], 0), some (.invokevirtual 82, 130, [9, 138, 1, 1, 8, 1, 0], 0)],
  [none, none, some (.if_icmp .ge 7, 133, [137], 0), none, none, some (.iload_n 2, 134, [], 0), some (.goto 7, 137, [141], 0), none, none, some (.aload_n 0, 138, [], 0), some (.invokevirtual 82, 141, [9, 138, 1, 1, 8, 1, 0], 0), none, none, some (.ireturn, 142, [0], 0)]]
def ob_c_X8_pinnedSet : List (List (Option ob_Ent)) := [[some (.iconst 0, 1, [], 0), some (.istore_n 1, 2, [], 0), some (.iconst 0, 3, [], 0), some (.istore_n 2, 4, [], 0), some (.iload_n 2, 5, [], 0), some (.aload_n 0, 6, [], 0), some (.invokevirtual 70, 9, [9, 139, 1, 1, 8, 1, 0], 0), none, none, some (.if_icmp .ge 27, 12, [36], 0), none, none, some (.iload_n 1, 13, [], 0), some (.aload_n 0, 14, [], 0), some (.iload_n 2, 15, [], 0), some (.invokevirtual 160, 18, [9, 144, 2, 1, 8, 2, 0], 0)],
  [none, none, some (.ifCond .eq 9, 21, [27], 0), none, none, some (.iconst 1, 22, [], 0), some (.iload_n 2, 23, [], 0), some (.ishl, 24, [], 0), some (.goto 4, 27, [28], 0), none, none, some (.iconst 0, 28, [], 0), some (.ior, 29, [], 0), some (.istore_n 1, 30, [], 0), some (.iinc 2 1, 33, [], 0), none],
  [none, some (.goto (-29), 36, [4], 0), none, none, some (.iload_n 1, 37, [], 0), some (.ireturn, 38, [0], 0)]]
def ob_c_X8_emptyTracks : List (List (Option ob_Ent)) := [[some (.iconst 0, 1, [], 0), some (.istore_n 1, 2, [], 0), some (.iconst 0, 3, [], 0), some (.istore_n 2, 4, [], 0), some (.iload_n 2, 5, [], 0), some (.aload_n 0, 6, [], 0), some (.invokevirtual 264, 9, [9, 201, 1, 1, 8, 1, 0], 0), none, none, some (.if_icmp .ge 62, 12, [71], 0), none, none, some (.iconst 1, 13, [], 0), some (.istore_n 3, 14, [], 0), some (.iconst 0, 15, [], 0), some (.istore 4, 17, [], 0)],
  [none, some (.iload 4, 19, [], 0), none, some (.aload_n 0, 20, [], 0), some (.getfield 252, 23, [8, 14, 0, 0], 14), none, none, some (.if_icmp .ge 30, 26, [53], 0), none, none, some (.iload_n 3, 27, [], 0), some (.ifCond .eq 18, 30, [45], 0), none, none, some (.aload_n 0, 31, [], 0), some (.getfield 35, 34, [8, 12, 49, 3], 12)],
  [none, none, some (.iload 4, 36, [], 0), none, some (.iaload, 37, [], 0), some (.iload_n 2, 38, [], 0), some (.if_icmp .eq 7, 41, [45], 0), none, none, some (.iconst 1, 42, [], 0), some (.goto 4, 45, [46], 0), none, none, some (.iconst 0, 46, [], 0), some (.istore_n 3, 47, [], 0), some (.iinc 4 1, 50, [], 0)],
  [none, none, some (.goto (-33), 53, [17], 0), none, none, some (.iload_n 1, 54, [], 0), some (.iload_n 3, 55, [], 0), some (.ifCond .eq 7, 58, [62], 0), none, none, some (.iconst 1, 59, [], 0), some (.goto 4, 62, [63], 0), none, none, some (.iconst 0, 63, [], 0), some (.iadd, 64, [], 0)],
  [some (.istore_n 1, 65, [], 0), some (.iinc 2 1, 68, [], 0), none, none, some (.goto (-64), 71, [4], 0), none, none, some (.iload_n 1, 72, [], 0), some (.ireturn, 73, [0], 0)]]
def ob_c_X8_allNow : List (List (Option ob_Ent)) := [[some (.aload_n 0, 1, [], 0), some (.invokevirtual 272, 4, [9, 202, 1, 0, 8, 6, 0], 0), none, none, some (.iconst 0, 5, [], 0), some (.istore_n 2, 6, [], 0), some (.iconst 0, 7, [], 0), some (.istore_n 3, 8, [], 0), some (.iconst 0, 9, [], 0), some (.istore 4, 11, [], 0), none, some (.iload 4, 13, [], 0), none, some (.aload_n 0, 14, [], 0), some (.getfield 261, 17, [8, 20, 0, 0], 20), none],
  [none, some (.if_icmp .ge 45, 20, [62], 0), none, none, some (.iload_n 2, 21, [], 0), some (.aload_n 0, 22, [], 0), some (.getfield 50, 25, [8, 18, 54, 3], 18), none, none, some (.iload 4, 27, [], 0), none, some (.iaload, 28, [], 0), some (.iconst 1, 29, [], 0), some (.if_icmp .le 7, 32, [36], 0), none, none],
  [some (.iconst 1, 33, [], 0), some (.goto 4, 36, [37], 0), none, none, some (.iconst 0, 37, [], 0), some (.iadd, 38, [], 0), some (.istore_n 2, 39, [], 0), some (.iload_n 3, 40, [], 0), some (.aload_n 0, 41, [], 0), some (.iload 4, 43, [], 0), none, some (.invokevirtual 281, 46, [9, 203, 2, 1, 8, 2, 0], 0), none, none, some (.ifCond .eq 7, 49, [53], 0), none],
  [none, some (.iconst 1, 50, [], 0), some (.goto 4, 53, [54], 0), none, none, some (.iconst 0, 54, [], 0), some (.iadd, 55, [], 0), some (.istore_n 3, 56, [], 0), some (.iinc 4 1, 59, [], 0), none, none, some (.goto (-48), 62, [11], 0), none, none, some (.iload_n 1, 63, [], 0), some (.tableswitch 61 0 5 #[37, 42, 47, 52, 54, 56], 100, [124, 100, 105, 110, 115, 117, 119], 0)],
  [none, none, none, none, none, none, none, none, none, none, none, none, none, none, none, none],
  [none, none, none, none, none, none, none, none, none, none, none, none, none, none, none, none],
  [none, none, none, none, some (.aload_n 0, 101, [], 0), some (.invokevirtual 284, 104, [9, 210, 1, 1, 8, 3, 0], 0), none, none, some (.ireturn, 105, [0], 0), some (.aload_n 0, 106, [], 0), some (.getfield 252, 109, [8, 14, 0, 0], 14), none, none, some (.ireturn, 110, [0], 0), some (.aload_n 0, 111, [], 0), some (.getfield 261, 114, [8, 20, 0, 0], 20)],
  [none, none, some (.ireturn, 115, [0], 0), some (.iload_n 2, 116, [], 0), some (.ireturn, 117, [0], 0), some (.iload_n 3, 118, [], 0), some (.ireturn, 119, [0], 0), some (.aload_n 0, 120, [], 0), some (.invokevirtual 287, 123, [9, 211, 1, 1, 8, 5, 0], 0), none, none, some (.ireturn, 124, [0], 0), some (.aload_n 0, 125, [], 0), some (.iconst (-1), 126, [], 0), some (.invokevirtual 290, 129, [9, 209, 2, 1, 8, 7, 0], 0), none],
  [none, some (.ireturn, 130, [0], 0)]]
def ob_c_X8_all : List (List (Option ob_Ent)) := [[some (.iload_n 1, 1, [], 0), some (.i2l, 2, [], 0), some (.lconst 0, 3, [], 0), some (.ldc2_w 98, 6, [6], 6), none, none, some (.invokestatic 74, 9, [9, 134, 3, 1, 8, 6, 0], 0), none, none, some (.ifCond .eq 11, 12, [20], 0), none, none, some (.aload_n 0, 13, [], 0), some (.iload_n 1, 14, [], 0), some (.invokevirtual 293, 17, [9, 212, 2, 1, 8, 5, 0], 0), none],
  [none, some (.goto 9, 20, [26], 0), none, none, some (.aload_n 0, 21, [], 0), some (.bipush (-2), 23, [], 0), none, some (.invokevirtual 106, 26, [9, 135, 2, 1, 8, 2, 0], 0), none, none, some (.ireturn, 27, [0], 0)]]
def ob_c_X8_bridgeNow : List (List (Option ob_Ent)) := [[some (.iload_n 2, 1, [], 0), some (.tableswitch 70 0 4 #[35, 42, 49, 56, 63], 36, [71, 36, 43, 50, 57, 64], 0), none, none, none, none, none, none, none, none, none, none, none, none, none, none],
  [none, none, none, none, none, none, none, none, none, none, none, none, none, none, none, none],
  [none, none, none, none, some (.aload_n 0, 37, [], 0), some (.getfield 41, 40, [8, 15, 51, 3], 15), none, none, some (.iload_n 1, 41, [], 0), some (.iaload, 42, [], 0), some (.ireturn, 43, [0], 0), some (.aload_n 0, 44, [], 0), some (.getfield 44, 47, [8, 16, 52, 3], 16), none, none, some (.iload_n 1, 48, [], 0)],
  [some (.iaload, 49, [], 0), some (.ireturn, 50, [0], 0), some (.aload_n 0, 51, [], 0), some (.getfield 47, 54, [8, 17, 53, 3], 17), none, none, some (.iload_n 1, 55, [], 0), some (.iaload, 56, [], 0), some (.ireturn, 57, [0], 0), some (.aload_n 0, 58, [], 0), some (.getfield 50, 61, [8, 18, 54, 3], 18), none, none, some (.iload_n 1, 62, [], 0), some (.iaload, 63, [], 0), some (.ireturn, 64, [0], 0)],
  [some (.aload_n 0, 65, [], 0), some (.getfield 53, 68, [8, 19, 55, 3], 19), none, none, some (.iload_n 1, 69, [], 0), some (.iaload, 70, [], 0), some (.ireturn, 71, [0], 0), some (.aload_n 0, 72, [], 0), some (.iload_n 1, 73, [], 0), some (.invokevirtual 296, 76, [9, 204, 2, 1, 8, 3, 0], 0), none, none, some (.ireturn, 77, [0], 0)]]
def ob_c_X8_bridge : List (List (Option ob_Ent)) := [[some (.iload_n 1, 1, [], 0), some (.ifCond .lt 15, 4, [16], 0), none, none, some (.iload_n 2, 5, [], 0), some (.i2l, 6, [], 0), some (.lconst 0, 7, [], 0), some (.ldc2_w 270, 10, [5], 5), none, none, some (.invokestatic 74, 13, [9, 134, 3, 1, 8, 6, 0], 0), none, none, some (.ifCond .ne 10, 16, [23], 0), none, none],
  [some (.aload_n 0, 17, [], 0), some (.bipush (-2), 19, [], 0), none, some (.invokevirtual 106, 22, [9, 135, 2, 1, 8, 2, 0], 0), none, none, some (.ireturn, 23, [0], 0), some (.aload_n 0, 24, [], 0), some (.invokevirtual 272, 27, [9, 202, 1, 0, 8, 6, 0], 0), none, none, some (.iload_n 1, 28, [], 0), some (.aload_n 0, 29, [], 0), some (.getfield 261, 32, [8, 20, 0, 0], 20), none, none],
  [some (.if_icmp .ge 12, 35, [44], 0), none, none, some (.aload_n 0, 36, [], 0), some (.iload_n 1, 37, [], 0), some (.iload_n 2, 38, [], 0), some (.invokevirtual 299, 41, [9, 214, 3, 1, 8, 3, 0], 0), none, none, some (.goto 4, 44, [45], 0), none, none, some (.iconst (-1), 45, [], 0), some (.ireturn, 46, [0], 0)]]
def ob_c_X8_free : List (List (Option ob_Ent)) := [[some (.iload_n 1, 1, [], 0), some (.i2l, 2, [], 0), some (.lconst 0, 3, [], 0), some (.aload_n 0, 4, [], 0), some (.invokevirtual 264, 7, [9, 201, 1, 1, 8, 1, 0], 0), none, none, some (.iconst 1, 8, [], 0), some (.isub, 9, [], 0), some (.i2l, 10, [], 0), some (.invokestatic 74, 13, [9, 134, 3, 1, 8, 6, 0], 0), none, none, some (.ifCond .ne 10, 16, [23], 0), none, none],
  [some (.aload_n 0, 17, [], 0), some (.bipush (-2), 19, [], 0), none, some (.invokevirtual 106, 22, [9, 135, 2, 1, 8, 2, 0], 0), none, none, some (.ireturn, 23, [0], 0), some (.aload_n 0, 24, [], 0), some (.invokevirtual 258, 27, [9, 200, 1, 0, 8, 3, 0], 0), none, none, some (.aload_n 0, 28, [], 0), some (.iload_n 1, 29, [], 0), some (.invokevirtual 290, 32, [9, 209, 2, 1, 8, 7, 0], 0), none, none],
  [some (.ireturn, 33, [0], 0)]]
def ob_c_X8_plays : List (List (Option ob_Ent)) := [[some (.aload_n 0, 1, [], 0), some (.iload_n 1, 2, [], 0), some (.invokevirtual 128, 5, [9, 140, 2, 1, 8, 2, 0], 0), none, none, some (.ifCond .eq 15, 8, [20], 0), none, none, some (.iload_n 2, 9, [], 0), some (.i2l, 10, [], 0), some (.lconst 1, 11, [], 0), some (.ldc2_w 302, 14, [50], 50), none, none, some (.invokestatic 74, 17, [9, 134, 3, 1, 8, 6, 0], 0), none],
  [none, some (.ifCond .ne 10, 20, [27], 0), none, none, some (.aload_n 0, 21, [], 0), some (.bipush (-2), 23, [], 0), none, some (.invokevirtual 106, 26, [9, 135, 2, 1, 8, 2, 0], 0), none, none, some (.ireturn, 27, [0], 0), some (.aload_n 0, 28, [], 0), some (.iload_n 1, 29, [], 0), some (.invokevirtual 160, 32, [9, 144, 2, 1, 8, 2, 0], 0), none, none],
  [some (.ifCond .ne 10, 35, [42], 0), none, none, some (.aload_n 0, 36, [], 0), some (.bipush (-3), 38, [], 0), none, some (.invokevirtual 106, 41, [9, 135, 2, 1, 8, 2, 0], 0), none, none, some (.ireturn, 42, [0], 0), some (.aload_n 0, 43, [], 0), some (.invokevirtual 110, 46, [9, 136, 1, 0, 8, 2, 0], 0), none, none, some (.iconst 0, 47, [], 0), some (.istore_n 3, 48, [], 0)],
  [some (.iload_n 3, 49, [], 0), some (.aload_n 0, 50, [], 0), some (.iload_n 1, 51, [], 0), some (.bipush 43, 53, [], 0), none, some (.invokevirtual 78, 56, [9, 142, 3, 1, 8, 3, 0], 0), none, none, some (.if_icmp .ge 31, 59, [87], 0), none, none, some (.aload_n 0, 60, [], 0), some (.iload_n 1, 61, [], 0), some (.bipush 44, 63, [], 0), none, some (.iconst 4, 64, [], 0)],
  [some (.iload_n 3, 65, [], 0), some (.imul, 66, [], 0), some (.iadd, 67, [], 0), some (.iconst 3, 68, [], 0), some (.iadd, 69, [], 0), some (.aload_n 0, 70, [], 0), some (.iload_n 1, 71, [], 0), some (.iload_n 3, 72, [], 0), some (.iconst 3, 73, [], 0), some (.invokevirtual 200, 76, [9, 181, 4, 1, 8, 4, 0], 0), none, none, some (.iload_n 2, 77, [], 0), some (.iadd, 78, [], 0), some (.invokevirtual 131, 81, [9, 143, 4, 0, 8, 4, 0], 0), none],
  [none, some (.iinc 3 1, 84, [], 0), none, none, some (.goto (-36), 87, [48], 0), none, none, some (.aload_n 0, 88, [], 0), some (.invokevirtual 272, 91, [9, 202, 1, 0, 8, 6, 0], 0), none, none, some (.iconst 0, 92, [], 0), some (.istore_n 3, 93, [], 0), some (.iconst 0, 94, [], 0), some (.istore 4, 96, [], 0), none],
  [some (.iload 4, 98, [], 0), none, some (.aload_n 0, 99, [], 0), some (.getfield 261, 102, [8, 20, 0, 0], 20), none, none, some (.if_icmp .ge 87, 105, [189], 0), none, none, some (.iconst 0, 106, [], 0), some (.istore 5, 108, [], 0), none, some (.iconst 0, 109, [], 0), some (.istore 6, 111, [], 0), none, some (.iload 6, 113, [], 0)],
  [none, some (.aload_n 0, 114, [], 0), some (.getfield 252, 117, [8, 14, 0, 0], 14), none, none, some (.if_icmp .ge 44, 120, [161], 0), none, none, some (.iload 5, 122, [], 0), none, some (.ifCond .ne 26, 125, [148], 0), none, none, some (.aload_n 0, 126, [], 0), some (.getfield 38, 129, [8, 13, 50, 3], 13), none],
  [none, some (.iload 6, 131, [], 0), none, some (.iaload, 132, [], 0), some (.iload 4, 134, [], 0), none, some (.if_icmp .ne 18, 137, [152], 0), none, none, some (.aload_n 0, 138, [], 0), some (.getfield 29, 141, [8, 10, 47, 3], 10), none, none, some (.iload 6, 143, [], 0), none, some (.iaload, 144, [], 0)],
  [some (.iload_n 1, 145, [], 0), some (.if_icmp .ne 7, 148, [152], 0), none, none, some (.iconst 1, 149, [], 0), some (.goto 4, 152, [153], 0), none, none, some (.iconst 0, 153, [], 0), some (.istore 5, 155, [], 0), none, some (.iinc 6 1, 158, [], 0), none, none, some (.goto (-47), 161, [111], 0), none],
  [none, some (.iload_n 3, 162, [], 0), some (.iload 5, 164, [], 0), none, some (.ifCond .eq 16, 167, [180], 0), none, none, some (.aload_n 0, 168, [], 0), some (.iload 4, 170, [], 0), none, some (.invokevirtual 281, 173, [9, 203, 2, 1, 8, 2, 0], 0), none, none, some (.ifCond .eq 7, 176, [180], 0), none, none],
  [some (.iconst 1, 177, [], 0), some (.goto 4, 180, [181], 0), none, none, some (.iconst 0, 181, [], 0), some (.iadd, 182, [], 0), some (.istore_n 3, 183, [], 0), some (.iinc 4 1, 186, [], 0), none, none, some (.goto (-90), 189, [96], 0), none, none, some (.iload_n 3, 190, [], 0), some (.ireturn, 191, [0], 0)]]
def ob_c_X8_mends : List (List (Option ob_Ent)) := [[some (.iload_n 1, 1, [], 0), some (.ifCond .ge 10, 4, [11], 0), none, none, some (.aload_n 0, 5, [], 0), some (.bipush (-2), 7, [], 0), none, some (.invokevirtual 106, 10, [9, 135, 2, 1, 8, 2, 0], 0), none, none, some (.ireturn, 11, [0], 0), some (.aload_n 0, 12, [], 0), some (.invokevirtual 272, 15, [9, 202, 1, 0, 8, 6, 0], 0), none, none, some (.iload_n 1, 16, [], 0)],
  [some (.aload_n 0, 17, [], 0), some (.getfield 261, 20, [8, 20, 0, 0], 20), none, none, some (.if_icmp .lt 10, 23, [30], 0), none, none, some (.aload_n 0, 24, [], 0), some (.bipush (-3), 26, [], 0), none, some (.invokevirtual 106, 29, [9, 135, 2, 1, 8, 2, 0], 0), none, none, some (.ireturn, 30, [0], 0), some (.aload_n 0, 31, [], 0), some (.getfield 53, 34, [8, 19, 55, 3], 19)],
  [none, none, some (.iload_n 1, 35, [], 0), some (.iaload, 36, [], 0), some (.istore_n 2, 37, [], 0), some (.aload_n 0, 38, [], 0), some (.invokevirtual 110, 41, [9, 136, 1, 0, 8, 2, 0], 0), none, none, some (.iconst 0, 42, [], 0), some (.istore_n 3, 43, [], 0), some (.iload_n 3, 44, [], 0), some (.aload_n 0, 45, [], 0), some (.getfield 252, 48, [8, 14, 0, 0], 14), none, none],
  [some (.if_icmp .ge 43, 51, [91], 0), none, none, some (.aload_n 0, 52, [], 0), some (.getfield 38, 55, [8, 13, 50, 3], 13), none, none, some (.iload_n 3, 56, [], 0), some (.iaload, 57, [], 0), some (.iload_n 1, 58, [], 0), some (.if_icmp .ne 27, 61, [85], 0), none, none, some (.aload_n 0, 62, [], 0), some (.aload_n 0, 63, [], 0), some (.getfield 29, 66, [8, 10, 47, 3], 10)],
  [none, none, some (.iload_n 3, 67, [], 0), some (.iaload, 68, [], 0), some (.bipush 44, 70, [], 0), none, some (.iconst 4, 71, [], 0), some (.aload_n 0, 72, [], 0), some (.getfield 32, 75, [8, 11, 48, 3], 11), none, none, some (.iload_n 3, 76, [], 0), some (.iaload, 77, [], 0), some (.imul, 78, [], 0), some (.iadd, 79, [], 0), some (.iconst 3, 80, [], 0)],
  [some (.iadd, 81, [], 0), some (.iconst 0, 82, [], 0), some (.invokevirtual 131, 85, [9, 143, 4, 0, 8, 4, 0], 0), none, none, some (.iinc 3 1, 88, [], 0), none, none, some (.goto (-45), 91, [43], 0), none, none, some (.iload_n 2, 92, [], 0), some (.ireturn, 93, [0], 0)]]
def ob_c_X8_heardNow : List (List (Option ob_Ent)) := [[some (.iconst 0, 1, [], 0), some (.istore_n 3, 2, [], 0), some (.iconst 0, 3, [], 0), some (.istore 4, 5, [], 0), none, some (.iload 4, 7, [], 0), none, some (.aload_n 0, 8, [], 0), some (.getfield 252, 11, [8, 14, 0, 0], 14), none, none, some (.if_icmp .ge 82, 14, [93], 0), none, none, some (.aload_n 0, 15, [], 0), some (.getfield 29, 18, [8, 10, 47, 3], 10)],
  [none, none, some (.iload 4, 20, [], 0), none, some (.iaload, 21, [], 0), some (.iload_n 1, 22, [], 0), some (.if_icmp .ne 41, 25, [63], 0), none, none, some (.aload_n 0, 26, [], 0), some (.aload_n 0, 27, [], 0), some (.iload 4, 29, [], 0), none, some (.iconst 1, 30, [], 0), some (.invokevirtual 255, 33, [9, 198, 3, 1, 8, 3, 0], 0), none],
  [none, some (.iload_n 2, 34, [], 0), some (.invokevirtual 188, 37, [9, 145, 3, 1, 8, 4, 0], 0), none, none, some (.aload_n 0, 38, [], 0), some (.iload 4, 40, [], 0), none, some (.iconst 2, 41, [], 0), some (.invokevirtual 255, 44, [9, 198, 3, 1, 8, 3, 0], 0), none, none, some (.aload_n 0, 45, [], 0), some (.aload_n 0, 46, [], 0), some (.getfield 38, 49, [8, 13, 50, 3], 13), none],
  [none, some (.iload 4, 51, [], 0), none, some (.iaload, 52, [], 0), some (.invokevirtual 296, 55, [9, 204, 2, 1, 8, 3, 0], 0), none, none, some (.isub, 56, [], 0), some (.if_icmp .ge 7, 59, [63], 0), none, none, some (.iconst 1, 60, [], 0), some (.goto 4, 63, [64], 0), none, none, some (.iconst 0, 64, [], 0)],
  [some (.istore 5, 66, [], 0), none, some (.iload_n 3, 67, [], 0), some (.iload 5, 69, [], 0), none, some (.ifCond .eq 15, 72, [84], 0), none, none, some (.iconst 1, 73, [], 0), some (.aload_n 0, 74, [], 0), some (.iload 4, 76, [], 0), none, some (.iconst 0, 77, [], 0), some (.invokevirtual 255, 80, [9, 198, 3, 1, 8, 3, 0], 0), none, none],
  [some (.ishl, 81, [], 0), some (.goto 4, 84, [85], 0), none, none, some (.iconst 0, 85, [], 0), some (.ior, 86, [], 0), some (.istore_n 3, 87, [], 0), some (.iinc 4 1, 90, [], 0), none, none, some (.goto (-85), 93, [5], 0), none, none, some (.iload_n 3, 94, [], 0), some (.ireturn, 95, [0], 0)]]
def ob_c_X8_heard : List (List (Option ob_Ent)) := [[some (.aload_n 0, 1, [], 0), some (.iload_n 1, 2, [], 0), some (.invokevirtual 128, 5, [9, 140, 2, 1, 8, 2, 0], 0), none, none, some (.ifCond .eq 19, 8, [24], 0), none, none, some (.iload_n 2, 9, [], 0), some (.i2l, 10, [], 0), some (.lconst 0, 11, [], 0), some (.aload_n 0, 12, [], 0), some (.invokevirtual 82, 15, [9, 138, 1, 1, 8, 1, 0], 0), none, none, some (.iconst 1, 16, [], 0)],
  [some (.isub, 17, [], 0), some (.i2l, 18, [], 0), some (.invokestatic 74, 21, [9, 134, 3, 1, 8, 6, 0], 0), none, none, some (.ifCond .ne 10, 24, [31], 0), none, none, some (.aload_n 0, 25, [], 0), some (.bipush (-2), 27, [], 0), none, some (.invokevirtual 106, 30, [9, 135, 2, 1, 8, 2, 0], 0), none, none, some (.ireturn, 31, [0], 0), some (.aload_n 0, 32, [], 0)],
  [some (.iload_n 1, 33, [], 0), some (.invokevirtual 160, 36, [9, 144, 2, 1, 8, 2, 0], 0), none, none, some (.ifCond .ne 10, 39, [46], 0), none, none, some (.aload_n 0, 40, [], 0), some (.bipush (-3), 42, [], 0), none, some (.invokevirtual 106, 45, [9, 135, 2, 1, 8, 2, 0], 0), none, none, some (.ireturn, 46, [0], 0), some (.aload_n 0, 47, [], 0), some (.invokevirtual 272, 50, [9, 202, 1, 0, 8, 6, 0], 0)],
  [none, none, some (.aload_n 0, 51, [], 0), some (.iload_n 1, 52, [], 0), some (.iload_n 2, 53, [], 0), some (.invokevirtual 304, 56, [9, 219, 3, 1, 8, 6, 0], 0), none, none, some (.ireturn, 57, [0], 0)]]
def ob_c_X8_toldAt : List (List (Option ob_Ent)) := [[some (.aload_n 0, 1, [], 0), some (.iload_n 1, 2, [], 0), some (.aload_n 0, 3, [], 0), some (.iload_n 2, 4, [], 0), some (.aload_n 0, 5, [], 0), some (.iload_n 1, 6, [], 0), some (.bipush 40, 8, [], 0), none, some (.invokevirtual 78, 11, [9, 142, 3, 1, 8, 3, 0], 0), none, none, some (.aload_n 0, 12, [], 0), some (.iload_n 1, 13, [], 0), some (.bipush 42, 15, [], 0), none, some (.invokevirtual 78, 18, [9, 142, 3, 1, 8, 3, 0], 0)],
  [none, none, some (.invokevirtual 85, 21, [9, 146, 4, 1, 8, 5, 0], 0), none, none, some (.aload_n 0, 22, [], 0), some (.iload_n 1, 23, [], 0), some (.bipush 41, 25, [], 0), none, some (.invokevirtual 78, 28, [9, 142, 3, 1, 8, 3, 0], 0), none, none, some (.iadd, 29, [], 0), some (.aload_n 0, 30, [], 0), some (.invokevirtual 82, 33, [9, 138, 1, 1, 8, 1, 0], 0), none],
  [none, some (.irem, 34, [], 0), some (.invokevirtual 304, 37, [9, 219, 3, 1, 8, 6, 0], 0), none, none, some (.ireturn, 38, [0], 0)]]
def ob_c_X8_tells : List (List (Option ob_Ent)) := [[some (.aload_n 0, 1, [], 0), some (.iload_n 1, 2, [], 0), some (.invokevirtual 128, 5, [9, 140, 2, 1, 8, 2, 0], 0), none, none, some (.ifCond .eq 7, 8, [12], 0), none, none, some (.iload_n 2, 9, [], 0), some (.ifCond .ge 10, 12, [19], 0), none, none, some (.aload_n 0, 13, [], 0), some (.bipush (-2), 15, [], 0), none, some (.invokevirtual 106, 18, [9, 135, 2, 1, 8, 2, 0], 0)],
  [none, none, some (.ireturn, 19, [0], 0), some (.aload_n 0, 20, [], 0), some (.iload_n 1, 21, [], 0), some (.invokevirtual 160, 24, [9, 144, 2, 1, 8, 2, 0], 0), none, none, some (.ifCond .eq 14, 27, [38], 0), none, none, some (.iload_n 2, 28, [], 0), some (.aload_n 0, 29, [], 0), some (.iload_n 1, 30, [], 0), some (.bipush 40, 32, [], 0), none],
  [some (.invokevirtual 78, 35, [9, 142, 3, 1, 8, 3, 0], 0), none, none, some (.if_icmp .lt 10, 38, [45], 0), none, none, some (.aload_n 0, 39, [], 0), some (.bipush (-3), 41, [], 0), none, some (.invokevirtual 106, 44, [9, 135, 2, 1, 8, 2, 0], 0), none, none, some (.ireturn, 45, [0], 0), some (.aload_n 0, 46, [], 0), some (.invokevirtual 272, 49, [9, 202, 1, 0, 8, 6, 0], 0), none],
  [none, some (.aload_n 0, 50, [], 0), some (.iload_n 1, 51, [], 0), some (.iload_n 2, 52, [], 0), some (.invokevirtual 307, 55, [9, 221, 3, 1, 8, 3, 0], 0), none, none, some (.ireturn, 56, [0], 0)]]
def ob_c_X8_wrong : List (List (Option ob_Ent)) := [[some (.aload_n 0, 1, [], 0), some (.iload_n 1, 2, [], 0), some (.invokevirtual 128, 5, [9, 140, 2, 1, 8, 2, 0], 0), none, none, some (.ifCond .ne 10, 8, [15], 0), none, none, some (.aload_n 0, 9, [], 0), some (.bipush (-2), 11, [], 0), none, some (.invokevirtual 106, 14, [9, 135, 2, 1, 8, 2, 0], 0), none, none, some (.ireturn, 15, [0], 0), some (.aload_n 0, 16, [], 0)],
  [some (.iload_n 1, 17, [], 0), some (.invokevirtual 160, 20, [9, 144, 2, 1, 8, 2, 0], 0), none, none, some (.ifCond .ne 10, 23, [30], 0), none, none, some (.aload_n 0, 24, [], 0), some (.bipush (-3), 26, [], 0), none, some (.invokevirtual 106, 29, [9, 135, 2, 1, 8, 2, 0], 0), none, none, some (.ireturn, 30, [0], 0), some (.iconst 0, 31, [], 0), some (.istore_n 2, 32, [], 0)],
  [some (.aload_n 0, 33, [], 0), some (.invokevirtual 272, 36, [9, 202, 1, 0, 8, 6, 0], 0), none, none, some (.iconst 0, 37, [], 0), some (.istore_n 3, 38, [], 0), some (.iload_n 3, 39, [], 0), some (.aload_n 0, 40, [], 0), some (.iload_n 1, 41, [], 0), some (.bipush 40, 43, [], 0), none, some (.invokevirtual 78, 46, [9, 142, 3, 1, 8, 3, 0], 0), none, none, some (.if_icmp .ge 130, 49, [176], 0), none],
  [none, some (.iconst 0, 50, [], 0), some (.istore 4, 52, [], 0), none, some (.iconst 0, 53, [], 0), some (.istore 5, 55, [], 0), none, some (.iload 5, 57, [], 0), none, some (.aload_n 0, 58, [], 0), some (.iload_n 1, 59, [], 0), some (.bipush 43, 61, [], 0), none, some (.invokevirtual 78, 64, [9, 142, 3, 1, 8, 3, 0], 0), none, none],
  [some (.if_icmp .ge 87, 67, [151], 0), none, none, some (.iload_n 3, 68, [], 0), some (.aload_n 0, 69, [], 0), some (.iload_n 1, 70, [], 0), some (.bipush 92, 72, [], 0), none, some (.iconst 2, 73, [], 0), some (.iload 5, 75, [], 0), none, some (.imul, 76, [], 0), some (.iadd, 77, [], 0), some (.invokevirtual 78, 80, [9, 142, 3, 1, 8, 3, 0], 0), none, none],
  [some (.if_icmp .lt 38, 83, [118], 0), none, none, some (.iload_n 3, 84, [], 0), some (.aload_n 0, 85, [], 0), some (.iload_n 1, 86, [], 0), some (.bipush 92, 88, [], 0), none, some (.iconst 2, 89, [], 0), some (.iload 5, 91, [], 0), none, some (.imul, 92, [], 0), some (.iadd, 93, [], 0), some (.invokevirtual 78, 96, [9, 142, 3, 1, 8, 3, 0], 0), none, none],
  [some (.aload_n 0, 97, [], 0), some (.iload_n 1, 98, [], 0), some (.bipush 92, 100, [], 0), none, some (.iconst 2, 101, [], 0), some (.iload 5, 103, [], 0), none, some (.imul, 104, [], 0), some (.iadd, 105, [], 0), some (.iconst 1, 106, [], 0), some (.iadd, 107, [], 0), some (.invokevirtual 78, 110, [9, 142, 3, 1, 8, 3, 0], 0), none, none, some (.iadd, 111, [], 0), some (.if_icmp .ge 7, 114, [118], 0)],
  [none, none, some (.iconst 1, 115, [], 0), some (.goto 4, 118, [119], 0), none, none, some (.iconst 0, 119, [], 0), some (.istore 6, 121, [], 0), none, some (.iload 4, 123, [], 0), none, some (.iload 6, 125, [], 0), none, some (.ifCond .eq 16, 128, [141], 0), none, none],
  [some (.iconst 1, 129, [], 0), some (.aload_n 0, 130, [], 0), some (.iload_n 1, 131, [], 0), some (.iload 5, 133, [], 0), none, some (.iconst 0, 134, [], 0), some (.invokevirtual 200, 137, [9, 181, 4, 1, 8, 4, 0], 0), none, none, some (.ishl, 138, [], 0), some (.goto 4, 141, [142], 0), none, none, some (.iconst 0, 142, [], 0), some (.ior, 143, [], 0), some (.istore 4, 145, [], 0)],
  [none, some (.iinc 5 1, 148, [], 0), none, none, some (.goto (-93), 151, [55], 0), none, none, some (.iload_n 2, 152, [], 0), some (.aload_n 0, 153, [], 0), some (.iload_n 1, 154, [], 0), some (.iload_n 3, 155, [], 0), some (.invokevirtual 307, 158, [9, 221, 3, 1, 8, 3, 0], 0), none, none, some (.iload 4, 160, [], 0), none],
  [some (.if_icmp .eq 7, 163, [167], 0), none, none, some (.iconst 1, 164, [], 0), some (.goto 4, 167, [168], 0), none, none, some (.iconst 0, 168, [], 0), some (.iadd, 169, [], 0), some (.istore_n 2, 170, [], 0), some (.iinc 3 1, 173, [], 0), none, none, some (.goto (-135), 176, [38], 0), none, none],
  [some (.iload_n 2, 177, [], 0), some (.ireturn, 178, [0], 0)]]
def ob_c_X8_type : List (List (Option ob_Ent)) := [[some (.iload_n 1, 1, [], 0), some (.i2l, 2, [], 0), some (.lconst 0, 3, [], 0), some (.ldc2_w 310, 6, [127], 127), none, none, some (.invokestatic 74, 9, [9, 134, 3, 1, 8, 6, 0], 0), none, none, some (.ifCond .ne 10, 12, [19], 0), none, none, some (.aload_n 0, 13, [], 0), some (.bipush (-2), 15, [], 0), none, some (.invokevirtual 106, 18, [9, 135, 2, 1, 8, 2, 0], 0)],
  [none, none, some (.ireturn, 19, [0], 0), some (.aload_n 0, 20, [], 0), some (.getfield 312, 23, [8, 22, 0, 0], 22), none, none, some (.bipush 120, 25, [], 0), none, some (.if_icmp .ne 10, 28, [35], 0), none, none, some (.aload_n 0, 29, [], 0), some (.bipush (-4), 31, [], 0), none, some (.invokevirtual 106, 34, [9, 135, 2, 1, 8, 2, 0], 0)],
  [none, none, some (.ireturn, 35, [0], 0), some (.aload_n 0, 36, [], 0), some (.getfield 56, 39, [8, 21, 56, 3], 21), none, none, some (.aload_n 0, 40, [], 0), some (.getfield 312, 43, [8, 22, 0, 0], 22), none, none, some (.iload_n 1, 44, [], 0), some (.iastore, 45, [], 0), some (.aload_n 0, 46, [], 0), some (.dup, 47, [], 0), some (.getfield 312, 50, [8, 22, 0, 0], 22)],
  [none, none, some (.iconst 1, 51, [], 0), some (.iadd, 52, [], 0), some (.putfield 312, 55, [8, 22, 0, 0, 0], 22), none, none, some (.aload_n 0, 56, [], 0), some (.getfield 312, 59, [8, 22, 0, 0], 22), none, none, some (.ireturn, 60, [0], 0)]]
def ob_c_X8_clear : List (List (Option ob_Ent)) := [[some (.aload_n 0, 1, [], 0), some (.getfield 312, 4, [8, 22, 0, 0], 22), none, none, some (.istore_n 1, 5, [], 0), some (.aload_n 0, 6, [], 0), some (.iconst 0, 7, [], 0), some (.putfield 312, 10, [8, 22, 0, 0, 0], 22), none, none, some (.iload_n 1, 11, [], 0), some (.ireturn, 12, [0], 0)]]
def ob_c_X8_here : List (List (Option ob_Ent)) := [[some (.aload_n 0, 1, [], 0), some (.getfield 315, 4, [8, 23, 0, 0], 23), none, none, some (.aload_n 0, 5, [], 0), some (.getfield 312, 8, [8, 22, 0, 0], 22), none, none, some (.if_icmp .ge 30, 11, [38], 0), none, none, some (.aload_n 0, 12, [], 0), some (.getfield 56, 15, [8, 21, 56, 3], 21), none, none, some (.aload_n 0, 16, [], 0)],
  [some (.getfield 315, 19, [8, 23, 0, 0], 23), none, none, some (.iaload, 20, [], 0), some (.bipush 32, 22, [], 0), none, some (.if_icmp .ne 16, 25, [38], 0), none, none, some (.aload_n 0, 26, [], 0), some (.dup, 27, [], 0), some (.getfield 315, 30, [8, 23, 0, 0], 23), none, none, some (.iconst 1, 31, [], 0), some (.iadd, 32, [], 0)],
  [some (.putfield 315, 35, [8, 23, 0, 0, 0], 23), none, none, some (.goto (-35), 38, [0], 0), none, none, some (.aload_n 0, 39, [], 0), some (.getfield 315, 42, [8, 23, 0, 0], 23), none, none, some (.aload_n 0, 43, [], 0), some (.getfield 312, 46, [8, 22, 0, 0], 22), none, none, some (.if_icmp .ge 15, 49, [61], 0), none],
  [none, some (.aload_n 0, 50, [], 0), some (.getfield 56, 53, [8, 21, 56, 3], 21), none, none, some (.aload_n 0, 54, [], 0), some (.getfield 315, 57, [8, 23, 0, 0], 23), none, none, some (.iaload, 58, [], 0), some (.goto 4, 61, [62], 0), none, none, some (.iconst (-1), 62, [], 0), some (.ireturn, 63, [0], 0)]]
def ob_c_X8_isFigure : List (List (Option ob_Ent)) := [[some (.iload_n 1, 1, [], 0), some (.aload_n 0, 2, [], 0), some (.getfield 312, 5, [8, 22, 0, 0], 22), none, none, some (.if_icmp .ge 26, 8, [31], 0), none, none, some (.aload_n 0, 9, [], 0), some (.getfield 56, 12, [8, 21, 56, 3], 21), none, none, some (.iload_n 1, 13, [], 0), some (.iaload, 14, [], 0), some (.i2l, 15, [], 0), some (.ldc2_w 318, 18, [48], 48)],
  [none, none, some (.ldc2_w 320, 21, [57], 57), none, none, some (.invokestatic 74, 24, [9, 134, 3, 1, 8, 6, 0], 0), none, none, some (.ifCond .eq 7, 27, [31], 0), none, none, some (.iconst 1, 28, [], 0), some (.goto 4, 31, [32], 0), none, none, some (.iconst 0, 32, [], 0)],
  [some (.ireturn, 33, [1], 0)]]
def ob_c_X8_takes : List (List (Option ob_Ent)) := [[some (.iconst 0, 1, [], 0), some (.istore_n 2, 2, [], 0), some (.iload_n 2, 3, [], 0), some (.iload_n 1, 4, [], 0), some (.if_icmp .ge 110, 7, [114], 0), none, none, some (.aload_n 0, 8, [], 0), some (.invokevirtual 322, 11, [9, 226, 1, 1, 8, 1, 0], 0), none, none, some (.istore_n 3, 12, [], 0), some (.aload_n 0, 13, [], 0), some (.getfield 315, 16, [8, 23, 0, 0], 23), none, none],
  [some (.istore 4, 18, [], 0), none, some (.aload_n 0, 19, [], 0), some (.getfield 59, 22, [8, 24, 57, 3], 24), none, none, some (.iload_n 2, 23, [], 0), some (.iconst 0, 24, [], 0), some (.iastore, 25, [], 0), some (.aload_n 0, 26, [], 0), some (.iload 4, 28, [], 0), none, some (.invokevirtual 325, 31, [9, 227, 2, 1, 8, 2, 0], 0), none, none, some (.ifCond .eq 46, 34, [77], 0)],
  [none, none, some (.iload 4, 36, [], 0), none, some (.aload_n 0, 37, [], 0), some (.getfield 315, 40, [8, 23, 0, 0], 23), none, none, some (.isub, 41, [], 0), some (.iconst 3, 42, [], 0), some (.if_icmp .ge 35, 45, [77], 0), none, none, some (.aload_n 0, 46, [], 0), some (.getfield 59, 49, [8, 24, 57, 3], 24), none],
  [none, some (.iload_n 2, 50, [], 0), some (.bipush 10, 52, [], 0), none, some (.aload_n 0, 53, [], 0), some (.getfield 59, 56, [8, 24, 57, 3], 24), none, none, some (.iload_n 2, 57, [], 0), some (.iaload, 58, [], 0), some (.imul, 59, [], 0), some (.aload_n 0, 60, [], 0), some (.getfield 56, 63, [8, 21, 56, 3], 21), none, none, some (.iload 4, 65, [], 0)],
  [none, some (.iaload, 66, [], 0), some (.iadd, 67, [], 0), some (.bipush 48, 69, [], 0), none, some (.isub, 70, [], 0), some (.iastore, 71, [], 0), some (.iinc 4 1, 74, [], 0), none, none, some (.goto (-49), 77, [25], 0), none, none, some (.iload_n 3, 78, [], 0), some (.iconst (-1), 79, [], 0), some (.if_icmp .eq 21, 82, [100], 0)],
  [none, none, some (.iload 4, 84, [], 0), none, some (.aload_n 0, 85, [], 0), some (.getfield 315, 88, [8, 23, 0, 0], 23), none, none, some (.isub, 89, [], 0), some (.i2l, 90, [], 0), some (.lconst 1, 91, [], 0), some (.ldc2_w 102, 94, [2], 2), none, none, some (.invokestatic 74, 97, [9, 134, 3, 1, 8, 6, 0], 0), none],
  [none, some (.ifCond .ne 5, 100, [102], 0), none, none, some (.iconst 0, 101, [], 0), some (.ireturn, 102, [1], 0), some (.aload_n 0, 103, [], 0), some (.iload 4, 105, [], 0), none, some (.putfield 315, 108, [8, 23, 0, 0, 0], 23), none, none, some (.iinc 2 1, 111, [], 0), none, none, some (.goto (-109), 114, [2], 0)],
  [none, none, some (.iconst 1, 115, [], 0), some (.ireturn, 116, [1], 0)]]
def ob_c_X8_does : List (List (Option ob_Ent)) := [[some (.iload_n 1, 1, [], 0), some (.bipush 116, 3, [], 0), none, some (.if_icmp .ne 12, 6, [15], 0), none, none, some (.aload_n 0, 7, [], 0), some (.iload_n 2, 8, [], 0), some (.iload_n 3, 9, [], 0), some (.invokevirtual 134, 12, [9, 161, 3, 1, 8, 3, 0], 0), none, none, some (.goto 66, 15, [78], 0), none, none, some (.iload_n 1, 16, [], 0)],
  [some (.bipush 104, 18, [], 0), none, some (.if_icmp .ne 12, 21, [30], 0), none, none, some (.aload_n 0, 22, [], 0), some (.iload_n 2, 23, [], 0), some (.iload_n 3, 24, [], 0), some (.invokevirtual 154, 27, [9, 169, 3, 1, 8, 3, 0], 0), none, none, some (.goto 51, 30, [78], 0), none, none, some (.iload_n 1, 31, [], 0), some (.bipush 112, 33, [], 0)],
  [none, some (.if_icmp .ne 11, 36, [44], 0), none, none, some (.aload_n 0, 37, [], 0), some (.iload_n 2, 38, [], 0), some (.invokevirtual 219, 41, [9, 184, 2, 1, 8, 2, 0], 0), none, none, some (.goto 37, 44, [78], 0), none, none, some (.iload_n 1, 45, [], 0), some (.bipush 111, 47, [], 0), none, some (.if_icmp .ne 11, 50, [58], 0)],
  [none, none, some (.aload_n 0, 51, [], 0), some (.iload_n 2, 52, [], 0), some (.invokevirtual 229, 55, [9, 188, 2, 1, 8, 2, 0], 0), none, none, some (.goto 23, 58, [78], 0), none, none, some (.iload_n 1, 59, [], 0), some (.bipush 103, 61, [], 0), none, some (.if_icmp .ne 12, 64, [73], 0), none, none],
  [some (.aload_n 0, 65, [], 0), some (.iload_n 2, 66, [], 0), some (.iload_n 3, 67, [], 0), some (.invokevirtual 122, 70, [9, 157, 3, 1, 8, 3, 0], 0), none, none, some (.goto 8, 73, [78], 0), none, none, some (.aload_n 0, 74, [], 0), some (.iload_n 2, 75, [], 0), some (.invokevirtual 125, 78, [9, 159, 2, 1, 8, 2, 0], 0), none, none, some (.istore 4, 80, [], 0), none],
  [some (.iload 4, 82, [], 0), none, some (.ifCond .ge 10, 85, [92], 0), none, none, some (.aload_n 0, 86, [], 0), some (.iload 4, 88, [], 0), none, some (.putfield 328, 91, [8, 25, 0, 0, 0], 25), none, none, some (.return_, 92, [], 0), some (.iload_n 1, 93, [], 0), some (.bipush 116, 95, [], 0), none, some (.if_icmp .ne 12, 98, [107], 0)],
  [none, none, some (.aload_n 0, 99, [], 0), some (.iload_n 2, 100, [], 0), some (.iload_n 3, 101, [], 0), some (.invokevirtual 137, 104, [9, 162, 3, 1, 8, 4, 0], 0), none, none, some (.goto 70, 107, [174], 0), none, none, some (.iload_n 1, 108, [], 0), some (.bipush 104, 110, [], 0), none, some (.if_icmp .ne 12, 113, [122], 0), none],
  [none, some (.aload_n 0, 114, [], 0), some (.iload_n 2, 115, [], 0), some (.iload_n 3, 116, [], 0), some (.invokevirtual 157, 119, [9, 170, 3, 1, 8, 4, 0], 0), none, none, some (.goto 55, 122, [174], 0), none, none, some (.iload_n 1, 123, [], 0), some (.bipush 112, 125, [], 0), none, some (.if_icmp .ne 11, 128, [136], 0), none, none],
  [some (.aload_n 0, 129, [], 0), some (.iload_n 2, 130, [], 0), some (.invokevirtual 226, 133, [9, 185, 2, 1, 8, 4, 0], 0), none, none, some (.goto 41, 136, [174], 0), none, none, some (.iload_n 1, 137, [], 0), some (.bipush 111, 139, [], 0), none, some (.if_icmp .ne 11, 142, [150], 0), none, none, some (.aload_n 0, 143, [], 0), some (.iload_n 2, 144, [], 0)],
  [some (.invokevirtual 232, 147, [9, 189, 2, 1, 8, 4, 0], 0), none, none, some (.goto 27, 150, [174], 0), none, none, some (.iload_n 1, 151, [], 0), some (.bipush 103, 153, [], 0), none, some (.if_icmp .ne 15, 156, [168], 0), none, none, some (.aload_n 0, 157, [], 0), some (.bipush 6, 159, [], 0), none, some (.iload_n 2, 160, [], 0)],
  [some (.iadd, 161, [], 0), some (.iload_n 3, 162, [], 0), some (.invokevirtual 115, 165, [9, 155, 3, 1, 8, 4, 0], 0), none, none, some (.goto 9, 168, [174], 0), none, none, some (.aload_n 0, 169, [], 0), some (.iconst 4, 170, [], 0), some (.iload_n 2, 171, [], 0), some (.invokevirtual 115, 174, [9, 155, 3, 1, 8, 4, 0], 0), none, none, some (.istore 5, 176, [], 0), none],
  [some (.return_, 177, [], 0)]]
def ob_c_X8_readsNotes : List (List (Option ob_Ent)) := [[some (.iconst 1, 1, [], 0), some (.istore_n 3, 2, [], 0), some (.iload_n 3, 3, [], 0), some (.ifCond .eq 115, 6, [118], 0), none, none, some (.aload_n 0, 7, [], 0), some (.dup, 8, [], 0), some (.getfield 315, 11, [8, 23, 0, 0], 23), none, none, some (.iconst 1, 12, [], 0), some (.iadd, 13, [], 0), some (.putfield 315, 16, [8, 23, 0, 0, 0], 23), none, none],
  [some (.aload_n 0, 17, [], 0), some (.iconst 3, 18, [], 0), some (.invokevirtual 331, 21, [9, 228, 2, 1, 8, 5, 0], 0), none, none, some (.ifCond .ne 5, 24, [26], 0), none, none, some (.iconst 0, 25, [], 0), some (.ireturn, 26, [1], 0), some (.iload_n 2, 27, [], 0), some (.ifCond .eq 73, 30, [100], 0), none, none, some (.aload_n 0, 31, [], 0), some (.getfield 328, 34, [8, 25, 0, 0], 25)],
  [none, none, some (.ifCond .ne 66, 37, [100], 0), none, none, some (.aload_n 0, 38, [], 0), some (.aload_n 0, 39, [], 0), some (.iload_n 1, 40, [], 0), some (.aload_n 0, 41, [], 0), some (.getfield 59, 44, [8, 24, 57, 3], 24), none, none, some (.iconst 0, 45, [], 0), some (.iaload, 46, [], 0), some (.aload_n 0, 47, [], 0), some (.getfield 59, 50, [8, 24, 57, 3], 24)],
  [none, none, some (.iconst 1, 51, [], 0), some (.iaload, 52, [], 0), some (.aload_n 0, 53, [], 0), some (.getfield 59, 56, [8, 24, 57, 3], 24), none, none, some (.iconst 2, 57, [], 0), some (.iaload, 58, [], 0), some (.invokevirtual 143, 61, [9, 164, 5, 1, 8, 6, 0], 0), none, none, some (.putfield 328, 64, [8, 25, 0, 0, 0], 25), none, none],
  [some (.aload_n 0, 65, [], 0), some (.getfield 328, 68, [8, 25, 0, 0], 25), none, none, some (.ifCond .ne 29, 71, [97], 0), none, none, some (.aload_n 0, 72, [], 0), some (.iload_n 1, 73, [], 0), some (.aload_n 0, 74, [], 0), some (.getfield 59, 77, [8, 24, 57, 3], 24), none, none, some (.iconst 0, 78, [], 0), some (.iaload, 79, [], 0), some (.aload_n 0, 80, [], 0)],
  [some (.getfield 59, 83, [8, 24, 57, 3], 24), none, none, some (.iconst 1, 84, [], 0), some (.iaload, 85, [], 0), some (.aload_n 0, 86, [], 0), some (.getfield 59, 89, [8, 24, 57, 3], 24), none, none, some (.iconst 2, 90, [], 0), some (.iaload, 91, [], 0), some (.invokevirtual 147, 94, [9, 165, 5, 1, 8, 6, 0], 0), none, none, some (.goto 4, 97, [98], 0), none],
  [none, some (.iconst 0, 98, [], 0), some (.istore 4, 100, [], 0), none, some (.aload_n 0, 101, [], 0), some (.invokevirtual 322, 104, [9, 226, 1, 1, 8, 1, 0], 0), none, none, some (.bipush 44, 106, [], 0), none, some (.if_icmp .ne 7, 109, [113], 0), none, none, some (.iconst 1, 110, [], 0), some (.goto 4, 113, [114], 0), none],
  [none, some (.iconst 0, 114, [], 0), some (.istore_n 3, 115, [], 0), some (.goto (-113), 118, [2], 0), none, none, some (.iconst 1, 119, [], 0), some (.ireturn, 120, [1], 0)]]
def ob_c_X8_readsOrder : List (List (Option ob_Ent)) := [[some (.aload_n 0, 1, [], 0), some (.invokevirtual 322, 4, [9, 226, 1, 1, 8, 1, 0], 0), none, none, some (.istore_n 2, 5, [], 0), some (.iload_n 2, 6, [], 0), some (.bipush 116, 8, [], 0), none, some (.if_icmp .eq 35, 11, [43], 0), none, none, some (.iload_n 2, 12, [], 0), some (.bipush 104, 14, [], 0), none, some (.if_icmp .eq 29, 17, [43], 0), none],
  [none, some (.iload_n 2, 18, [], 0), some (.bipush 112, 20, [], 0), none, some (.if_icmp .eq 23, 23, [43], 0), none, none, some (.iload_n 2, 24, [], 0), some (.bipush 111, 26, [], 0), none, some (.if_icmp .eq 17, 29, [43], 0), none, none, some (.iload_n 2, 30, [], 0), some (.bipush 103, 32, [], 0), none],
  [some (.if_icmp .eq 11, 35, [43], 0), none, none, some (.iload_n 2, 36, [], 0), some (.bipush 101, 38, [], 0), none, some (.if_icmp .eq 5, 41, [43], 0), none, none, some (.iconst 0, 42, [], 0), some (.ireturn, 43, [1], 0), some (.aload_n 0, 44, [], 0), some (.dup, 45, [], 0), some (.getfield 315, 48, [8, 23, 0, 0], 23), none, none],
  [some (.iconst 1, 49, [], 0), some (.iadd, 50, [], 0), some (.putfield 315, 53, [8, 23, 0, 0, 0], 23), none, none, some (.aload_n 0, 54, [], 0), some (.iload_n 2, 55, [], 0), some (.bipush 116, 57, [], 0), none, some (.if_icmp .eq 15, 60, [72], 0), none, none, some (.iload_n 2, 61, [], 0), some (.bipush 104, 63, [], 0), none, some (.if_icmp .eq 9, 66, [72], 0)],
  [none, none, some (.iload_n 2, 67, [], 0), some (.bipush 103, 69, [], 0), none, some (.if_icmp .ne 7, 72, [76], 0), none, none, some (.iconst 2, 73, [], 0), some (.goto 4, 76, [77], 0), none, none, some (.iconst 1, 77, [], 0), some (.invokevirtual 331, 80, [9, 228, 2, 1, 8, 5, 0], 0), none, none],
  [some (.ifCond .ne 5, 83, [85], 0), none, none, some (.iconst 0, 84, [], 0), some (.ireturn, 85, [1], 0), some (.aload_n 0, 86, [], 0), some (.getfield 59, 89, [8, 24, 57, 3], 24), none, none, some (.iconst 0, 90, [], 0), some (.iaload, 91, [], 0), some (.istore_n 3, 92, [], 0), some (.iload_n 1, 93, [], 0), some (.ifCond .eq 25, 96, [118], 0), none, none],
  [some (.aload_n 0, 97, [], 0), some (.iconst 0, 98, [], 0), some (.putfield 179, 101, [8, 6, 0, 0, 0], 6), none, none, some (.aload_n 0, 102, [], 0), some (.iload_n 2, 103, [], 0), some (.aload_n 0, 104, [], 0), some (.getfield 59, 107, [8, 24, 57, 3], 24), none, none, some (.iconst 0, 108, [], 0), some (.iaload, 109, [], 0), some (.aload_n 0, 110, [], 0), some (.getfield 59, 113, [8, 24, 57, 3], 24), none],
  [none, some (.iconst 1, 114, [], 0), some (.iaload, 115, [], 0), some (.invokevirtual 334, 118, [9, 229, 4, 0, 8, 6, 0], 0), none, none, some (.iload_n 2, 119, [], 0), some (.bipush 116, 121, [], 0), none, some (.if_icmp .ne 23, 124, [144], 0), none, none, some (.aload_n 0, 125, [], 0), some (.invokevirtual 322, 128, [9, 226, 1, 1, 8, 1, 0], 0), none, none],
  [some (.bipush 58, 130, [], 0), none, some (.if_icmp .ne 14, 133, [144], 0), none, none, some (.aload_n 0, 134, [], 0), some (.iload_n 3, 135, [], 0), some (.iload_n 1, 136, [], 0), some (.invokevirtual 337, 139, [9, 230, 3, 1, 8, 5, 0], 0), none, none, some (.ifCond .ne 5, 142, [144], 0), none, none, some (.iconst 0, 143, [], 0), some (.ireturn, 144, [1], 0)],
  [some (.aload_n 0, 145, [], 0), some (.invokevirtual 322, 148, [9, 226, 1, 1, 8, 1, 0], 0), none, none, some (.bipush 59, 150, [], 0), none, some (.if_icmp .eq 5, 153, [155], 0), none, none, some (.iconst 0, 154, [], 0), some (.ireturn, 155, [1], 0), some (.aload_n 0, 156, [], 0), some (.dup, 157, [], 0), some (.getfield 315, 160, [8, 23, 0, 0], 23), none, none],
  [some (.iconst 1, 161, [], 0), some (.iadd, 162, [], 0), some (.putfield 315, 165, [8, 23, 0, 0, 0], 23), none, none, some (.iconst 1, 166, [], 0), some (.ireturn, 167, [1], 0)]]
def ob_c_X8_reads : List (List (Option ob_Ent)) := [[some (.aload_n 0, 1, [], 0), some (.iconst 0, 2, [], 0), some (.putfield 315, 5, [8, 23, 0, 0, 0], 23), none, none, some (.aload_n 0, 6, [], 0), some (.iconst 0, 7, [], 0), some (.invokevirtual 341, 10, [9, 231, 2, 1, 8, 4, 0], 0), none, none, some (.istore_n 1, 11, [], 0), some (.iload_n 1, 12, [], 0), some (.ifCond .eq 20, 15, [32], 0), none, none, some (.aload_n 0, 16, [], 0)],
  [some (.invokevirtual 322, 19, [9, 226, 1, 1, 8, 1, 0], 0), none, none, some (.iconst (-1), 20, [], 0), some (.if_icmp .eq 12, 23, [32], 0), none, none, some (.aload_n 0, 24, [], 0), some (.iconst 0, 25, [], 0), some (.invokevirtual 341, 28, [9, 231, 2, 1, 8, 4, 0], 0), none, none, some (.istore_n 1, 29, [], 0), some (.goto (-18), 32, [11], 0), none, none],
  [some (.iload_n 1, 33, [], 0), some (.ifCond .ne 11, 36, [44], 0), none, none, some (.bipush (-10), 38, [], 0), none, some (.aload_n 0, 39, [], 0), some (.getfield 315, 42, [8, 23, 0, 0], 23), none, none, some (.isub, 43, [], 0), some (.ireturn, 44, [0], 0), some (.iconst 0, 45, [], 0), some (.istore_n 2, 46, [], 0), some (.iload_n 2, 47, [], 0), some (.sipush 360, 50, [], 0)],
  [none, none, some (.if_icmp .ge 21, 53, [71], 0), none, none, some (.aload_n 0, 54, [], 0), some (.getfield 16, 57, [8, 2, 43, 3], 2), none, none, some (.iload_n 2, 58, [], 0), some (.aload_n 0, 59, [], 0), some (.getfield 7, 62, [8, 0, 41, 3], 0), none, none, some (.iload_n 2, 63, [], 0), some (.iaload, 64, [], 0)],
  [some (.iastore, 65, [], 0), some (.iinc 2 1, 68, [], 0), none, none, some (.goto (-22), 71, [46], 0), none, none, some (.iconst 0, 72, [], 0), some (.istore_n 2, 73, [], 0), some (.aload_n 0, 74, [], 0), some (.iconst 0, 75, [], 0), some (.putfield 315, 78, [8, 23, 0, 0, 0], 23), none, none, some (.aload_n 0, 79, [], 0), some (.iconst 0, 80, [], 0)],
  [some (.putfield 328, 83, [8, 25, 0, 0, 0], 25), none, none, some (.aload_n 0, 84, [], 0), some (.invokevirtual 322, 87, [9, 226, 1, 1, 8, 1, 0], 0), none, none, some (.iconst (-1), 88, [], 0), some (.if_icmp .eq 103, 91, [191], 0), none, none, some (.aload_n 0, 92, [], 0), some (.iconst 1, 93, [], 0), some (.invokevirtual 341, 96, [9, 231, 2, 1, 8, 4, 0], 0), none, none],
  [some (.istore_n 1, 97, [], 0), some (.aload_n 0, 98, [], 0), some (.getfield 328, 101, [8, 25, 0, 0], 25), none, none, some (.ifCond .ge 84, 104, [185], 0), none, none, some (.iconst 0, 105, [], 0), some (.istore_n 3, 106, [], 0), some (.iload_n 3, 107, [], 0), some (.sipush 360, 110, [], 0), none, none, some (.if_icmp .ge 21, 113, [131], 0), none],
  [none, some (.aload_n 0, 114, [], 0), some (.getfield 7, 117, [8, 0, 41, 3], 0), none, none, some (.iload_n 3, 118, [], 0), some (.aload_n 0, 119, [], 0), some (.getfield 16, 122, [8, 2, 43, 3], 2), none, none, some (.iload_n 3, 123, [], 0), some (.iaload, 124, [], 0), some (.iastore, 125, [], 0), some (.iinc 3 1, 128, [], 0), none, none],
  [some (.goto (-22), 131, [106], 0), none, none, some (.aload_n 0, 132, [], 0), some (.aload_n 0, 133, [], 0), some (.getfield 328, 136, [8, 25, 0, 0], 25), none, none, some (.bipush (-2), 138, [], 0), none, some (.if_icmp .ne 7, 141, [145], 0), none, none, some (.iconst 5, 142, [], 0), some (.goto 33, 145, [175], 0), none],
  [none, some (.aload_n 0, 146, [], 0), some (.getfield 328, 149, [8, 25, 0, 0], 25), none, none, some (.bipush (-4), 151, [], 0), none, some (.if_icmp .ne 8, 154, [159], 0), none, none, some (.bipush 7, 156, [], 0), none, some (.goto 19, 159, [175], 0), none, none, some (.aload_n 0, 160, [], 0)],
  [some (.getfield 179, 163, [8, 6, 0, 0], 6), none, none, some (.ifCond .le 10, 166, [173], 0), none, none, some (.aload_n 0, 167, [], 0), some (.getfield 179, 170, [8, 6, 0, 0], 6), none, none, some (.goto 5, 173, [175], 0), none, none, some (.bipush 6, 175, [], 0), none, some (.iload_n 2, 176, [], 0)],
  [some (.invokevirtual 222, 179, [9, 186, 3, 0, 8, 3, 0], 0), none, none, some (.sipush (-1000), 182, [], 0), none, none, some (.iload_n 2, 183, [], 0), some (.isub, 184, [], 0), some (.ireturn, 185, [0], 0), some (.iinc 2 1, 188, [], 0), none, none, some (.goto (-105), 191, [83], 0), none, none, some (.aload_n 0, 192, [], 0)],
  [some (.invokevirtual 345, 195, [9, 233, 1, 0, 8, 3, 0], 0), none, none, some (.iload_n 2, 196, [], 0), some (.ireturn, 197, [0], 0)]]
def ob_c_X8_keepsAside : List (List (Option ob_Ent)) := [[some (.iconst 0, 1, [], 0), some (.istore_n 1, 2, [], 0), some (.iload_n 1, 3, [], 0), some (.sipush 360, 6, [], 0), none, none, some (.if_icmp .ge 35, 9, [41], 0), none, none, some (.aload_n 0, 10, [], 0), some (.getfield 7, 13, [8, 0, 41, 3], 0), none, none, some (.iload_n 1, 14, [], 0), some (.iaload, 15, [], 0), some (.istore_n 2, 16, [], 0)],
  [some (.aload_n 0, 17, [], 0), some (.getfield 7, 20, [8, 0, 41, 3], 0), none, none, some (.iload_n 1, 21, [], 0), some (.aload_n 0, 22, [], 0), some (.getfield 16, 25, [8, 2, 43, 3], 2), none, none, some (.iload_n 1, 26, [], 0), some (.iaload, 27, [], 0), some (.iastore, 28, [], 0), some (.aload_n 0, 29, [], 0), some (.getfield 16, 32, [8, 2, 43, 3], 2), none, none],
  [some (.iload_n 1, 33, [], 0), some (.iload_n 2, 34, [], 0), some (.iastore, 35, [], 0), some (.iinc 1 1, 38, [], 0), none, none, some (.goto (-36), 41, [2], 0), none, none, some (.aload_n 0, 42, [], 0), some (.invokevirtual 110, 45, [9, 136, 1, 0, 8, 2, 0], 0), none, none, some (.iconst 0, 46, [], 0), some (.istore_n 1, 47, [], 0), some (.iload_n 1, 48, [], 0)],
  [some (.sipush 360, 51, [], 0), none, none, some (.if_icmp .ge 21, 54, [72], 0), none, none, some (.aload_n 0, 55, [], 0), some (.getfield 7, 58, [8, 0, 41, 3], 0), none, none, some (.iload_n 1, 59, [], 0), some (.aload_n 0, 60, [], 0), some (.getfield 16, 63, [8, 2, 43, 3], 2), none, none, some (.iload_n 1, 64, [], 0)],
  [some (.iaload, 65, [], 0), some (.iastore, 66, [], 0), some (.iinc 1 1, 69, [], 0), none, none, some (.goto (-22), 72, [47], 0), none, none, some (.return_, 73, [], 0)]]
def ob_c_X8_back : List (List (Option ob_Ent)) := [[some (.aload_n 0, 1, [], 0), some (.getfield 66, 4, [8, 3, 0, 0], 3), none, none, some (.ifCond .ne 10, 7, [14], 0), none, none, some (.aload_n 0, 8, [], 0), some (.bipush (-3), 10, [], 0), none, some (.invokevirtual 106, 13, [9, 135, 2, 1, 8, 2, 0], 0), none, none, some (.ireturn, 14, [0], 0), some (.aload_n 0, 15, [], 0), some (.dup, 16, [], 0)],
  [some (.getfield 66, 19, [8, 3, 0, 0], 3), none, none, some (.iconst 1, 20, [], 0), some (.isub, 21, [], 0), some (.putfield 66, 24, [8, 3, 0, 0, 0], 3), none, none, some (.iconst 0, 25, [], 0), some (.istore_n 1, 26, [], 0), some (.iload_n 1, 27, [], 0), some (.sipush 360, 30, [], 0), none, none, some (.if_icmp .ge 30, 33, [60], 0), none],
  [none, some (.aload_n 0, 34, [], 0), some (.getfield 7, 37, [8, 0, 41, 3], 0), none, none, some (.iload_n 1, 38, [], 0), some (.aload_n 0, 39, [], 0), some (.getfield 13, 42, [8, 1, 42, 3], 1), none, none, some (.sipush 360, 45, [], 0), none, none, some (.aload_n 0, 46, [], 0), some (.getfield 66, 49, [8, 3, 0, 0], 3), none],
  [none, some (.imul, 50, [], 0), some (.iload_n 1, 51, [], 0), some (.iadd, 52, [], 0), some (.iaload, 53, [], 0), some (.iastore, 54, [], 0), some (.iinc 1 1, 57, [], 0), none, none, some (.goto (-31), 60, [26], 0), none, none, some (.aload_n 0, 61, [], 0), some (.getfield 66, 64, [8, 3, 0, 0], 3), none, none],
  [some (.ireturn, 65, [0], 0)]]
def ob_c_X8_toldOf : List (List (Option ob_Ent)) := [[some (.iload_n 1, 1, [], 0), some (.iconst 3, 2, [], 0), some (.if_icmp .ge 12, 5, [14], 0), none, none, some (.aload_n 0, 6, [], 0), some (.getfield 19, 9, [8, 4, 44, 3], 4), none, none, some (.iload_n 1, 10, [], 0), some (.iaload, 11, [], 0), some (.goto 36, 14, [47], 0), none, none, some (.iload_n 1, 15, [], 0), some (.iconst 3, 16, [], 0)],
  [some (.if_icmp .ne 10, 19, [26], 0), none, none, some (.aload_n 0, 20, [], 0), some (.getfield 312, 23, [8, 22, 0, 0], 22), none, none, some (.goto 24, 26, [47], 0), none, none, some (.iload_n 1, 27, [], 0), some (.bipush 10, 29, [], 0), none, some (.if_icmp .ge 14, 32, [43], 0), none, none],
  [some (.aload_n 0, 33, [], 0), some (.getfield 7, 36, [8, 0, 41, 3], 0), none, none, some (.iload_n 1, 37, [], 0), some (.iconst 4, 38, [], 0), some (.isub, 39, [], 0), some (.iaload, 40, [], 0), some (.goto 7, 43, [47], 0), none, none, some (.aload_n 0, 44, [], 0), some (.getfield 66, 47, [8, 3, 0, 0], 3), none, none, some (.ireturn, 48, [0], 0)]]
def ob_c_X8_told : List (List (Option ob_Ent)) := [[some (.iload_n 1, 1, [], 0), some (.i2l, 2, [], 0), some (.lconst 0, 3, [], 0), some (.ldc2_w 348, 6, [10], 10), none, none, some (.invokestatic 74, 9, [9, 134, 3, 1, 8, 6, 0], 0), none, none, some (.ifCond .eq 11, 12, [20], 0), none, none, some (.aload_n 0, 13, [], 0), some (.iload_n 1, 14, [], 0), some (.invokevirtual 350, 17, [9, 235, 2, 1, 8, 2, 0], 0), none],
  [none, some (.goto 9, 20, [26], 0), none, none, some (.aload_n 0, 21, [], 0), some (.bipush (-2), 23, [], 0), none, some (.invokevirtual 106, 26, [9, 135, 2, 1, 8, 2, 0], 0), none, none, some (.ireturn, 27, [0], 0)]]
def ob_c_X8_digest : List (List (Option ob_Ent)) := [[some (.ldc2_w 353, 3, [2243], 2243), none, none, some (.lstore_n 1, 4, [], 0), some (.iconst 0, 5, [], 0), some (.istore_n 3, 6, [], 0), some (.iload_n 3, 7, [], 0), some (.bipush 11, 9, [], 0), none, some (.if_icmp .ge 22, 12, [31], 0), none, none, some (.ldc2_w 355, 15, [31], 31), none, none, some (.lload_n 1, 16, [], 0)],
  [some (.lmul, 17, [], 0), some (.aload_n 0, 18, [], 0), some (.iload_n 3, 19, [], 0), some (.invokevirtual 350, 22, [9, 235, 2, 1, 8, 2, 0], 0), none, none, some (.i2l, 23, [], 0), some (.ladd, 24, [], 0), some (.lstore_n 1, 25, [], 0), some (.iinc 3 1, 28, [], 0), none, none, some (.goto (-22), 31, [6], 0), none, none, some (.iconst 0, 32, [], 0)],
  [some (.istore_n 3, 33, [], 0), some (.iload_n 3, 34, [], 0), some (.iconst 4, 35, [], 0), some (.if_icmp .ge 23, 38, [58], 0), none, none, some (.ldc2_w 355, 41, [31], 31), none, none, some (.lload_n 1, 42, [], 0), some (.lmul, 43, [], 0), some (.aload_n 0, 44, [], 0), some (.getfield 22, 47, [8, 5, 45, 3], 5), none, none, some (.iload_n 3, 48, [], 0)],
  [some (.iaload, 49, [], 0), some (.i2l, 50, [], 0), some (.ladd, 51, [], 0), some (.lstore_n 1, 52, [], 0), some (.iinc 3 1, 55, [], 0), none, none, some (.goto (-22), 58, [33], 0), none, none, some (.iconst 0, 59, [], 0), some (.istore_n 3, 60, [], 0), some (.iload_n 3, 61, [], 0), some (.aload_n 0, 62, [], 0), some (.getfield 7, 65, [8, 0, 41, 3], 0), none],
  [none, some (.iconst 1, 66, [], 0), some (.iaload, 67, [], 0), some (.if_icmp .ge 26, 70, [93], 0), none, none, some (.ldc2_w 355, 73, [31], 31), none, none, some (.lload_n 1, 74, [], 0), some (.lmul, 75, [], 0), some (.aload_n 0, 76, [], 0), some (.getfield 7, 79, [8, 0, 41, 3], 0), none, none, some (.bipush 6, 81, [], 0)],
  [none, some (.iload_n 3, 82, [], 0), some (.iadd, 83, [], 0), some (.iaload, 84, [], 0), some (.i2l, 85, [], 0), some (.ladd, 86, [], 0), some (.lstore_n 1, 87, [], 0), some (.iinc 3 1, 90, [], 0), none, none, some (.goto (-30), 93, [60], 0), none, none, some (.iconst 0, 94, [], 0), some (.istore_n 3, 95, [], 0), some (.iload_n 3, 96, [], 0)],
  [some (.aload_n 0, 97, [], 0), some (.invokevirtual 70, 100, [9, 139, 1, 1, 8, 1, 0], 0), none, none, some (.if_icmp .ge 83, 103, [183], 0), none, none, some (.iconst 0, 104, [], 0), some (.istore 4, 106, [], 0), none, some (.iload 4, 108, [], 0), none, some (.bipush 8, 110, [], 0), none, some (.if_icmp .ge 24, 113, [134], 0), none],
  [none, some (.ldc2_w 355, 116, [31], 31), none, none, some (.lload_n 1, 117, [], 0), some (.lmul, 118, [], 0), some (.aload_n 0, 119, [], 0), some (.iload_n 3, 120, [], 0), some (.iload 4, 122, [], 0), none, some (.invokevirtual 165, 125, [9, 172, 3, 1, 8, 3, 0], 0), none, none, some (.i2l, 126, [], 0), some (.ladd, 127, [], 0), some (.lstore_n 1, 128, [], 0)],
  [some (.iinc 4 1, 131, [], 0), none, none, some (.goto (-25), 134, [106], 0), none, none, some (.iconst 0, 135, [], 0), some (.istore 4, 137, [], 0), none, some (.iload 4, 139, [], 0), none, some (.iconst 5, 140, [], 0), some (.aload_n 0, 141, [], 0), some (.iload_n 3, 142, [], 0), some (.iconst 2, 143, [], 0), some (.invokevirtual 78, 146, [9, 142, 3, 1, 8, 3, 0], 0)],
  [none, none, some (.imul, 147, [], 0), some (.if_icmp .ge 30, 150, [177], 0), none, none, some (.ldc2_w 355, 153, [31], 31), none, none, some (.lload_n 1, 154, [], 0), some (.lmul, 155, [], 0), some (.aload_n 0, 156, [], 0), some (.iload_n 3, 157, [], 0), some (.iload 4, 159, [], 0), none, some (.iconst 5, 160, [], 0)],
  [some (.idiv, 161, [], 0), some (.iload 4, 163, [], 0), none, some (.iconst 5, 164, [], 0), some (.irem, 165, [], 0), some (.invokevirtual 176, 168, [9, 174, 4, 1, 8, 4, 0], 0), none, none, some (.i2l, 169, [], 0), some (.ladd, 170, [], 0), some (.lstore_n 1, 171, [], 0), some (.iinc 4 1, 174, [], 0), none, none, some (.goto (-37), 177, [137], 0), none],
  [none, some (.iinc 3 1, 180, [], 0), none, none, some (.goto (-85), 183, [95], 0), none, none, some (.iconst 0, 184, [], 0), some (.istore_n 3, 185, [], 0), some (.iload_n 3, 186, [], 0), some (.bipush 7, 188, [], 0), none, some (.if_icmp .ge 22, 191, [210], 0), none, none, some (.ldc2_w 355, 194, [31], 31)],
  [none, none, some (.lload_n 1, 195, [], 0), some (.lmul, 196, [], 0), some (.aload_n 0, 197, [], 0), some (.iload_n 3, 198, [], 0), some (.invokevirtual 293, 201, [9, 212, 2, 1, 8, 5, 0], 0), none, none, some (.i2l, 202, [], 0), some (.ladd, 203, [], 0), some (.lstore_n 1, 204, [], 0), some (.iinc 3 1, 207, [], 0), none, none, some (.goto (-22), 210, [185], 0)],
  [none, none, some (.iconst 0, 211, [], 0), some (.istore_n 3, 212, [], 0), some (.iload_n 3, 213, [], 0), some (.aload_n 0, 214, [], 0), some (.getfield 261, 217, [8, 20, 0, 0], 20), none, none, some (.if_icmp .ge 40, 220, [257], 0), none, none, some (.iconst 0, 221, [], 0), some (.istore 4, 223, [], 0), none, some (.iload 4, 225, [], 0)],
  [none, some (.bipush 6, 227, [], 0), none, some (.if_icmp .ge 24, 230, [251], 0), none, none, some (.ldc2_w 355, 233, [31], 31), none, none, some (.lload_n 1, 234, [], 0), some (.lmul, 235, [], 0), some (.aload_n 0, 236, [], 0), some (.iload_n 3, 237, [], 0), some (.iload 4, 239, [], 0), none, some (.invokevirtual 299, 242, [9, 214, 3, 1, 8, 3, 0], 0)],
  [none, none, some (.i2l, 243, [], 0), some (.ladd, 244, [], 0), some (.lstore_n 1, 245, [], 0), some (.iinc 4 1, 248, [], 0), none, none, some (.goto (-25), 251, [223], 0), none, none, some (.iinc 3 1, 254, [], 0), none, none, some (.goto (-42), 257, [212], 0), none],
  [none, some (.lload_n 1, 258, [], 0), some (.lreturn, 259, [], 0)]]
def ob_c_L_law : List (List (Option ob_Ent)) := [[some (.new 7, 3, [7], 0), none, none, some (.dup, 4, [], 0), some (.invokespecial 9, 7, [9, 82, 1, 0, 7, 2, 0], 0), none, none, some (.astore_n 1, 8, [], 0), some (.new 10, 11, [8], 0), none, none, some (.dup, 12, [], 0), some (.invokespecial 12, 15, [9, 133, 1, 0, 8, 1, 0], 0), none, none, some (.astore_n 2, 16, [], 0)],
  [some (.iconst 0, 17, [], 0), some (.istore_n 3, 18, [1], 0), some (.iload_n 3, 19, [], 0), some (.aload_n 0, 20, [], 0), some (.arraylength, 21, [], 0), some (.iconst 5, 22, [], 0), some (.isub, 23, [], 0), some (.if_icmp .gt 982, 26, [1005], 0), none, none, some (.aload_n 0, 27, [], 0), some (.iload_n 3, 28, [], 0), some (.iaload, 29, [], 0), some (.bipush 31, 31, [], 0), none, some (.iand, 32, [], 0)],
  [some (.tableswitch 967 0 29 #[136, 179, 212, 245, 268, 301, 354, 387, 420, 453, 496, 519, 542, 565, 578, 621, 644, 667, 700, 723, 756, 779, 812, 845, 868, 891, 904, 917, 930, 953], 168, [999, 168, 211, 244, 277, 300, 333, 386, 419, 452, 485, 528, 551, 574, 597, 610, 653, 676, 699, 732, 755, 788, 811, 844, 877, 900, 923, 936, 949, 962, 985], 0), none, none, none, none, none, none, none, none, none, none, none, none, none, none, none],
  [none, none, none, none, none, none, none, none, none, none, none, none, none, none, none, none],
  [none, none, none, none, none, none, none, none, none, none, none, none, none, none, none, none],
  [none, none, none, none, none, none, none, none, none, none, none, none, none, none, none, none],
  [none, none, none, none, none, none, none, none, none, none, none, none, none, none, none, none],
  [none, none, none, none, none, none, none, none, none, none, none, none, none, none, none, none],
  [none, none, none, none, none, none, none, none, none, none, none, none, none, none, none, none],
  [none, none, none, none, none, none, none, none, none, none, none, none, none, none, none, none],
  [none, none, none, none, none, none, none, none, some (.aload_n 1, 169, [], 0), some (.aload_n 0, 170, [], 0), some (.iload_n 3, 171, [], 0), some (.iconst 1, 172, [], 0), some (.iadd, 173, [], 0), some (.iaload, 174, [], 0), some (.aload_n 0, 175, [], 0), some (.iload_n 3, 176, [], 0)],
  [some (.iconst 2, 177, [], 0), some (.iadd, 178, [], 0), some (.iaload, 179, [], 0), some (.aload_n 0, 180, [], 0), some (.iload_n 3, 181, [], 0), some (.iconst 3, 182, [], 0), some (.iadd, 183, [], 0), some (.iaload, 184, [], 0), some (.invokevirtual 13, 187, [9, 83, 4, 1, 7, 4, 0], 0), none, none, some (.aload_n 2, 188, [], 0), some (.aload_n 0, 189, [], 0), some (.iload_n 3, 190, [], 0), some (.iconst 1, 191, [], 0), some (.iadd, 192, [], 0)],
  [some (.iaload, 193, [], 0), some (.aload_n 0, 194, [], 0), some (.iload_n 3, 195, [], 0), some (.iconst 2, 196, [], 0), some (.iadd, 197, [], 0), some (.iaload, 198, [], 0), some (.aload_n 0, 199, [], 0), some (.iload_n 3, 200, [], 0), some (.iconst 3, 201, [], 0), some (.iadd, 202, [], 0), some (.iaload, 203, [], 0), some (.invokevirtual 17, 206, [9, 154, 4, 1, 8, 5, 0], 0), none, none, some (.if_icmp .eq 793, 209, [999], 0), none],
  [none, some (.iconst 0, 210, [], 0), some (.ireturn, 211, [1], 0), some (.aload_n 1, 212, [], 0), some (.aload_n 0, 213, [], 0), some (.iload_n 3, 214, [], 0), some (.iconst 1, 215, [], 0), some (.iadd, 216, [], 0), some (.iaload, 217, [], 0), some (.aload_n 0, 218, [], 0), some (.iload_n 3, 219, [], 0), some (.iconst 2, 220, [], 0), some (.iadd, 221, [], 0), some (.iaload, 222, [], 0), some (.invokevirtual 18, 225, [9, 84, 3, 1, 7, 3, 0], 0), none],
  [none, some (.aload_n 2, 226, [], 0), some (.aload_n 0, 227, [], 0), some (.iload_n 3, 228, [], 0), some (.iconst 1, 229, [], 0), some (.iadd, 230, [], 0), some (.iaload, 231, [], 0), some (.aload_n 0, 232, [], 0), some (.iload_n 3, 233, [], 0), some (.iconst 2, 234, [], 0), some (.iadd, 235, [], 0), some (.iaload, 236, [], 0), some (.invokevirtual 22, 239, [9, 156, 3, 1, 8, 3, 0], 0), none, none, some (.if_icmp .eq 760, 242, [999], 0)],
  [none, none, some (.iconst 0, 243, [], 0), some (.ireturn, 244, [1], 0), some (.aload_n 1, 245, [], 0), some (.aload_n 0, 246, [], 0), some (.iload_n 3, 247, [], 0), some (.iconst 1, 248, [], 0), some (.iadd, 249, [], 0), some (.iaload, 250, [], 0), some (.aload_n 0, 251, [], 0), some (.iload_n 3, 252, [], 0), some (.iconst 2, 253, [], 0), some (.iadd, 254, [], 0), some (.iaload, 255, [], 0), some (.invokevirtual 23, 258, [9, 85, 3, 1, 7, 3, 0], 0)],
  [none, none, some (.aload_n 2, 259, [], 0), some (.aload_n 0, 260, [], 0), some (.iload_n 3, 261, [], 0), some (.iconst 1, 262, [], 0), some (.iadd, 263, [], 0), some (.iaload, 264, [], 0), some (.aload_n 0, 265, [], 0), some (.iload_n 3, 266, [], 0), some (.iconst 2, 267, [], 0), some (.iadd, 268, [], 0), some (.iaload, 269, [], 0), some (.invokevirtual 26, 272, [9, 158, 3, 1, 8, 3, 0], 0), none, none],
  [some (.if_icmp .eq 727, 275, [999], 0), none, none, some (.iconst 0, 276, [], 0), some (.ireturn, 277, [1], 0), some (.aload_n 1, 278, [], 0), some (.aload_n 0, 279, [], 0), some (.iload_n 3, 280, [], 0), some (.iconst 1, 281, [], 0), some (.iadd, 282, [], 0), some (.iaload, 283, [], 0), some (.invokevirtual 27, 286, [9, 86, 2, 1, 7, 2, 0], 0), none, none, some (.aload_n 2, 287, [], 0), some (.aload_n 0, 288, [], 0)],
  [some (.iload_n 3, 289, [], 0), some (.iconst 1, 290, [], 0), some (.iadd, 291, [], 0), some (.iaload, 292, [], 0), some (.invokevirtual 31, 295, [9, 160, 2, 1, 8, 2, 0], 0), none, none, some (.if_icmp .eq 704, 298, [999], 0), none, none, some (.iconst 0, 299, [], 0), some (.ireturn, 300, [1], 0), some (.aload_n 1, 301, [], 0), some (.aload_n 0, 302, [], 0), some (.iload_n 3, 303, [], 0), some (.iconst 1, 304, [], 0)],
  [some (.iadd, 305, [], 0), some (.iaload, 306, [], 0), some (.aload_n 0, 307, [], 0), some (.iload_n 3, 308, [], 0), some (.iconst 2, 309, [], 0), some (.iadd, 310, [], 0), some (.iaload, 311, [], 0), some (.invokevirtual 32, 314, [9, 87, 3, 1, 7, 3, 0], 0), none, none, some (.aload_n 2, 315, [], 0), some (.aload_n 0, 316, [], 0), some (.iload_n 3, 317, [], 0), some (.iconst 1, 318, [], 0), some (.iadd, 319, [], 0), some (.iaload, 320, [], 0)],
  [some (.aload_n 0, 321, [], 0), some (.iload_n 3, 322, [], 0), some (.iconst 2, 323, [], 0), some (.iadd, 324, [], 0), some (.iaload, 325, [], 0), some (.invokevirtual 35, 328, [9, 163, 3, 1, 8, 3, 0], 0), none, none, some (.if_icmp .eq 671, 331, [999], 0), none, none, some (.iconst 0, 332, [], 0), some (.ireturn, 333, [1], 0), some (.aload_n 1, 334, [], 0), some (.aload_n 0, 335, [], 0), some (.iload_n 3, 336, [], 0)],
  [some (.iconst 1, 337, [], 0), some (.iadd, 338, [], 0), some (.iaload, 339, [], 0), some (.aload_n 0, 340, [], 0), some (.iload_n 3, 341, [], 0), some (.iconst 2, 342, [], 0), some (.iadd, 343, [], 0), some (.iaload, 344, [], 0), some (.aload_n 0, 345, [], 0), some (.iload_n 3, 346, [], 0), some (.iconst 3, 347, [], 0), some (.iadd, 348, [], 0), some (.iaload, 349, [], 0), some (.aload_n 0, 350, [], 0), some (.iload_n 3, 351, [], 0), some (.iconst 4, 352, [], 0)],
  [some (.iadd, 353, [], 0), some (.iaload, 354, [], 0), some (.invokevirtual 36, 357, [9, 88, 5, 1, 7, 5, 0], 0), none, none, some (.aload_n 2, 358, [], 0), some (.aload_n 0, 359, [], 0), some (.iload_n 3, 360, [], 0), some (.iconst 1, 361, [], 0), some (.iadd, 362, [], 0), some (.iaload, 363, [], 0), some (.aload_n 0, 364, [], 0), some (.iload_n 3, 365, [], 0), some (.iconst 2, 366, [], 0), some (.iadd, 367, [], 0), some (.iaload, 368, [], 0)],
  [some (.aload_n 0, 369, [], 0), some (.iload_n 3, 370, [], 0), some (.iconst 3, 371, [], 0), some (.iadd, 372, [], 0), some (.iaload, 373, [], 0), some (.aload_n 0, 374, [], 0), some (.iload_n 3, 375, [], 0), some (.iconst 4, 376, [], 0), some (.iadd, 377, [], 0), some (.iaload, 378, [], 0), some (.invokevirtual 40, 381, [9, 166, 5, 1, 8, 6, 0], 0), none, none, some (.if_icmp .eq 618, 384, [999], 0), none, none],
  [some (.iconst 0, 385, [], 0), some (.ireturn, 386, [1], 0), some (.aload_n 1, 387, [], 0), some (.aload_n 0, 388, [], 0), some (.iload_n 3, 389, [], 0), some (.iconst 1, 390, [], 0), some (.iadd, 391, [], 0), some (.iaload, 392, [], 0), some (.aload_n 0, 393, [], 0), some (.iload_n 3, 394, [], 0), some (.iconst 2, 395, [], 0), some (.iadd, 396, [], 0), some (.iaload, 397, [], 0), some (.invokevirtual 41, 400, [9, 89, 3, 1, 7, 3, 0], 0), none, none],
  [some (.aload_n 2, 401, [], 0), some (.aload_n 0, 402, [], 0), some (.iload_n 3, 403, [], 0), some (.iconst 1, 404, [], 0), some (.iadd, 405, [], 0), some (.iaload, 406, [], 0), some (.aload_n 0, 407, [], 0), some (.iload_n 3, 408, [], 0), some (.iconst 2, 409, [], 0), some (.iadd, 410, [], 0), some (.iaload, 411, [], 0), some (.invokevirtual 44, 414, [9, 168, 3, 1, 8, 4, 0], 0), none, none, some (.if_icmp .eq 585, 417, [999], 0), none],
  [none, some (.iconst 0, 418, [], 0), some (.ireturn, 419, [1], 0), some (.aload_n 1, 420, [], 0), some (.aload_n 0, 421, [], 0), some (.iload_n 3, 422, [], 0), some (.iconst 1, 423, [], 0), some (.iadd, 424, [], 0), some (.iaload, 425, [], 0), some (.aload_n 0, 426, [], 0), some (.iload_n 3, 427, [], 0), some (.iconst 2, 428, [], 0), some (.iadd, 429, [], 0), some (.iaload, 430, [], 0), some (.invokevirtual 45, 433, [9, 90, 3, 1, 7, 3, 0], 0), none],
  [none, some (.aload_n 2, 434, [], 0), some (.aload_n 0, 435, [], 0), some (.iload_n 3, 436, [], 0), some (.iconst 1, 437, [], 0), some (.iadd, 438, [], 0), some (.iaload, 439, [], 0), some (.aload_n 0, 440, [], 0), some (.iload_n 3, 441, [], 0), some (.iconst 2, 442, [], 0), some (.iadd, 443, [], 0), some (.iaload, 444, [], 0), some (.invokevirtual 48, 447, [9, 171, 3, 1, 8, 3, 0], 0), none, none, some (.if_icmp .eq 552, 450, [999], 0)],
  [none, none, some (.iconst 0, 451, [], 0), some (.ireturn, 452, [1], 0), some (.aload_n 1, 453, [], 0), some (.aload_n 0, 454, [], 0), some (.iload_n 3, 455, [], 0), some (.iconst 1, 456, [], 0), some (.iadd, 457, [], 0), some (.iaload, 458, [], 0), some (.aload_n 0, 459, [], 0), some (.iload_n 3, 460, [], 0), some (.iconst 2, 461, [], 0), some (.iadd, 462, [], 0), some (.iaload, 463, [], 0), some (.invokevirtual 49, 466, [9, 91, 3, 1, 7, 3, 0], 0)],
  [none, none, some (.aload_n 2, 467, [], 0), some (.aload_n 0, 468, [], 0), some (.iload_n 3, 469, [], 0), some (.iconst 1, 470, [], 0), some (.iadd, 471, [], 0), some (.iaload, 472, [], 0), some (.aload_n 0, 473, [], 0), some (.iload_n 3, 474, [], 0), some (.iconst 2, 475, [], 0), some (.iadd, 476, [], 0), some (.iaload, 477, [], 0), some (.invokevirtual 52, 480, [9, 173, 3, 1, 8, 3, 0], 0), none, none],
  [some (.if_icmp .eq 519, 483, [999], 0), none, none, some (.iconst 0, 484, [], 0), some (.ireturn, 485, [1], 0), some (.aload_n 1, 486, [], 0), some (.aload_n 0, 487, [], 0), some (.iload_n 3, 488, [], 0), some (.iconst 1, 489, [], 0), some (.iadd, 490, [], 0), some (.iaload, 491, [], 0), some (.aload_n 0, 492, [], 0), some (.iload_n 3, 493, [], 0), some (.iconst 2, 494, [], 0), some (.iadd, 495, [], 0), some (.iaload, 496, [], 0)],
  [some (.aload_n 0, 497, [], 0), some (.iload_n 3, 498, [], 0), some (.iconst 3, 499, [], 0), some (.iadd, 500, [], 0), some (.iaload, 501, [], 0), some (.invokevirtual 53, 504, [9, 92, 4, 1, 7, 4, 0], 0), none, none, some (.aload_n 2, 505, [], 0), some (.aload_n 0, 506, [], 0), some (.iload_n 3, 507, [], 0), some (.iconst 1, 508, [], 0), some (.iadd, 509, [], 0), some (.iaload, 510, [], 0), some (.aload_n 0, 511, [], 0), some (.iload_n 3, 512, [], 0)],
  [some (.iconst 2, 513, [], 0), some (.iadd, 514, [], 0), some (.iaload, 515, [], 0), some (.aload_n 0, 516, [], 0), some (.iload_n 3, 517, [], 0), some (.iconst 3, 518, [], 0), some (.iadd, 519, [], 0), some (.iaload, 520, [], 0), some (.invokevirtual 56, 523, [9, 175, 4, 1, 8, 4, 0], 0), none, none, some (.if_icmp .eq 476, 526, [999], 0), none, none, some (.iconst 0, 527, [], 0), some (.ireturn, 528, [1], 0)],
  [some (.aload_n 1, 529, [], 0), some (.aload_n 0, 530, [], 0), some (.iload_n 3, 531, [], 0), some (.iconst 1, 532, [], 0), some (.iadd, 533, [], 0), some (.iaload, 534, [], 0), some (.invokevirtual 57, 537, [9, 93, 2, 1, 7, 2, 0], 0), none, none, some (.aload_n 2, 538, [], 0), some (.aload_n 0, 539, [], 0), some (.iload_n 3, 540, [], 0), some (.iconst 1, 541, [], 0), some (.iadd, 542, [], 0), some (.iaload, 543, [], 0), some (.invokevirtual 60, 546, [9, 187, 2, 1, 8, 3, 0], 0)],
  [none, none, some (.if_icmp .eq 453, 549, [999], 0), none, none, some (.iconst 0, 550, [], 0), some (.ireturn, 551, [1], 0), some (.aload_n 1, 552, [], 0), some (.aload_n 0, 553, [], 0), some (.iload_n 3, 554, [], 0), some (.iconst 1, 555, [], 0), some (.iadd, 556, [], 0), some (.iaload, 557, [], 0), some (.invokevirtual 61, 560, [9, 94, 2, 1, 7, 2, 0], 0), none, none],
  [some (.aload_n 2, 561, [], 0), some (.aload_n 0, 562, [], 0), some (.iload_n 3, 563, [], 0), some (.iconst 1, 564, [], 0), some (.iadd, 565, [], 0), some (.iaload, 566, [], 0), some (.invokevirtual 64, 569, [9, 190, 2, 1, 8, 3, 0], 0), none, none, some (.if_icmp .eq 430, 572, [999], 0), none, none, some (.iconst 0, 573, [], 0), some (.ireturn, 574, [1], 0), some (.aload_n 1, 575, [], 0), some (.aload_n 0, 576, [], 0)],
  [some (.iload_n 3, 577, [], 0), some (.iconst 1, 578, [], 0), some (.iadd, 579, [], 0), some (.iaload, 580, [], 0), some (.invokevirtual 65, 583, [9, 95, 2, 1, 7, 2, 0], 0), none, none, some (.aload_n 2, 584, [], 0), some (.aload_n 0, 585, [], 0), some (.iload_n 3, 586, [], 0), some (.iconst 1, 587, [], 0), some (.iadd, 588, [], 0), some (.iaload, 589, [], 0), some (.invokevirtual 68, 592, [9, 191, 2, 1, 8, 3, 0], 0), none, none],
  [some (.if_icmp .eq 407, 595, [999], 0), none, none, some (.iconst 0, 596, [], 0), some (.ireturn, 597, [1], 0), some (.aload_n 1, 598, [], 0), some (.invokevirtual 69, 601, [9, 96, 1, 1, 7, 1, 0], 0), none, none, some (.aload_n 2, 602, [], 0), some (.invokevirtual 73, 605, [9, 197, 1, 1, 8, 4, 0], 0), none, none, some (.if_icmp .eq 394, 608, [999], 0), none, none],
  [some (.iconst 0, 609, [], 0), some (.ireturn, 610, [1], 0), some (.aload_n 1, 611, [], 0), some (.aload_n 0, 612, [], 0), some (.iload_n 3, 613, [], 0), some (.iconst 1, 614, [], 0), some (.iadd, 615, [], 0), some (.iaload, 616, [], 0), some (.aload_n 0, 617, [], 0), some (.iload_n 3, 618, [], 0), some (.iconst 2, 619, [], 0), some (.iadd, 620, [], 0), some (.iaload, 621, [], 0), some (.aload_n 0, 622, [], 0), some (.iload_n 3, 623, [], 0), some (.iconst 3, 624, [], 0)],
  [some (.iadd, 625, [], 0), some (.iaload, 626, [], 0), some (.invokevirtual 74, 629, [9, 97, 4, 1, 7, 4, 0], 0), none, none, some (.aload_n 2, 630, [], 0), some (.aload_n 0, 631, [], 0), some (.iload_n 3, 632, [], 0), some (.iconst 1, 633, [], 0), some (.iadd, 634, [], 0), some (.iaload, 635, [], 0), some (.aload_n 0, 636, [], 0), some (.iload_n 3, 637, [], 0), some (.iconst 2, 638, [], 0), some (.iadd, 639, [], 0), some (.iaload, 640, [], 0)],
  [some (.aload_n 0, 641, [], 0), some (.iload_n 3, 642, [], 0), some (.iconst 3, 643, [], 0), some (.iadd, 644, [], 0), some (.iaload, 645, [], 0), some (.invokevirtual 77, 648, [9, 207, 4, 1, 8, 4, 0], 0), none, none, some (.if_icmp .eq 351, 651, [999], 0), none, none, some (.iconst 0, 652, [], 0), some (.ireturn, 653, [1], 0), some (.aload_n 1, 654, [], 0), some (.aload_n 0, 655, [], 0), some (.iload_n 3, 656, [], 0)],
  [some (.iconst 1, 657, [], 0), some (.iadd, 658, [], 0), some (.iaload, 659, [], 0), some (.invokevirtual 78, 662, [9, 98, 2, 1, 7, 2, 0], 0), none, none, some (.aload_n 2, 663, [], 0), some (.aload_n 0, 664, [], 0), some (.iload_n 3, 665, [], 0), some (.iconst 1, 666, [], 0), some (.iadd, 667, [], 0), some (.iaload, 668, [], 0), some (.invokevirtual 81, 671, [9, 208, 2, 1, 8, 2, 0], 0), none, none, some (.if_icmp .eq 328, 674, [999], 0)],
  [none, none, some (.iconst 0, 675, [], 0), some (.ireturn, 676, [1], 0), some (.aload_n 1, 677, [], 0), some (.aload_n 0, 678, [], 0), some (.iload_n 3, 679, [], 0), some (.iconst 1, 680, [], 0), some (.iadd, 681, [], 0), some (.iaload, 682, [], 0), some (.invokevirtual 82, 685, [9, 99, 2, 1, 7, 2, 0], 0), none, none, some (.aload_n 2, 686, [], 0), some (.aload_n 0, 687, [], 0), some (.iload_n 3, 688, [], 0)],
  [some (.iconst 1, 689, [], 0), some (.iadd, 690, [], 0), some (.iaload, 691, [], 0), some (.invokevirtual 85, 694, [9, 213, 2, 1, 8, 2, 0], 0), none, none, some (.if_icmp .eq 305, 697, [999], 0), none, none, some (.iconst 0, 698, [], 0), some (.ireturn, 699, [1], 0), some (.aload_n 1, 700, [], 0), some (.aload_n 0, 701, [], 0), some (.iload_n 3, 702, [], 0), some (.iconst 1, 703, [], 0), some (.iadd, 704, [], 0)],
  [some (.iaload, 705, [], 0), some (.aload_n 0, 706, [], 0), some (.iload_n 3, 707, [], 0), some (.iconst 2, 708, [], 0), some (.iadd, 709, [], 0), some (.iaload, 710, [], 0), some (.invokevirtual 86, 713, [9, 100, 3, 1, 7, 3, 0], 0), none, none, some (.aload_n 2, 714, [], 0), some (.aload_n 0, 715, [], 0), some (.iload_n 3, 716, [], 0), some (.iconst 1, 717, [], 0), some (.iadd, 718, [], 0), some (.iaload, 719, [], 0), some (.aload_n 0, 720, [], 0)],
  [some (.iload_n 3, 721, [], 0), some (.iconst 2, 722, [], 0), some (.iadd, 723, [], 0), some (.iaload, 724, [], 0), some (.invokevirtual 89, 727, [9, 215, 3, 1, 8, 3, 0], 0), none, none, some (.if_icmp .eq 272, 730, [999], 0), none, none, some (.iconst 0, 731, [], 0), some (.ireturn, 732, [1], 0), some (.aload_n 1, 733, [], 0), some (.aload_n 0, 734, [], 0), some (.iload_n 3, 735, [], 0), some (.iconst 1, 736, [], 0)],
  [some (.iadd, 737, [], 0), some (.iaload, 738, [], 0), some (.invokevirtual 90, 741, [9, 101, 2, 1, 7, 2, 0], 0), none, none, some (.aload_n 2, 742, [], 0), some (.aload_n 0, 743, [], 0), some (.iload_n 3, 744, [], 0), some (.iconst 1, 745, [], 0), some (.iadd, 746, [], 0), some (.iaload, 747, [], 0), some (.invokevirtual 93, 750, [9, 216, 2, 1, 8, 2, 0], 0), none, none, some (.if_icmp .eq 249, 753, [999], 0), none],
  [none, some (.iconst 0, 754, [], 0), some (.ireturn, 755, [1], 0), some (.aload_n 1, 756, [], 0), some (.aload_n 0, 757, [], 0), some (.iload_n 3, 758, [], 0), some (.iconst 1, 759, [], 0), some (.iadd, 760, [], 0), some (.iaload, 761, [], 0), some (.aload_n 0, 762, [], 0), some (.iload_n 3, 763, [], 0), some (.iconst 2, 764, [], 0), some (.iadd, 765, [], 0), some (.iaload, 766, [], 0), some (.invokevirtual 94, 769, [9, 102, 3, 1, 7, 3, 0], 0), none],
  [none, some (.aload_n 2, 770, [], 0), some (.aload_n 0, 771, [], 0), some (.iload_n 3, 772, [], 0), some (.iconst 1, 773, [], 0), some (.iadd, 774, [], 0), some (.iaload, 775, [], 0), some (.aload_n 0, 776, [], 0), some (.iload_n 3, 777, [], 0), some (.iconst 2, 778, [], 0), some (.iadd, 779, [], 0), some (.iaload, 780, [], 0), some (.invokevirtual 97, 783, [9, 217, 3, 1, 8, 7, 0], 0), none, none, some (.if_icmp .eq 216, 786, [999], 0)],
  [none, none, some (.iconst 0, 787, [], 0), some (.ireturn, 788, [1], 0), some (.aload_n 1, 789, [], 0), some (.aload_n 0, 790, [], 0), some (.iload_n 3, 791, [], 0), some (.iconst 1, 792, [], 0), some (.iadd, 793, [], 0), some (.iaload, 794, [], 0), some (.invokevirtual 98, 797, [9, 103, 2, 1, 7, 2, 0], 0), none, none, some (.aload_n 2, 798, [], 0), some (.aload_n 0, 799, [], 0), some (.iload_n 3, 800, [], 0)],
  [some (.iconst 1, 801, [], 0), some (.iadd, 802, [], 0), some (.iaload, 803, [], 0), some (.invokevirtual 101, 806, [9, 218, 2, 1, 8, 4, 0], 0), none, none, some (.if_icmp .eq 193, 809, [999], 0), none, none, some (.iconst 0, 810, [], 0), some (.ireturn, 811, [1], 0), some (.aload_n 1, 812, [], 0), some (.aload_n 0, 813, [], 0), some (.iload_n 3, 814, [], 0), some (.iconst 1, 815, [], 0), some (.iadd, 816, [], 0)],
  [some (.iaload, 817, [], 0), some (.aload_n 0, 818, [], 0), some (.iload_n 3, 819, [], 0), some (.iconst 2, 820, [], 0), some (.iadd, 821, [], 0), some (.iaload, 822, [], 0), some (.invokevirtual 102, 825, [9, 104, 3, 1, 7, 3, 0], 0), none, none, some (.aload_n 2, 826, [], 0), some (.aload_n 0, 827, [], 0), some (.iload_n 3, 828, [], 0), some (.iconst 1, 829, [], 0), some (.iadd, 830, [], 0), some (.iaload, 831, [], 0), some (.aload_n 0, 832, [], 0)],
  [some (.iload_n 3, 833, [], 0), some (.iconst 2, 834, [], 0), some (.iadd, 835, [], 0), some (.iaload, 836, [], 0), some (.invokevirtual 105, 839, [9, 220, 3, 1, 8, 3, 0], 0), none, none, some (.if_icmp .eq 160, 842, [999], 0), none, none, some (.iconst 0, 843, [], 0), some (.ireturn, 844, [1], 0), some (.aload_n 1, 845, [], 0), some (.aload_n 0, 846, [], 0), some (.iload_n 3, 847, [], 0), some (.iconst 1, 848, [], 0)],
  [some (.iadd, 849, [], 0), some (.iaload, 850, [], 0), some (.aload_n 0, 851, [], 0), some (.iload_n 3, 852, [], 0), some (.iconst 2, 853, [], 0), some (.iadd, 854, [], 0), some (.iaload, 855, [], 0), some (.invokevirtual 106, 858, [9, 105, 3, 1, 7, 4, 0], 0), none, none, some (.aload_n 2, 859, [], 0), some (.aload_n 0, 860, [], 0), some (.iload_n 3, 861, [], 0), some (.iconst 1, 862, [], 0), some (.iadd, 863, [], 0), some (.iaload, 864, [], 0)],
  [some (.aload_n 0, 865, [], 0), some (.iload_n 3, 866, [], 0), some (.iconst 2, 867, [], 0), some (.iadd, 868, [], 0), some (.iaload, 869, [], 0), some (.invokevirtual 109, 872, [9, 222, 3, 1, 8, 3, 0], 0), none, none, some (.if_icmp .eq 127, 875, [999], 0), none, none, some (.iconst 0, 876, [], 0), some (.ireturn, 877, [1], 0), some (.aload_n 1, 878, [], 0), some (.aload_n 0, 879, [], 0), some (.iload_n 3, 880, [], 0)],
  [some (.iconst 1, 881, [], 0), some (.iadd, 882, [], 0), some (.iaload, 883, [], 0), some (.invokevirtual 110, 886, [9, 106, 2, 1, 7, 2, 0], 0), none, none, some (.aload_n 2, 887, [], 0), some (.aload_n 0, 888, [], 0), some (.iload_n 3, 889, [], 0), some (.iconst 1, 890, [], 0), some (.iadd, 891, [], 0), some (.iaload, 892, [], 0), some (.invokevirtual 113, 895, [9, 223, 2, 1, 8, 7, 0], 0), none, none, some (.if_icmp .eq 104, 898, [999], 0)],
  [none, none, some (.iconst 0, 899, [], 0), some (.ireturn, 900, [1], 0), some (.aload_n 1, 901, [], 0), some (.aload_n 0, 902, [], 0), some (.iload_n 3, 903, [], 0), some (.iconst 1, 904, [], 0), some (.iadd, 905, [], 0), some (.iaload, 906, [], 0), some (.invokevirtual 114, 909, [9, 107, 2, 1, 7, 2, 0], 0), none, none, some (.aload_n 2, 910, [], 0), some (.aload_n 0, 911, [], 0), some (.iload_n 3, 912, [], 0)],
  [some (.iconst 1, 913, [], 0), some (.iadd, 914, [], 0), some (.iaload, 915, [], 0), some (.invokevirtual 117, 918, [9, 224, 2, 1, 8, 2, 0], 0), none, none, some (.if_icmp .eq 81, 921, [999], 0), none, none, some (.iconst 0, 922, [], 0), some (.ireturn, 923, [1], 0), some (.aload_n 1, 924, [], 0), some (.invokevirtual 118, 927, [9, 108, 1, 1, 7, 2, 0], 0), none, none, some (.aload_n 2, 928, [], 0)],
  [some (.invokevirtual 121, 931, [9, 225, 1, 1, 8, 2, 0], 0), none, none, some (.if_icmp .eq 68, 934, [999], 0), none, none, some (.iconst 0, 935, [], 0), some (.ireturn, 936, [1], 0), some (.aload_n 1, 937, [], 0), some (.invokevirtual 122, 940, [9, 109, 1, 1, 7, 4, 0], 0), none, none, some (.aload_n 2, 941, [], 0), some (.invokevirtual 125, 944, [9, 232, 1, 1, 8, 4, 0], 0), none, none],
  [some (.if_icmp .eq 55, 947, [999], 0), none, none, some (.iconst 0, 948, [], 0), some (.ireturn, 949, [1], 0), some (.aload_n 1, 950, [], 0), some (.invokevirtual 126, 953, [9, 110, 1, 1, 7, 2, 0], 0), none, none, some (.aload_n 2, 954, [], 0), some (.invokevirtual 129, 957, [9, 234, 1, 1, 8, 2, 0], 0), none, none, some (.if_icmp .eq 42, 960, [999], 0), none, none],
  [some (.iconst 0, 961, [], 0), some (.ireturn, 962, [1], 0), some (.aload_n 1, 963, [], 0), some (.aload_n 0, 964, [], 0), some (.iload_n 3, 965, [], 0), some (.iconst 1, 966, [], 0), some (.iadd, 967, [], 0), some (.iaload, 968, [], 0), some (.invokevirtual 130, 971, [9, 111, 2, 1, 7, 2, 0], 0), none, none, some (.aload_n 2, 972, [], 0), some (.aload_n 0, 973, [], 0), some (.iload_n 3, 974, [], 0), some (.iconst 1, 975, [], 0), some (.iadd, 976, [], 0)],
  [some (.iaload, 977, [], 0), some (.invokevirtual 133, 980, [9, 236, 2, 1, 8, 2, 0], 0), none, none, some (.if_icmp .eq 19, 983, [999], 0), none, none, some (.iconst 0, 984, [], 0), some (.ireturn, 985, [1], 0), some (.aload_n 1, 986, [], 0), some (.invokevirtual 134, 989, [9, 112, 1, 2, 7, 5, 0], 0), none, none, some (.aload_n 2, 990, [], 0), some (.invokevirtual 138, 993, [9, 237, 1, 2, 8, 5, 0], 0), none],
  [none, some (.lcmp, 994, [], 0), some (.ifCond .eq 5, 997, [999], 0), none, none, some (.iconst 0, 998, [], 0), some (.ireturn, 999, [1], 0), some (.iinc 3 5, 1002, [], 0), none, none, some (.goto (-984), 1005, [18], 0), none, none, some (.iconst 1, 1006, [], 0), some (.ireturn, 1007, [1], 0)]]
def ob_c_J7_fill_53178 : List (List (Option ob_Ent)) := [[some (.iconst 0, 1, [], 0), some (.istore_n 2, 2, [], 0), some (.aload_n 0, 3, [], 0), some (.arraylength, 4, [], 0), some (.istore_n 3, 5, [], 0), some (.iload_n 2, 6, [], 0), some (.iload_n 3, 7, [], 0), some (.if_icmp .ge 13, 10, [20], 0), none, none, some (.aload_n 0, 11, [], 0), some (.iload_n 2, 12, [], 0), some (.iload_n 1, 13, [], 0), some (.iastore, 14, [], 0), some (.iinc 2 1, 17, [], 0), none],
  [none, some (.goto (-12), 20, [5], 0), none, none, some (.return_, 21, [], 0)]]
def ob_codes : List (List (List (List (Option ob_Ent)))) := [[ob_c_X0_init, ob_c_X0_begin, ob_c_X0_copyFrom, ob_c_X0_hasTune, ob_c_X0_hasKey, ob_c_X0_hasNote, ob_c_X0_tracks, ob_c_X0_track, ob_c_X0_build, ob_c_X0_adjust, ob_c_X0_setGap, ob_c_X0_setTicks, ob_c_X0_addNote, ob_c_X0_removeNote, ob_c_X0_setShift, ob_c_X0_takeOff],
  [ob_c_X0_tuneValue, ob_c_X0_noteValue, ob_c_X0_pinnedTunes, ob_c_X0_pinCount, ob_c_X0_emptyTracks, ob_c_X0_heldOn, ob_c_X0_heldOnAny, ob_c_X0_canBeBeside, ob_c_X1_init, ob_c_X1_find, ob_c_X1_placePins, ob_c_X1_join, ob_c_X1_numberOf, ob_c_X1_bears, ob_c_X1_countShared, ob_c_X1_countWorn],
  [ob_c_X1_lostAtEnd, ob_c_X1_value, ob_c_X2_init, ob_c_X2_tell, ob_c_X2_value, ob_c_X3_init, ob_c_X3_copyFrom, ob_c_X3_isTaken, ob_c_X3_add, ob_c_X3_remove, ob_c_X3_keysAt, ob_c_X4_init, ob_c_X4_putOn, ob_c_X4_isTooSoon, ob_c_X4_isTouching, ob_c_X4_firstTooSoon],
  [ob_c_X4_firstTouched, ob_c_X4_firstInTheWay, ob_c_X4_leastShift, ob_c_X4_isClear, ob_c_X4_settleAll, ob_c_X4_planAll, ob_c_X4_compareAll, ob_c_X4_place, ob_c_X4_canLieBeside, ob_c_X4_searchShifts, ob_c_X4_searchBehind, ob_c_X4_leastThird, ob_c_X4_shiftsToTry, ob_c_X4_pinAll, ob_c_X5_init, ob_c_X5_copyFrom],
  [ob_c_X5_lay, ob_c_X5_howMany, ob_c_X5_angleOfTick, ob_c_X5_freeBehind, ob_c_X5_held, ob_c_X6_init, ob_c_X6_append, ob_c_X6_numberCount, ob_c_X6_number, ob_c_X6_parse, ob_c_X6_isFigure, ob_c_X6_opensNumber, ob_c_X6_addFigure, ob_c_X6_takesMark, ob_c_X6_opensOrder, ob_c_X6_endOrder],
  [ob_c_X6_takesNotes, ob_c_X6_numbersOf, ob_c_X7_init, ob_c_X7_barrel, ob_c_X7_sets, ob_c_X7_gap, ob_c_X7_side, ob_c_X7_ticks, ob_c_X7_note, ob_c_X7_drop, ob_c_X7_shift, ob_c_X7_tune, ob_c_X7_noteOf, ob_c_X7_pins, ob_c_X7_off, ob_c_X7_fits],
  [ob_c_X7_settles, ob_c_X7_pin, ob_c_X7_why, ob_c_X7_all, ob_c_X7_bridge, ob_c_X7_free, ob_c_X7_plays, ob_c_X7_mends, ob_c_X7_heard, ob_c_X7_tells, ob_c_X7_wrong, ob_c_X7_type, ob_c_X7_clear, ob_c_X7_reads, ob_c_X7_back, ob_c_X7_told],
  [ob_c_X7_digest, ob_c_X7_digestOfTune, ob_c_X7_remember, ob_c_X7_changed, ob_c_X7_refused, ob_c_X7_keepSpare, ob_c_X7_toldValue, ob_c_X7_pinValue, ob_c_X7_allValue, ob_c_X7_goRound, ob_c_X7_mendBridge, ob_c_X7_keysHeard, ob_c_X7_wrongTicks, ob_c_X7_obey, ob_c_X7_obeyTicks, ob_c_X7_blame],
  [ob_c_X7_within, ob_c_X7_angle, ob_c_X7_round, ob_c_X7_distance, ob_c_X7_longestFree, ob_c_X8_init, ob_c_X8_in, ob_c_X8_refuses, ob_c_X8_keep, ob_c_X8_begins, ob_c_X8_round, ob_c_X8_tunes, ob_c_X8_isTune, ob_c_X8_isKey, ob_c_X8_of, ob_c_X8_set],
  [ob_c_X8_isPinned, ob_c_X8_from, ob_c_X8_angle, ob_c_X8_angleNow, ob_c_X8_key, ob_c_X8_start, ob_c_X8_length, ob_c_X8_begin, ob_c_X8_hold, ob_c_X8_track, ob_c_X8_barrel, ob_c_X8_setNow, ob_c_X8_sets, ob_c_X8_canGap, ob_c_X8_gap, ob_c_X8_canSide],
  [ob_c_X8_side, ob_c_X8_canTicks, ob_c_X8_ticksNow, ob_c_X8_ticks, ob_c_X8_canNote, ob_c_X8_noteNow, ob_c_X8_note, ob_c_X8_isNote, ob_c_X8_drop, ob_c_X8_canShift, ob_c_X8_shiftNow, ob_c_X8_shift, ob_c_X8_tuneNow, ob_c_X8_tune, ob_c_X8_noteTold, ob_c_X8_noteOf],
  [ob_c_X8_because, ob_c_X8_freeBehind, ob_c_X8_isWide, ob_c_X8_isBeside, ob_c_X8_areNeighbours, ob_c_X8_pinOf, ob_c_X8_strange, ob_c_X8_isFree, ob_c_X8_canPin, ob_c_X8_pinNow, ob_c_X8_blames, ob_c_X8_pins, ob_c_X8_canOff, ob_c_X8_offNow, ob_c_X8_off, ob_c_X8_fits],
  [ob_c_X8_areBeside, ob_c_X8_triesAll, ob_c_X8_shifts, ob_c_X8_settled, ob_c_X8_canSettle, ob_c_X8_settles, ob_c_X8_pinAt, ob_c_X8_found, ob_c_X8_laysPins, ob_c_X8_tracks, ob_c_X8_laysBridges, ob_c_X8_isWorn, ob_c_X8_dumb, ob_c_X8_indexOf, ob_c_X8_freeNow, ob_c_X8_pin],
  [ob_c_X8_why, ob_c_X8_longest, ob_c_X8_pinnedSet, ob_c_X8_emptyTracks, ob_c_X8_allNow, ob_c_X8_all, ob_c_X8_bridgeNow, ob_c_X8_bridge, ob_c_X8_free, ob_c_X8_plays, ob_c_X8_mends, ob_c_X8_heardNow, ob_c_X8_heard, ob_c_X8_toldAt, ob_c_X8_tells, ob_c_X8_wrong],
  [ob_c_X8_type, ob_c_X8_clear, ob_c_X8_here, ob_c_X8_isFigure, ob_c_X8_takes, ob_c_X8_does, ob_c_X8_readsNotes, ob_c_X8_readsOrder, ob_c_X8_reads, ob_c_X8_keepsAside, ob_c_X8_back, ob_c_X8_toldOf, ob_c_X8_told, ob_c_X8_digest, ob_c_L_law, ob_c_J7_fill_53178]]
-- a method: name, bytes, locals, what it returns, its class, its rank, 1 if it is static, is a constructor
def ob_i_X0_init : MethodName × ByteArray × Nat × Option FieldType × Nat × Nat × Nat := (⟨"OrganBarrel$Barrel", "<init>", "()V"⟩, prog_2_method_1_code, 2, none, 0, 3, 0)
def ob_i_X0_begin : MethodName × ByteArray × Nat × Option FieldType × Nat × Nat × Nat := (⟨"OrganBarrel$Barrel", "begin", "(III)V"⟩, prog_2_method_2_code, 5, none, 0, 1, 0)
def ob_i_X0_copyFrom : MethodName × ByteArray × Nat × Option FieldType × Nat × Nat × Nat := (⟨"OrganBarrel$Barrel", "copyFrom", "(LOrganBarrel$Barrel;)V"⟩, prog_2_method_3_code, 3, none, 0, 3, 0)
def ob_i_X0_hasTune : MethodName × ByteArray × Nat × Option FieldType × Nat × Nat × Nat := (⟨"OrganBarrel$Barrel", "hasTune", "(I)Z"⟩, prog_2_method_4_code, 2, (some .boolean), 0, 1, 0)
def ob_i_X0_hasKey : MethodName × ByteArray × Nat × Option FieldType × Nat × Nat × Nat := (⟨"OrganBarrel$Barrel", "hasKey", "(I)Z"⟩, prog_2_method_5_code, 2, (some .boolean), 0, 1, 0)
def ob_i_X0_hasNote : MethodName × ByteArray × Nat × Option FieldType × Nat × Nat × Nat := (⟨"OrganBarrel$Barrel", "hasNote", "(II)Z"⟩, prog_2_method_6_code, 3, (some .boolean), 0, 2, 0)
def ob_i_X0_tracks : MethodName × ByteArray × Nat × Option FieldType × Nat × Nat × Nat := (⟨"OrganBarrel$Barrel", "tracks", "()I"⟩, prog_2_method_7_code, 1, (some .int), 0, 0, 0)
def ob_i_X0_track : MethodName × ByteArray × Nat × Option FieldType × Nat × Nat × Nat := (⟨"OrganBarrel$Barrel", "track", "(II)I"⟩, prog_2_method_8_code, 3, (some .int), 0, 0, 0)
def ob_i_X0_build : MethodName × ByteArray × Nat × Option FieldType × Nat × Nat × Nat := (⟨"OrganBarrel$Barrel", "build", "(III)I"⟩, prog_2_method_9_code, 5, (some .int), 0, 2, 0)
def ob_i_X0_adjust : MethodName × ByteArray × Nat × Option FieldType × Nat × Nat × Nat := (⟨"OrganBarrel$Barrel", "adjust", "(II)I"⟩, prog_2_method_10_code, 4, (some .int), 0, 1, 0)
def ob_i_X0_setGap : MethodName × ByteArray × Nat × Option FieldType × Nat × Nat × Nat := (⟨"OrganBarrel$Barrel", "setGap", "(II)I"⟩, prog_2_method_11_code, 4, (some .int), 0, 2, 0)
def ob_i_X0_setTicks : MethodName × ByteArray × Nat × Option FieldType × Nat × Nat × Nat := (⟨"OrganBarrel$Barrel", "setTicks", "(II)I"⟩, prog_2_method_12_code, 4, (some .int), 0, 2, 0)
def ob_i_X0_addNote : MethodName × ByteArray × Nat × Option FieldType × Nat × Nat × Nat := (⟨"OrganBarrel$Barrel", "addNote", "(IIII)I"⟩, prog_2_method_13_code, 5, (some .int), 0, 2, 0)
def ob_i_X0_removeNote : MethodName × ByteArray × Nat × Option FieldType × Nat × Nat × Nat := (⟨"OrganBarrel$Barrel", "removeNote", "(II)I"⟩, prog_2_method_14_code, 3, (some .int), 0, 3, 0)
def ob_i_X0_setShift : MethodName × ByteArray × Nat × Option FieldType × Nat × Nat × Nat := (⟨"OrganBarrel$Barrel", "setShift", "(II)I"⟩, prog_2_method_15_code, 4, (some .int), 0, 2, 0)
def ob_i_X0_takeOff : MethodName × ByteArray × Nat × Option FieldType × Nat × Nat × Nat := (⟨"OrganBarrel$Barrel", "takeOff", "(I)I"⟩, prog_2_method_16_code, 2, (some .int), 0, 2, 0)
def ob_i_X0_tuneValue : MethodName × ByteArray × Nat × Option FieldType × Nat × Nat × Nat := (⟨"OrganBarrel$Barrel", "tuneValue", "(II)I"⟩, prog_2_method_17_code, 4, (some .int), 0, 0, 0)
def ob_i_X0_noteValue : MethodName × ByteArray × Nat × Option FieldType × Nat × Nat × Nat := (⟨"OrganBarrel$Barrel", "noteValue", "(III)I"⟩, prog_2_method_18_code, 6, (some .int), 0, 1, 0)
def ob_i_X0_pinnedTunes : MethodName × ByteArray × Nat × Option FieldType × Nat × Nat × Nat := (⟨"OrganBarrel$Barrel", "pinnedTunes", "()I"⟩, prog_2_method_19_code, 3, (some .int), 0, 0, 0)
def ob_i_X0_pinCount : MethodName × ByteArray × Nat × Option FieldType × Nat × Nat × Nat := (⟨"OrganBarrel$Barrel", "pinCount", "()I"⟩, prog_2_method_20_code, 3, (some .int), 0, 1, 0)
def ob_i_X0_emptyTracks : MethodName × ByteArray × Nat × Option FieldType × Nat × Nat × Nat := (⟨"OrganBarrel$Barrel", "emptyTracks", "()I"⟩, prog_2_method_21_code, 3, (some .int), 0, 3, 0)
def ob_i_X0_heldOn : MethodName × ByteArray × Nat × Option FieldType × Nat × Nat × Nat := (⟨"OrganBarrel$Barrel", "heldOn", "(I)I"⟩, prog_2_method_22_code, 5, (some .int), 0, 2, 0)
def ob_i_X0_heldOnAny : MethodName × ByteArray × Nat × Option FieldType × Nat × Nat × Nat := (⟨"OrganBarrel$Barrel", "heldOnAny", "()I"⟩, prog_2_method_23_code, 4, (some .int), 0, 2, 0)
def ob_i_X0_canBeBeside : MethodName × ByteArray × Nat × Option FieldType × Nat × Nat × Nat := (⟨"OrganBarrel$Barrel", "canBeBeside", "(III)Z"⟩, prog_2_method_24_code, 4, (some .boolean), 0, 0, 0)
def ob_i_X1_init : MethodName × ByteArray × Nat × Option FieldType × Nat × Nat × Nat := (⟨"OrganBarrel$Bridges", "<init>", "()V"⟩, prog_3_method_1_code, 1, none, 1, 1, 0)
def ob_i_X1_find : MethodName × ByteArray × Nat × Option FieldType × Nat × Nat × Nat := (⟨"OrganBarrel$Bridges", "find", "(LOrganBarrel$Barrel;)V"⟩, prog_3_method_2_code, 6, none, 1, 2, 0)
def ob_i_X1_placePins : MethodName × ByteArray × Nat × Option FieldType × Nat × Nat × Nat := (⟨"OrganBarrel$Bridges", "placePins", "(LOrganBarrel$Barrel;)V"⟩, prog_3_method_3_code, 6, none, 1, 1, 0)
def ob_i_X1_join : MethodName × ByteArray × Nat × Option FieldType × Nat × Nat × Nat := (⟨"OrganBarrel$Bridges", "join", "(LOrganBarrel$Barrel;III)V"⟩, prog_3_method_4_code, 7, none, 1, 0, 0)
def ob_i_X1_numberOf : MethodName × ByteArray × Nat × Option FieldType × Nat × Nat × Nat := (⟨"OrganBarrel$Bridges", "numberOf", "(II)I"⟩, prog_3_method_5_code, 3, (some .int), 1, 0, 0)
def ob_i_X1_bears : MethodName × ByteArray × Nat × Option FieldType × Nat × Nat × Nat := (⟨"OrganBarrel$Bridges", "bears", "(III)Z"⟩, prog_3_method_6_code, 5, (some .boolean), 1, 1, 0)
def ob_i_X1_countShared : MethodName × ByteArray × Nat × Option FieldType × Nat × Nat × Nat := (⟨"OrganBarrel$Bridges", "countShared", "()I"⟩, prog_3_method_7_code, 3, (some .int), 1, 0, 0)
def ob_i_X1_countWorn : MethodName × ByteArray × Nat × Option FieldType × Nat × Nat × Nat := (⟨"OrganBarrel$Bridges", "countWorn", "(I)I"⟩, prog_3_method_8_code, 4, (some .int), 1, 0, 0)
def ob_i_X1_lostAtEnd : MethodName × ByteArray × Nat × Option FieldType × Nat × Nat × Nat := (⟨"OrganBarrel$Bridges", "lostAtEnd", "(II)I"⟩, prog_3_method_9_code, 3, (some .int), 1, 1, 0)
def ob_i_X1_value : MethodName × ByteArray × Nat × Option FieldType × Nat × Nat × Nat := (⟨"OrganBarrel$Bridges", "value", "(III)I"⟩, prog_3_method_10_code, 4, (some .int), 1, 2, 0)
def ob_i_X2_init : MethodName × ByteArray × Nat × Option FieldType × Nat × Nat × Nat := (⟨"OrganBarrel$Cause", "<init>", "()V"⟩, prog_4_method_1_code, 1, none, 2, 1, 0)
def ob_i_X2_tell : MethodName × ByteArray × Nat × Option FieldType × Nat × Nat × Nat := (⟨"OrganBarrel$Cause", "tell", "(III)V"⟩, prog_4_method_2_code, 4, none, 2, 0, 0)
def ob_i_X2_value : MethodName × ByteArray × Nat × Option FieldType × Nat × Nat × Nat := (⟨"OrganBarrel$Cause", "value", "(I)I"⟩, prog_4_method_3_code, 2, (some .int), 2, 0, 0)
def ob_i_X3_init : MethodName × ByteArray × Nat × Option FieldType × Nat × Nat × Nat := (⟨"OrganBarrel$Notes", "<init>", "()V"⟩, prog_5_method_1_code, 1, none, 3, 1, 0)
def ob_i_X3_copyFrom : MethodName × ByteArray × Nat × Option FieldType × Nat × Nat × Nat := (⟨"OrganBarrel$Notes", "copyFrom", "(LOrganBarrel$Notes;)V"⟩, prog_5_method_2_code, 2, none, 3, 1, 0)
def ob_i_X3_isTaken : MethodName × ByteArray × Nat × Option FieldType × Nat × Nat × Nat := (⟨"OrganBarrel$Notes", "isTaken", "(III)Z"⟩, prog_5_method_3_code, 5, (some .boolean), 3, 0, 0)
def ob_i_X3_add : MethodName × ByteArray × Nat × Option FieldType × Nat × Nat × Nat := (⟨"OrganBarrel$Notes", "add", "(III)I"⟩, prog_5_method_4_code, 4, (some .int), 3, 0, 0)
def ob_i_X3_remove : MethodName × ByteArray × Nat × Option FieldType × Nat × Nat × Nat := (⟨"OrganBarrel$Notes", "remove", "(I)I"⟩, prog_5_method_5_code, 3, (some .int), 3, 0, 0)
def ob_i_X3_keysAt : MethodName × ByteArray × Nat × Option FieldType × Nat × Nat × Nat := (⟨"OrganBarrel$Notes", "keysAt", "(I)I"⟩, prog_5_method_6_code, 4, (some .int), 3, 0, 0)
def ob_i_X4_init : MethodName × ByteArray × Nat × Option FieldType × Nat × Nat × Nat := (⟨"OrganBarrel$Pinner", "<init>", "()V"⟩, prog_6_method_1_code, 2, none, 4, 3, 0)
def ob_i_X4_putOn : MethodName × ByteArray × Nat × Option FieldType × Nat × Nat × Nat := (⟨"OrganBarrel$Pinner", "putOn", "(LOrganBarrel$Barrel;ILOrganBarrel$Cause;)I"⟩, prog_6_method_2_code, 5, (some .int), 4, 4, 0)
def ob_i_X4_isTooSoon : MethodName × ByteArray × Nat × Option FieldType × Nat × Nat × Nat := (⟨"OrganBarrel$Pinner", "isTooSoon", "(LOrganBarrel$Barrel;ILOrganBarrel$Cause;)Z"⟩, prog_6_method_3_code, 5, (some .boolean), 4, 3, 0)
def ob_i_X4_isTouching : MethodName × ByteArray × Nat × Option FieldType × Nat × Nat × Nat := (⟨"OrganBarrel$Pinner", "isTouching", "(LOrganBarrel$Barrel;ILOrganBarrel$Cause;)Z"⟩, prog_6_method_4_code, 6, (some .boolean), 4, 3, 0)
def ob_i_X4_firstTooSoon : MethodName × ByteArray × Nat × Option FieldType × Nat × Nat × Nat := (⟨"OrganBarrel$Pinner", "firstTooSoon", "(LOrganBarrel$Barrel;I)I"⟩, prog_6_method_5_code, 5, (some .int), 4, 2, 0)
def ob_i_X4_firstTouched : MethodName × ByteArray × Nat × Option FieldType × Nat × Nat × Nat := (⟨"OrganBarrel$Pinner", "firstTouched", "(LOrganBarrel$Barrel;III)I"⟩, prog_6_method_6_code, 7, (some .int), 4, 2, 0)
def ob_i_X4_firstInTheWay : MethodName × ByteArray × Nat × Option FieldType × Nat × Nat × Nat := (⟨"OrganBarrel$Pinner", "firstInTheWay", "(LOrganBarrel$Barrel;IIIILOrganBarrel$Pins;)I"⟩, prog_6_method_7_code, 13, (some .int), 4, 1, 0)
def ob_i_X4_leastShift : MethodName × ByteArray × Nat × Option FieldType × Nat × Nat × Nat := (⟨"OrganBarrel$Pinner", "leastShift", "(LOrganBarrel$Barrel;I)I"⟩, prog_6_method_8_code, 4, (some .int), 4, 4, 0)
def ob_i_X4_isClear : MethodName × ByteArray × Nat × Option FieldType × Nat × Nat × Nat := (⟨"OrganBarrel$Pinner", "isClear", "(LOrganBarrel$Barrel;II)Z"⟩, prog_6_method_9_code, 5, (some .boolean), 4, 3, 0)
def ob_i_X4_settleAll : MethodName × ByteArray × Nat × Option FieldType × Nat × Nat × Nat := (⟨"OrganBarrel$Pinner", "settleAll", "(LOrganBarrel$Barrel;LOrganBarrel$Cause;)I"⟩, prog_6_method_10_code, 4, (some .int), 4, 4, 0)
def ob_i_X4_planAll : MethodName × ByteArray × Nat × Option FieldType × Nat × Nat × Nat := (⟨"OrganBarrel$Pinner", "planAll", "(LOrganBarrel$Barrel;)Z"⟩, prog_6_method_11_code, 4, (some .boolean), 4, 3, 0)
def ob_i_X4_compareAll : MethodName × ByteArray × Nat × Option FieldType × Nat × Nat × Nat := (⟨"OrganBarrel$Pinner", "compareAll", "(LOrganBarrel$Barrel;)V"⟩, prog_6_method_12_code, 5, none, 4, 3, 0)
def ob_i_X4_place : MethodName × ByteArray × Nat × Option FieldType × Nat × Nat × Nat := (⟨"OrganBarrel$Pinner", "place", "(III)I"⟩, prog_6_method_13_code, 3, (some .int), 4, 0, 1)
def ob_i_X4_canLieBeside : MethodName × ByteArray × Nat × Option FieldType × Nat × Nat × Nat := (⟨"OrganBarrel$Pinner", "canLieBeside", "(LOrganBarrel$Barrel;III)Z"⟩, prog_6_method_14_code, 6, (some .boolean), 4, 2, 0)
def ob_i_X4_searchShifts : MethodName × ByteArray × Nat × Option FieldType × Nat × Nat × Nat := (⟨"OrganBarrel$Pinner", "searchShifts", "(LOrganBarrel$Barrel;)I"⟩, prog_6_method_15_code, 4, (some .int), 4, 3, 0)
def ob_i_X4_searchBehind : MethodName × ByteArray × Nat × Option FieldType × Nat × Nat × Nat := (⟨"OrganBarrel$Pinner", "searchBehind", "(LOrganBarrel$Barrel;II)I"⟩, prog_6_method_16_code, 8, (some .int), 4, 2, 0)
def ob_i_X4_leastThird : MethodName × ByteArray × Nat × Option FieldType × Nat × Nat × Nat := (⟨"OrganBarrel$Pinner", "leastThird", "(LOrganBarrel$Barrel;II)I"⟩, prog_6_method_17_code, 5, (some .int), 4, 1, 0)
def ob_i_X4_shiftsToTry : MethodName × ByteArray × Nat × Option FieldType × Nat × Nat × Nat := (⟨"OrganBarrel$Pinner", "shiftsToTry", "(LOrganBarrel$Barrel;I)I"⟩, prog_6_method_18_code, 2, (some .int), 4, 0, 1)
def ob_i_X4_pinAll : MethodName × ByteArray × Nat × Option FieldType × Nat × Nat × Nat := (⟨"OrganBarrel$Pinner", "pinAll", "(LOrganBarrel$Barrel;)V"⟩, prog_6_method_19_code, 3, none, 4, 3, 0)
def ob_i_X5_init : MethodName × ByteArray × Nat × Option FieldType × Nat × Nat × Nat := (⟨"OrganBarrel$Pins", "<init>", "()V"⟩, prog_7_method_1_code, 1, none, 5, 2, 0)
def ob_i_X5_copyFrom : MethodName × ByteArray × Nat × Option FieldType × Nat × Nat × Nat := (⟨"OrganBarrel$Pins", "copyFrom", "(LOrganBarrel$Pins;)V"⟩, prog_7_method_2_code, 2, none, 5, 2, 0)
def ob_i_X5_lay : MethodName × ByteArray × Nat × Option FieldType × Nat × Nat × Nat := (⟨"OrganBarrel$Pins", "lay", "(LOrganBarrel$Notes;III)V"⟩, prog_7_method_3_code, 8, none, 5, 2, 0)
def ob_i_X5_howMany : MethodName × ByteArray × Nat × Option FieldType × Nat × Nat × Nat := (⟨"OrganBarrel$Pins", "howMany", "()I"⟩, prog_7_method_4_code, 1, (some .int), 5, 0, 0)
def ob_i_X5_angleOfTick : MethodName × ByteArray × Nat × Option FieldType × Nat × Nat × Nat := (⟨"OrganBarrel$Pins", "angleOfTick", "(II)I"⟩, prog_7_method_5_code, 3, (some .int), 5, 1, 0)
def ob_i_X5_freeBehind : MethodName × ByteArray × Nat × Option FieldType × Nat × Nat × Nat := (⟨"OrganBarrel$Pins", "freeBehind", "(II)I"⟩, prog_7_method_6_code, 5, (some .int), 5, 1, 0)
def ob_i_X5_held : MethodName × ByteArray × Nat × Option FieldType × Nat × Nat × Nat := (⟨"OrganBarrel$Pins", "held", "(II)I"⟩, prog_7_method_7_code, 5, (some .int), 5, 1, 0)
def ob_i_X6_init : MethodName × ByteArray × Nat × Option FieldType × Nat × Nat × Nat := (⟨"OrganBarrel$Text", "<init>", "()V"⟩, prog_8_method_1_code, 1, none, 6, 1, 0)
def ob_i_X6_append : MethodName × ByteArray × Nat × Option FieldType × Nat × Nat × Nat := (⟨"OrganBarrel$Text", "append", "(I)I"⟩, prog_8_method_2_code, 2, (some .int), 6, 0, 0)
def ob_i_X6_numberCount : MethodName × ByteArray × Nat × Option FieldType × Nat × Nat × Nat := (⟨"OrganBarrel$Text", "numberCount", "(I)I"⟩, prog_8_method_3_code, 2, (some .int), 6, 0, 0)
def ob_i_X6_number : MethodName × ByteArray × Nat × Option FieldType × Nat × Nat × Nat := (⟨"OrganBarrel$Text", "number", "(II)I"⟩, prog_8_method_4_code, 3, (some .int), 6, 1, 0)
def ob_i_X6_parse : MethodName × ByteArray × Nat × Option FieldType × Nat × Nat × Nat := (⟨"OrganBarrel$Text", "parse", "()I"⟩, prog_8_method_5_code, 5, (some .int), 6, 3, 0)
def ob_i_X6_isFigure : MethodName × ByteArray × Nat × Option FieldType × Nat × Nat × Nat := (⟨"OrganBarrel$Text", "isFigure", "(I)Z"⟩, prog_8_method_6_code, 1, (some .boolean), 6, 0, 1)
def ob_i_X6_opensNumber : MethodName × ByteArray × Nat × Option FieldType × Nat × Nat × Nat := (⟨"OrganBarrel$Text", "opensNumber", "()Z"⟩, prog_8_method_7_code, 1, (some .boolean), 6, 0, 0)
def ob_i_X6_addFigure : MethodName × ByteArray × Nat × Option FieldType × Nat × Nat × Nat := (⟨"OrganBarrel$Text", "addFigure", "(I)V"⟩, prog_8_method_8_code, 2, none, 6, 0, 0)
def ob_i_X6_takesMark : MethodName × ByteArray × Nat × Option FieldType × Nat × Nat × Nat := (⟨"OrganBarrel$Text", "takesMark", "(I)Z"⟩, prog_8_method_9_code, 2, (some .boolean), 6, 2, 0)
def ob_i_X6_opensOrder : MethodName × ByteArray × Nat × Option FieldType × Nat × Nat × Nat := (⟨"OrganBarrel$Text", "opensOrder", "(I)Z"⟩, prog_8_method_10_code, 2, (some .boolean), 6, 1, 0)
def ob_i_X6_endOrder : MethodName × ByteArray × Nat × Option FieldType × Nat × Nat × Nat := (⟨"OrganBarrel$Text", "endOrder", "()V"⟩, prog_8_method_11_code, 1, none, 6, 0, 0)
def ob_i_X6_takesNotes : MethodName × ByteArray × Nat × Option FieldType × Nat × Nat × Nat := (⟨"OrganBarrel$Text", "takesNotes", "(I)Z"⟩, prog_8_method_12_code, 4, (some .boolean), 6, 0, 0)
def ob_i_X6_numbersOf : MethodName × ByteArray × Nat × Option FieldType × Nat × Nat × Nat := (⟨"OrganBarrel$Text", "numbersOf", "(I)I"⟩, prog_8_method_13_code, 1, (some .int), 6, 0, 1)
def ob_i_X7_init : MethodName × ByteArray × Nat × Option FieldType × Nat × Nat × Nat := (⟨"OrganBarrel", "<init>", "()V"⟩, prog_1_method_1_code, 2, none, 7, 4, 0)
def ob_i_X7_barrel : MethodName × ByteArray × Nat × Option FieldType × Nat × Nat × Nat := (⟨"OrganBarrel", "barrel", "(III)I"⟩, prog_1_method_2_code, 4, (some .int), 7, 5, 0)
def ob_i_X7_sets : MethodName × ByteArray × Nat × Option FieldType × Nat × Nat × Nat := (⟨"OrganBarrel", "sets", "(II)I"⟩, prog_1_method_3_code, 3, (some .int), 7, 5, 0)
def ob_i_X7_gap : MethodName × ByteArray × Nat × Option FieldType × Nat × Nat × Nat := (⟨"OrganBarrel", "gap", "(II)I"⟩, prog_1_method_4_code, 3, (some .int), 7, 5, 0)
def ob_i_X7_side : MethodName × ByteArray × Nat × Option FieldType × Nat × Nat × Nat := (⟨"OrganBarrel", "side", "(I)I"⟩, prog_1_method_5_code, 2, (some .int), 7, 5, 0)
def ob_i_X7_ticks : MethodName × ByteArray × Nat × Option FieldType × Nat × Nat × Nat := (⟨"OrganBarrel", "ticks", "(II)I"⟩, prog_1_method_6_code, 3, (some .int), 7, 5, 0)
def ob_i_X7_note : MethodName × ByteArray × Nat × Option FieldType × Nat × Nat × Nat := (⟨"OrganBarrel", "note", "(IIII)I"⟩, prog_1_method_7_code, 5, (some .int), 7, 5, 0)
def ob_i_X7_drop : MethodName × ByteArray × Nat × Option FieldType × Nat × Nat × Nat := (⟨"OrganBarrel", "drop", "(II)I"⟩, prog_1_method_8_code, 3, (some .int), 7, 5, 0)
def ob_i_X7_shift : MethodName × ByteArray × Nat × Option FieldType × Nat × Nat × Nat := (⟨"OrganBarrel", "shift", "(II)I"⟩, prog_1_method_9_code, 3, (some .int), 7, 5, 0)
def ob_i_X7_tune : MethodName × ByteArray × Nat × Option FieldType × Nat × Nat × Nat := (⟨"OrganBarrel", "tune", "(II)I"⟩, prog_1_method_10_code, 3, (some .int), 7, 2, 0)
def ob_i_X7_noteOf : MethodName × ByteArray × Nat × Option FieldType × Nat × Nat × Nat := (⟨"OrganBarrel", "noteOf", "(III)I"⟩, prog_1_method_11_code, 4, (some .int), 7, 3, 0)
def ob_i_X7_pins : MethodName × ByteArray × Nat × Option FieldType × Nat × Nat × Nat := (⟨"OrganBarrel", "pins", "(I)I"⟩, prog_1_method_12_code, 2, (some .int), 7, 5, 0)
def ob_i_X7_off : MethodName × ByteArray × Nat × Option FieldType × Nat × Nat × Nat := (⟨"OrganBarrel", "off", "(I)I"⟩, prog_1_method_13_code, 2, (some .int), 7, 5, 0)
def ob_i_X7_fits : MethodName × ByteArray × Nat × Option FieldType × Nat × Nat × Nat := (⟨"OrganBarrel", "fits", "(I)I"⟩, prog_1_method_14_code, 2, (some .int), 7, 5, 0)
def ob_i_X7_settles : MethodName × ByteArray × Nat × Option FieldType × Nat × Nat × Nat := (⟨"OrganBarrel", "settles", "()I"⟩, prog_1_method_15_code, 1, (some .int), 7, 5, 0)
def ob_i_X7_pin : MethodName × ByteArray × Nat × Option FieldType × Nat × Nat × Nat := (⟨"OrganBarrel", "pin", "(III)I"⟩, prog_1_method_16_code, 4, (some .int), 7, 4, 0)
def ob_i_X7_why : MethodName × ByteArray × Nat × Option FieldType × Nat × Nat × Nat := (⟨"OrganBarrel", "why", "(I)I"⟩, prog_1_method_17_code, 2, (some .int), 7, 1, 0)
def ob_i_X7_all : MethodName × ByteArray × Nat × Option FieldType × Nat × Nat × Nat := (⟨"OrganBarrel", "all", "(I)I"⟩, prog_1_method_18_code, 2, (some .int), 7, 5, 0)
def ob_i_X7_bridge : MethodName × ByteArray × Nat × Option FieldType × Nat × Nat × Nat := (⟨"OrganBarrel", "bridge", "(II)I"⟩, prog_1_method_19_code, 3, (some .int), 7, 3, 0)
def ob_i_X7_free : MethodName × ByteArray × Nat × Option FieldType × Nat × Nat × Nat := (⟨"OrganBarrel", "free", "(I)I"⟩, prog_1_method_20_code, 2, (some .int), 7, 3, 0)
def ob_i_X7_plays : MethodName × ByteArray × Nat × Option FieldType × Nat × Nat × Nat := (⟨"OrganBarrel", "plays", "(II)I"⟩, prog_1_method_21_code, 3, (some .int), 7, 5, 0)
def ob_i_X7_mends : MethodName × ByteArray × Nat × Option FieldType × Nat × Nat × Nat := (⟨"OrganBarrel", "mends", "(I)I"⟩, prog_1_method_22_code, 2, (some .int), 7, 5, 0)
def ob_i_X7_heard : MethodName × ByteArray × Nat × Option FieldType × Nat × Nat × Nat := (⟨"OrganBarrel", "heard", "(II)I"⟩, prog_1_method_23_code, 3, (some .int), 7, 3, 0)
def ob_i_X7_tells : MethodName × ByteArray × Nat × Option FieldType × Nat × Nat × Nat := (⟨"OrganBarrel", "tells", "(II)I"⟩, prog_1_method_24_code, 4, (some .int), 7, 3, 0)
def ob_i_X7_wrong : MethodName × ByteArray × Nat × Option FieldType × Nat × Nat × Nat := (⟨"OrganBarrel", "wrong", "(I)I"⟩, prog_1_method_25_code, 2, (some .int), 7, 4, 0)
def ob_i_X7_type : MethodName × ByteArray × Nat × Option FieldType × Nat × Nat × Nat := (⟨"OrganBarrel", "type", "(I)I"⟩, prog_1_method_26_code, 2, (some .int), 7, 1, 0)
def ob_i_X7_clear : MethodName × ByteArray × Nat × Option FieldType × Nat × Nat × Nat := (⟨"OrganBarrel", "clear", "()I"⟩, prog_1_method_27_code, 2, (some .int), 7, 0, 0)
def ob_i_X7_reads : MethodName × ByteArray × Nat × Option FieldType × Nat × Nat × Nat := (⟨"OrganBarrel", "reads", "()I"⟩, prog_1_method_28_code, 4, (some .int), 7, 6, 0)
def ob_i_X7_back : MethodName × ByteArray × Nat × Option FieldType × Nat × Nat × Nat := (⟨"OrganBarrel", "back", "()I"⟩, prog_1_method_29_code, 2, (some .int), 7, 1, 0)
def ob_i_X7_told : MethodName × ByteArray × Nat × Option FieldType × Nat × Nat × Nat := (⟨"OrganBarrel", "told", "(I)I"⟩, prog_1_method_30_code, 2, (some .int), 7, 1, 0)
def ob_i_X7_digest : MethodName × ByteArray × Nat × Option FieldType × Nat × Nat × Nat := (⟨"OrganBarrel", "digest", "()J"⟩, prog_1_method_31_code, 5, (some .long), 7, 5, 0)
def ob_i_X7_digestOfTune : MethodName × ByteArray × Nat × Option FieldType × Nat × Nat × Nat := (⟨"OrganBarrel", "digestOfTune", "(JI)J"⟩, prog_1_method_32_code, 8, (some .long), 7, 2, 0)
def ob_i_X7_remember : MethodName × ByteArray × Nat × Option FieldType × Nat × Nat × Nat := (⟨"OrganBarrel", "remember", "()V"⟩, prog_1_method_33_code, 1, none, 7, 4, 0)
def ob_i_X7_changed : MethodName × ByteArray × Nat × Option FieldType × Nat × Nat × Nat := (⟨"OrganBarrel", "changed", "(I)I"⟩, prog_1_method_34_code, 2, (some .int), 7, 1, 0)
def ob_i_X7_refused : MethodName × ByteArray × Nat × Option FieldType × Nat × Nat × Nat := (⟨"OrganBarrel", "refused", "(I)I"⟩, prog_1_method_35_code, 2, (some .int), 7, 0, 0)
def ob_i_X7_keepSpare : MethodName × ByteArray × Nat × Option FieldType × Nat × Nat × Nat := (⟨"OrganBarrel", "keepSpare", "()V"⟩, prog_1_method_36_code, 3, none, 7, 0, 0)
def ob_i_X7_toldValue : MethodName × ByteArray × Nat × Option FieldType × Nat × Nat × Nat := (⟨"OrganBarrel", "toldValue", "(I)I"⟩, prog_1_method_37_code, 2, (some .int), 7, 0, 0)
def ob_i_X7_pinValue : MethodName × ByteArray × Nat × Option FieldType × Nat × Nat × Nat := (⟨"OrganBarrel", "pinValue", "(III)I"⟩, prog_1_method_38_code, 5, (some .int), 7, 3, 0)
def ob_i_X7_allValue : MethodName × ByteArray × Nat × Option FieldType × Nat × Nat × Nat := (⟨"OrganBarrel", "allValue", "(I)I"⟩, prog_1_method_39_code, 2, (some .int), 7, 4, 0)
def ob_i_X7_goRound : MethodName × ByteArray × Nat × Option FieldType × Nat × Nat × Nat := (⟨"OrganBarrel", "goRound", "(II)I"⟩, prog_1_method_40_code, 6, (some .int), 7, 3, 0)
def ob_i_X7_mendBridge : MethodName × ByteArray × Nat × Option FieldType × Nat × Nat × Nat := (⟨"OrganBarrel", "mendBridge", "(I)I"⟩, prog_1_method_41_code, 5, (some .int), 7, 3, 0)
def ob_i_X7_keysHeard : MethodName × ByteArray × Nat × Option FieldType × Nat × Nat × Nat := (⟨"OrganBarrel", "keysHeard", "(II)I"⟩, prog_1_method_42_code, 7, (some .int), 7, 2, 0)
def ob_i_X7_wrongTicks : MethodName × ByteArray × Nat × Option FieldType × Nat × Nat × Nat := (⟨"OrganBarrel", "wrongTicks", "(I)I"⟩, prog_1_method_43_code, 5, (some .int), 7, 3, 0)
def ob_i_X7_obey : MethodName × ByteArray × Nat × Option FieldType × Nat × Nat × Nat := (⟨"OrganBarrel", "obey", "(I)I"⟩, prog_1_method_44_code, 4, (some .int), 7, 5, 0)
def ob_i_X7_obeyTicks : MethodName × ByteArray × Nat × Option FieldType × Nat × Nat × Nat := (⟨"OrganBarrel", "obeyTicks", "(III)I"⟩, prog_1_method_45_code, 7, (some .int), 7, 3, 0)
def ob_i_X7_blame : MethodName × ByteArray × Nat × Option FieldType × Nat × Nat × Nat := (⟨"OrganBarrel", "blame", "(II)V"⟩, prog_1_method_46_code, 4, none, 7, 1, 0)
def ob_i_X7_within : MethodName × ByteArray × Nat × Option FieldType × Nat × Nat × Nat := (⟨"OrganBarrel", "within", "(III)Z"⟩, prog_1_method_47_code, 3, (some .boolean), 7, 0, 1)
def ob_i_X7_angle : MethodName × ByteArray × Nat × Option FieldType × Nat × Nat × Nat := (⟨"OrganBarrel", "angle", "(IIII)I"⟩, prog_1_method_48_code, 4, (some .int), 7, 0, 1)
def ob_i_X7_round : MethodName × ByteArray × Nat × Option FieldType × Nat × Nat × Nat := (⟨"OrganBarrel", "round", "(II)I"⟩, prog_1_method_49_code, 2, (some .int), 7, 0, 1)
def ob_i_X7_distance : MethodName × ByteArray × Nat × Option FieldType × Nat × Nat × Nat := (⟨"OrganBarrel", "distance", "(III)I"⟩, prog_1_method_50_code, 3, (some .int), 7, 0, 1)
def ob_i_X7_longestFree : MethodName × ByteArray × Nat × Option FieldType × Nat × Nat × Nat := (⟨"OrganBarrel", "longestFree", "(II)I"⟩, prog_1_method_51_code, 5, (some .int), 7, 1, 1)
def ob_i_X8_init : MethodName × ByteArray × Nat × Option FieldType × Nat × Nat × Nat := (⟨"OrganBarrelModel", "<init>", "()V"⟩, prog_10_method_1_code, 1, none, 8, 1, 0)
def ob_i_X8_in : MethodName × ByteArray × Nat × Option FieldType × Nat × Nat × Nat := (⟨"OrganBarrelModel", "in", "(JJJ)Z"⟩, prog_10_method_3_code, 6, (some .boolean), 8, 0, 1)
def ob_i_X8_refuses : MethodName × ByteArray × Nat × Option FieldType × Nat × Nat × Nat := (⟨"OrganBarrelModel", "refuses", "(I)I"⟩, prog_10_method_4_code, 2, (some .int), 8, 0, 0)
def ob_i_X8_keep : MethodName × ByteArray × Nat × Option FieldType × Nat × Nat × Nat := (⟨"OrganBarrelModel", "keep", "()V"⟩, prog_10_method_5_code, 2, none, 8, 0, 0)
def ob_i_X8_begins : MethodName × ByteArray × Nat × Option FieldType × Nat × Nat × Nat := (⟨"OrganBarrelModel", "begins", "(III)V"⟩, prog_10_method_6_code, 5, none, 8, 0, 0)
def ob_i_X8_round : MethodName × ByteArray × Nat × Option FieldType × Nat × Nat × Nat := (⟨"OrganBarrelModel", "round", "()I"⟩, prog_10_method_7_code, 1, (some .int), 8, 0, 0)
def ob_i_X8_tunes : MethodName × ByteArray × Nat × Option FieldType × Nat × Nat × Nat := (⟨"OrganBarrelModel", "tunes", "()I"⟩, prog_10_method_8_code, 1, (some .int), 8, 0, 0)
def ob_i_X8_isTune : MethodName × ByteArray × Nat × Option FieldType × Nat × Nat × Nat := (⟨"OrganBarrelModel", "isTune", "(I)Z"⟩, prog_10_method_9_code, 2, (some .boolean), 8, 1, 0)
def ob_i_X8_isKey : MethodName × ByteArray × Nat × Option FieldType × Nat × Nat × Nat := (⟨"OrganBarrelModel", "isKey", "(I)Z"⟩, prog_10_method_10_code, 2, (some .boolean), 8, 1, 0)
def ob_i_X8_of : MethodName × ByteArray × Nat × Option FieldType × Nat × Nat × Nat := (⟨"OrganBarrelModel", "of", "(II)I"⟩, prog_10_method_11_code, 3, (some .int), 8, 0, 0)
def ob_i_X8_set : MethodName × ByteArray × Nat × Option FieldType × Nat × Nat × Nat := (⟨"OrganBarrelModel", "set", "(III)V"⟩, prog_10_method_12_code, 4, none, 8, 0, 0)
def ob_i_X8_isPinned : MethodName × ByteArray × Nat × Option FieldType × Nat × Nat × Nat := (⟨"OrganBarrelModel", "isPinned", "(I)Z"⟩, prog_10_method_13_code, 2, (some .boolean), 8, 1, 0)
def ob_i_X8_from : MethodName × ByteArray × Nat × Option FieldType × Nat × Nat × Nat := (⟨"OrganBarrelModel", "from", "(II)I"⟩, prog_10_method_14_code, 4, (some .int), 8, 1, 0)
def ob_i_X8_angle : MethodName × ByteArray × Nat × Option FieldType × Nat × Nat × Nat := (⟨"OrganBarrelModel", "angle", "(III)I"⟩, prog_10_method_15_code, 5, (some .int), 8, 1, 0)
def ob_i_X8_angleNow : MethodName × ByteArray × Nat × Option FieldType × Nat × Nat × Nat := (⟨"OrganBarrelModel", "angleNow", "(II)I"⟩, prog_10_method_16_code, 3, (some .int), 8, 2, 0)
def ob_i_X8_key : MethodName × ByteArray × Nat × Option FieldType × Nat × Nat × Nat := (⟨"OrganBarrelModel", "key", "(II)I"⟩, prog_10_method_17_code, 3, (some .int), 8, 1, 0)
def ob_i_X8_start : MethodName × ByteArray × Nat × Option FieldType × Nat × Nat × Nat := (⟨"OrganBarrelModel", "start", "(II)I"⟩, prog_10_method_18_code, 3, (some .int), 8, 1, 0)
def ob_i_X8_length : MethodName × ByteArray × Nat × Option FieldType × Nat × Nat × Nat := (⟨"OrganBarrelModel", "length", "(II)I"⟩, prog_10_method_19_code, 3, (some .int), 8, 1, 0)
def ob_i_X8_begin : MethodName × ByteArray × Nat × Option FieldType × Nat × Nat × Nat := (⟨"OrganBarrelModel", "begin", "(III)I"⟩, prog_10_method_20_code, 4, (some .int), 8, 3, 0)
def ob_i_X8_hold : MethodName × ByteArray × Nat × Option FieldType × Nat × Nat × Nat := (⟨"OrganBarrelModel", "hold", "(II)I"⟩, prog_10_method_21_code, 3, (some .int), 8, 3, 0)
def ob_i_X8_track : MethodName × ByteArray × Nat × Option FieldType × Nat × Nat × Nat := (⟨"OrganBarrelModel", "track", "(II)I"⟩, prog_10_method_22_code, 3, (some .int), 8, 1, 0)
def ob_i_X8_barrel : MethodName × ByteArray × Nat × Option FieldType × Nat × Nat × Nat := (⟨"OrganBarrelModel", "barrel", "(III)I"⟩, prog_10_method_23_code, 5, (some .int), 8, 1, 0)
def ob_i_X8_setNow : MethodName × ByteArray × Nat × Option FieldType × Nat × Nat × Nat := (⟨"OrganBarrelModel", "setNow", "(II)I"⟩, prog_10_method_24_code, 4, (some .int), 8, 0, 0)
def ob_i_X8_sets : MethodName × ByteArray × Nat × Option FieldType × Nat × Nat × Nat := (⟨"OrganBarrelModel", "sets", "(II)I"⟩, prog_10_method_25_code, 3, (some .int), 8, 1, 0)
def ob_i_X8_canGap : MethodName × ByteArray × Nat × Option FieldType × Nat × Nat × Nat := (⟨"OrganBarrelModel", "canGap", "(II)I"⟩, prog_10_method_26_code, 3, (some .int), 8, 2, 0)
def ob_i_X8_gap : MethodName × ByteArray × Nat × Option FieldType × Nat × Nat × Nat := (⟨"OrganBarrelModel", "gap", "(II)I"⟩, prog_10_method_27_code, 3, (some .int), 8, 3, 0)
def ob_i_X8_canSide : MethodName × ByteArray × Nat × Option FieldType × Nat × Nat × Nat := (⟨"OrganBarrelModel", "canSide", "(I)I"⟩, prog_10_method_28_code, 2, (some .int), 8, 1, 0)
def ob_i_X8_side : MethodName × ByteArray × Nat × Option FieldType × Nat × Nat × Nat := (⟨"OrganBarrelModel", "side", "(I)I"⟩, prog_10_method_29_code, 2, (some .int), 8, 2, 0)
def ob_i_X8_canTicks : MethodName × ByteArray × Nat × Option FieldType × Nat × Nat × Nat := (⟨"OrganBarrelModel", "canTicks", "(II)I"⟩, prog_10_method_30_code, 3, (some .int), 8, 2, 0)
def ob_i_X8_ticksNow : MethodName × ByteArray × Nat × Option FieldType × Nat × Nat × Nat := (⟨"OrganBarrelModel", "ticksNow", "(II)I"⟩, prog_10_method_31_code, 4, (some .int), 8, 1, 0)
def ob_i_X8_ticks : MethodName × ByteArray × Nat × Option FieldType × Nat × Nat × Nat := (⟨"OrganBarrelModel", "ticks", "(II)I"⟩, prog_10_method_32_code, 3, (some .int), 8, 3, 0)
def ob_i_X8_canNote : MethodName × ByteArray × Nat × Option FieldType × Nat × Nat × Nat := (⟨"OrganBarrelModel", "canNote", "(IIII)I"⟩, prog_10_method_33_code, 6, (some .int), 8, 2, 0)
def ob_i_X8_noteNow : MethodName × ByteArray × Nat × Option FieldType × Nat × Nat × Nat := (⟨"OrganBarrelModel", "noteNow", "(IIII)I"⟩, prog_10_method_34_code, 6, (some .int), 8, 1, 0)
def ob_i_X8_note : MethodName × ByteArray × Nat × Option FieldType × Nat × Nat × Nat := (⟨"OrganBarrelModel", "note", "(IIII)I"⟩, prog_10_method_35_code, 6, (some .int), 8, 3, 0)
def ob_i_X8_isNote : MethodName × ByteArray × Nat × Option FieldType × Nat × Nat × Nat := (⟨"OrganBarrelModel", "isNote", "(II)Z"⟩, prog_10_method_36_code, 3, (some .boolean), 8, 2, 0)
def ob_i_X8_drop : MethodName × ByteArray × Nat × Option FieldType × Nat × Nat × Nat := (⟨"OrganBarrelModel", "drop", "(II)I"⟩, prog_10_method_37_code, 4, (some .int), 8, 3, 0)
def ob_i_X8_canShift : MethodName × ByteArray × Nat × Option FieldType × Nat × Nat × Nat := (⟨"OrganBarrelModel", "canShift", "(II)I"⟩, prog_10_method_38_code, 3, (some .int), 8, 2, 0)
def ob_i_X8_shiftNow : MethodName × ByteArray × Nat × Option FieldType × Nat × Nat × Nat := (⟨"OrganBarrelModel", "shiftNow", "(II)I"⟩, prog_10_method_39_code, 4, (some .int), 8, 1, 0)
def ob_i_X8_shift : MethodName × ByteArray × Nat × Option FieldType × Nat × Nat × Nat := (⟨"OrganBarrelModel", "shift", "(II)I"⟩, prog_10_method_40_code, 3, (some .int), 8, 3, 0)
def ob_i_X8_tuneNow : MethodName × ByteArray × Nat × Option FieldType × Nat × Nat × Nat := (⟨"OrganBarrelModel", "tuneNow", "(II)I"⟩, prog_10_method_41_code, 3, (some .int), 8, 2, 0)
def ob_i_X8_tune : MethodName × ByteArray × Nat × Option FieldType × Nat × Nat × Nat := (⟨"OrganBarrelModel", "tune", "(II)I"⟩, prog_10_method_42_code, 3, (some .int), 8, 3, 0)
def ob_i_X8_noteTold : MethodName × ByteArray × Nat × Option FieldType × Nat × Nat × Nat := (⟨"OrganBarrelModel", "noteTold", "(III)I"⟩, prog_10_method_43_code, 4, (some .int), 8, 4, 0)
def ob_i_X8_noteOf : MethodName × ByteArray × Nat × Option FieldType × Nat × Nat × Nat := (⟨"OrganBarrelModel", "noteOf", "(III)I"⟩, prog_10_method_44_code, 4, (some .int), 8, 5, 0)
def ob_i_X8_because : MethodName × ByteArray × Nat × Option FieldType × Nat × Nat × Nat := (⟨"OrganBarrelModel", "because", "(III)I"⟩, prog_10_method_45_code, 4, (some .int), 8, 0, 0)
def ob_i_X8_freeBehind : MethodName × ByteArray × Nat × Option FieldType × Nat × Nat × Nat := (⟨"OrganBarrelModel", "freeBehind", "(II)I"⟩, prog_10_method_46_code, 6, (some .int), 8, 4, 0)
def ob_i_X8_isWide : MethodName × ByteArray × Nat × Option FieldType × Nat × Nat × Nat := (⟨"OrganBarrelModel", "isWide", "(I)Z"⟩, prog_10_method_47_code, 4, (some .boolean), 8, 5, 0)
def ob_i_X8_isBeside : MethodName × ByteArray × Nat × Option FieldType × Nat × Nat × Nat := (⟨"OrganBarrelModel", "isBeside", "(IIII)Z"⟩, prog_10_method_48_code, 5, (some .boolean), 8, 2, 0)
def ob_i_X8_areNeighbours : MethodName × ByteArray × Nat × Option FieldType × Nat × Nat × Nat := (⟨"OrganBarrelModel", "areNeighbours", "(II)Z"⟩, prog_10_method_49_code, 2, (some .boolean), 8, 0, 1)
def ob_i_X8_pinOf : MethodName × ByteArray × Nat × Option FieldType × Nat × Nat × Nat := (⟨"OrganBarrelModel", "pinOf", "(III)I"⟩, prog_10_method_50_code, 4, (some .int), 8, 1, 0)
def ob_i_X8_strange : MethodName × ByteArray × Nat × Option FieldType × Nat × Nat × Nat := (⟨"OrganBarrelModel", "strange", "(IIII)I"⟩, prog_10_method_51_code, 7, (some .int), 8, 4, 0)
def ob_i_X8_isFree : MethodName × ByteArray × Nat × Option FieldType × Nat × Nat × Nat := (⟨"OrganBarrelModel", "isFree", "(II)Z"⟩, prog_10_method_52_code, 7, (some .boolean), 8, 5, 0)
def ob_i_X8_canPin : MethodName × ByteArray × Nat × Option FieldType × Nat × Nat × Nat := (⟨"OrganBarrelModel", "canPin", "(I)I"⟩, prog_10_method_53_code, 2, (some .int), 8, 6, 0)
def ob_i_X8_pinNow : MethodName × ByteArray × Nat × Option FieldType × Nat × Nat × Nat := (⟨"OrganBarrelModel", "pinNow", "(I)I"⟩, prog_10_method_54_code, 4, (some .int), 8, 4, 0)
def ob_i_X8_blames : MethodName × ByteArray × Nat × Option FieldType × Nat × Nat × Nat := (⟨"OrganBarrelModel", "blames", "(II)V"⟩, prog_10_method_55_code, 3, none, 8, 0, 0)
def ob_i_X8_pins : MethodName × ByteArray × Nat × Option FieldType × Nat × Nat × Nat := (⟨"OrganBarrelModel", "pins", "(I)I"⟩, prog_10_method_56_code, 3, (some .int), 8, 7, 0)
def ob_i_X8_canOff : MethodName × ByteArray × Nat × Option FieldType × Nat × Nat × Nat := (⟨"OrganBarrelModel", "canOff", "(I)I"⟩, prog_10_method_57_code, 2, (some .int), 8, 2, 0)
def ob_i_X8_offNow : MethodName × ByteArray × Nat × Option FieldType × Nat × Nat × Nat := (⟨"OrganBarrelModel", "offNow", "(I)I"⟩, prog_10_method_58_code, 4, (some .int), 8, 1, 0)
def ob_i_X8_off : MethodName × ByteArray × Nat × Option FieldType × Nat × Nat × Nat := (⟨"OrganBarrelModel", "off", "(I)I"⟩, prog_10_method_59_code, 3, (some .int), 8, 3, 0)
def ob_i_X8_fits : MethodName × ByteArray × Nat × Option FieldType × Nat × Nat × Nat := (⟨"OrganBarrelModel", "fits", "(I)I"⟩, prog_10_method_60_code, 3, (some .int), 8, 6, 0)
def ob_i_X8_areBeside : MethodName × ByteArray × Nat × Option FieldType × Nat × Nat × Nat := (⟨"OrganBarrelModel", "areBeside", "(III)Z"⟩, prog_10_method_61_code, 8, (some .boolean), 8, 4, 0)
def ob_i_X8_triesAll : MethodName × ByteArray × Nat × Option FieldType × Nat × Nat × Nat := (⟨"OrganBarrelModel", "triesAll", "()V"⟩, prog_10_method_62_code, 2, none, 8, 5, 0)
def ob_i_X8_shifts : MethodName × ByteArray × Nat × Option FieldType × Nat × Nat × Nat := (⟨"OrganBarrelModel", "shifts", "(I)I"⟩, prog_10_method_63_code, 2, (some .int), 8, 1, 0)
def ob_i_X8_settled : MethodName × ByteArray × Nat × Option FieldType × Nat × Nat × Nat := (⟨"OrganBarrelModel", "settled", "()I"⟩, prog_10_method_64_code, 6, (some .int), 8, 6, 0)
def ob_i_X8_canSettle : MethodName × ByteArray × Nat × Option FieldType × Nat × Nat × Nat := (⟨"OrganBarrelModel", "canSettle", "()I"⟩, prog_10_method_65_code, 3, (some .int), 8, 7, 0)
def ob_i_X8_settles : MethodName × ByteArray × Nat × Option FieldType × Nat × Nat × Nat := (⟨"OrganBarrelModel", "settles", "()I"⟩, prog_10_method_66_code, 4, (some .int), 8, 8, 0)
def ob_i_X8_pinAt : MethodName × ByteArray × Nat × Option FieldType × Nat × Nat × Nat := (⟨"OrganBarrelModel", "pinAt", "(II)I"⟩, prog_10_method_67_code, 3, (some .int), 8, 2, 0)
def ob_i_X8_found : MethodName × ByteArray × Nat × Option FieldType × Nat × Nat × Nat := (⟨"OrganBarrelModel", "found", "(II)I"⟩, prog_10_method_68_code, 5, (some .int), 8, 3, 0)
def ob_i_X8_laysPins : MethodName × ByteArray × Nat × Option FieldType × Nat × Nat × Nat := (⟨"OrganBarrelModel", "laysPins", "()V"⟩, prog_10_method_69_code, 3, none, 8, 2, 0)
def ob_i_X8_tracks : MethodName × ByteArray × Nat × Option FieldType × Nat × Nat × Nat := (⟨"OrganBarrelModel", "tracks", "()I"⟩, prog_10_method_70_code, 1, (some .int), 8, 1, 0)
def ob_i_X8_laysBridges : MethodName × ByteArray × Nat × Option FieldType × Nat × Nat × Nat := (⟨"OrganBarrelModel", "laysBridges", "()V"⟩, prog_10_method_71_code, 6, none, 8, 4, 0)
def ob_i_X8_isWorn : MethodName × ByteArray × Nat × Option FieldType × Nat × Nat × Nat := (⟨"OrganBarrelModel", "isWorn", "(I)Z"⟩, prog_10_method_72_code, 2, (some .boolean), 8, 0, 0)
def ob_i_X8_dumb : MethodName × ByteArray × Nat × Option FieldType × Nat × Nat × Nat := (⟨"OrganBarrelModel", "dumb", "(I)I"⟩, prog_10_method_73_code, 3, (some .int), 8, 0, 0)
def ob_i_X8_indexOf : MethodName × ByteArray × Nat × Option FieldType × Nat × Nat × Nat := (⟨"OrganBarrelModel", "indexOf", "(II)I"⟩, prog_10_method_74_code, 5, (some .int), 8, 0, 0)
def ob_i_X8_freeNow : MethodName × ByteArray × Nat × Option FieldType × Nat × Nat × Nat := (⟨"OrganBarrelModel", "freeNow", "(I)I"⟩, prog_10_method_75_code, 5, (some .int), 8, 3, 0)
def ob_i_X8_pin : MethodName × ByteArray × Nat × Option FieldType × Nat × Nat × Nat := (⟨"OrganBarrelModel", "pin", "(III)I"⟩, prog_10_method_76_code, 4, (some .int), 8, 5, 0)
def ob_i_X8_why : MethodName × ByteArray × Nat × Option FieldType × Nat × Nat × Nat := (⟨"OrganBarrelModel", "why", "(I)I"⟩, prog_10_method_77_code, 2, (some .int), 8, 1, 0)
def ob_i_X8_longest : MethodName × ByteArray × Nat × Option FieldType × Nat × Nat × Nat := (⟨"OrganBarrelModel", "longest", "(I)I"⟩, prog_10_method_78_code, 7, (some .int), 8, 3, 0)
def ob_i_X8_pinnedSet : MethodName × ByteArray × Nat × Option FieldType × Nat × Nat × Nat := (⟨"OrganBarrelModel", "pinnedSet", "()I"⟩, prog_10_method_79_code, 3, (some .int), 8, 2, 0)
def ob_i_X8_emptyTracks : MethodName × ByteArray × Nat × Option FieldType × Nat × Nat × Nat := (⟨"OrganBarrelModel", "emptyTracks", "()I"⟩, prog_10_method_80_code, 5, (some .int), 8, 2, 0)
def ob_i_X8_allNow : MethodName × ByteArray × Nat × Option FieldType × Nat × Nat × Nat := (⟨"OrganBarrelModel", "allNow", "(I)I"⟩, prog_10_method_81_code, 5, (some .int), 8, 5, 0)
def ob_i_X8_all : MethodName × ByteArray × Nat × Option FieldType × Nat × Nat × Nat := (⟨"OrganBarrelModel", "all", "(I)I"⟩, prog_10_method_82_code, 2, (some .int), 8, 6, 0)
def ob_i_X8_bridgeNow : MethodName × ByteArray × Nat × Option FieldType × Nat × Nat × Nat := (⟨"OrganBarrelModel", "bridgeNow", "(II)I"⟩, prog_10_method_83_code, 3, (some .int), 8, 1, 0)
def ob_i_X8_bridge : MethodName × ByteArray × Nat × Option FieldType × Nat × Nat × Nat := (⟨"OrganBarrelModel", "bridge", "(II)I"⟩, prog_10_method_84_code, 3, (some .int), 8, 5, 0)
def ob_i_X8_free : MethodName × ByteArray × Nat × Option FieldType × Nat × Nat × Nat := (⟨"OrganBarrelModel", "free", "(I)I"⟩, prog_10_method_85_code, 2, (some .int), 8, 4, 0)
def ob_i_X8_plays : MethodName × ByteArray × Nat × Option FieldType × Nat × Nat × Nat := (⟨"OrganBarrelModel", "plays", "(II)I"⟩, prog_10_method_86_code, 7, (some .int), 8, 5, 0)
def ob_i_X8_mends : MethodName × ByteArray × Nat × Option FieldType × Nat × Nat × Nat := (⟨"OrganBarrelModel", "mends", "(I)I"⟩, prog_10_method_87_code, 4, (some .int), 8, 5, 0)
def ob_i_X8_heardNow : MethodName × ByteArray × Nat × Option FieldType × Nat × Nat × Nat := (⟨"OrganBarrelModel", "heardNow", "(II)I"⟩, prog_10_method_88_code, 6, (some .int), 8, 3, 0)
def ob_i_X8_heard : MethodName × ByteArray × Nat × Option FieldType × Nat × Nat × Nat := (⟨"OrganBarrelModel", "heard", "(II)I"⟩, prog_10_method_89_code, 3, (some .int), 8, 5, 0)
def ob_i_X8_toldAt : MethodName × ByteArray × Nat × Option FieldType × Nat × Nat × Nat := (⟨"OrganBarrelModel", "toldAt", "(II)I"⟩, prog_10_method_90_code, 3, (some .int), 8, 4, 0)
def ob_i_X8_tells : MethodName × ByteArray × Nat × Option FieldType × Nat × Nat × Nat := (⟨"OrganBarrelModel", "tells", "(II)I"⟩, prog_10_method_91_code, 3, (some .int), 8, 5, 0)
def ob_i_X8_wrong : MethodName × ByteArray × Nat × Option FieldType × Nat × Nat × Nat := (⟨"OrganBarrelModel", "wrong", "(I)I"⟩, prog_10_method_92_code, 7, (some .int), 8, 5, 0)
def ob_i_X8_type : MethodName × ByteArray × Nat × Option FieldType × Nat × Nat × Nat := (⟨"OrganBarrelModel", "type", "(I)I"⟩, prog_10_method_93_code, 2, (some .int), 8, 1, 0)
def ob_i_X8_clear : MethodName × ByteArray × Nat × Option FieldType × Nat × Nat × Nat := (⟨"OrganBarrelModel", "clear", "()I"⟩, prog_10_method_94_code, 2, (some .int), 8, 0, 0)
def ob_i_X8_here : MethodName × ByteArray × Nat × Option FieldType × Nat × Nat × Nat := (⟨"OrganBarrelModel", "here", "()I"⟩, prog_10_method_95_code, 1, (some .int), 8, 0, 0)
def ob_i_X8_isFigure : MethodName × ByteArray × Nat × Option FieldType × Nat × Nat × Nat := (⟨"OrganBarrelModel", "isFigure", "(I)Z"⟩, prog_10_method_96_code, 2, (some .boolean), 8, 1, 0)
def ob_i_X8_takes : MethodName × ByteArray × Nat × Option FieldType × Nat × Nat × Nat := (⟨"OrganBarrelModel", "takes", "(I)Z"⟩, prog_10_method_97_code, 5, (some .boolean), 8, 2, 0)
def ob_i_X8_does : MethodName × ByteArray × Nat × Option FieldType × Nat × Nat × Nat := (⟨"OrganBarrelModel", "does", "(III)V"⟩, prog_10_method_98_code, 6, none, 8, 7, 0)
def ob_i_X8_readsNotes : MethodName × ByteArray × Nat × Option FieldType × Nat × Nat × Nat := (⟨"OrganBarrelModel", "readsNotes", "(IZ)Z"⟩, prog_10_method_99_code, 5, (some .boolean), 8, 3, 0)
def ob_i_X8_readsOrder : MethodName × ByteArray × Nat × Option FieldType × Nat × Nat × Nat := (⟨"OrganBarrelModel", "readsOrder", "(Z)Z"⟩, prog_10_method_100_code, 4, (some .boolean), 8, 8, 0)
def ob_i_X8_reads : MethodName × ByteArray × Nat × Option FieldType × Nat × Nat × Nat := (⟨"OrganBarrelModel", "reads", "()I"⟩, prog_10_method_101_code, 4, (some .int), 8, 9, 0)
def ob_i_X8_keepsAside : MethodName × ByteArray × Nat × Option FieldType × Nat × Nat × Nat := (⟨"OrganBarrelModel", "keepsAside", "()V"⟩, prog_10_method_102_code, 3, none, 8, 1, 0)
def ob_i_X8_back : MethodName × ByteArray × Nat × Option FieldType × Nat × Nat × Nat := (⟨"OrganBarrelModel", "back", "()I"⟩, prog_10_method_103_code, 2, (some .int), 8, 1, 0)
def ob_i_X8_toldOf : MethodName × ByteArray × Nat × Option FieldType × Nat × Nat × Nat := (⟨"OrganBarrelModel", "toldOf", "(I)I"⟩, prog_10_method_104_code, 2, (some .int), 8, 0, 0)
def ob_i_X8_told : MethodName × ByteArray × Nat × Option FieldType × Nat × Nat × Nat := (⟨"OrganBarrelModel", "told", "(I)I"⟩, prog_10_method_105_code, 2, (some .int), 8, 1, 0)
def ob_i_X8_digest : MethodName × ByteArray × Nat × Option FieldType × Nat × Nat × Nat := (⟨"OrganBarrelModel", "digest", "()J"⟩, prog_10_method_106_code, 5, (some .long), 8, 6, 0)
def ob_i_L_law : MethodName × ByteArray × Nat × Option FieldType × Nat × Nat × Nat := (⟨"OrganBarrelLaw", "law", "([I)Z"⟩, code, 4, (some .boolean), 9, 10, 1)
def ob_i_J7_fill_53178 : MethodName × ByteArray × Nat × Option FieldType × Nat × Nat × Nat := (⟨"java/util/Arrays", "fill", "([II)V"⟩, prog_13_method_103_code, 4, none, 10, 0, 1)
def ob_infs : List (List (MethodName × ByteArray × Nat × Option FieldType × Nat × Nat × Nat)) := [[ob_i_X0_init, ob_i_X0_begin, ob_i_X0_copyFrom, ob_i_X0_hasTune, ob_i_X0_hasKey, ob_i_X0_hasNote, ob_i_X0_tracks, ob_i_X0_track, ob_i_X0_build, ob_i_X0_adjust, ob_i_X0_setGap, ob_i_X0_setTicks, ob_i_X0_addNote, ob_i_X0_removeNote, ob_i_X0_setShift, ob_i_X0_takeOff],
  [ob_i_X0_tuneValue, ob_i_X0_noteValue, ob_i_X0_pinnedTunes, ob_i_X0_pinCount, ob_i_X0_emptyTracks, ob_i_X0_heldOn, ob_i_X0_heldOnAny, ob_i_X0_canBeBeside, ob_i_X1_init, ob_i_X1_find, ob_i_X1_placePins, ob_i_X1_join, ob_i_X1_numberOf, ob_i_X1_bears, ob_i_X1_countShared, ob_i_X1_countWorn],
  [ob_i_X1_lostAtEnd, ob_i_X1_value, ob_i_X2_init, ob_i_X2_tell, ob_i_X2_value, ob_i_X3_init, ob_i_X3_copyFrom, ob_i_X3_isTaken, ob_i_X3_add, ob_i_X3_remove, ob_i_X3_keysAt, ob_i_X4_init, ob_i_X4_putOn, ob_i_X4_isTooSoon, ob_i_X4_isTouching, ob_i_X4_firstTooSoon],
  [ob_i_X4_firstTouched, ob_i_X4_firstInTheWay, ob_i_X4_leastShift, ob_i_X4_isClear, ob_i_X4_settleAll, ob_i_X4_planAll, ob_i_X4_compareAll, ob_i_X4_place, ob_i_X4_canLieBeside, ob_i_X4_searchShifts, ob_i_X4_searchBehind, ob_i_X4_leastThird, ob_i_X4_shiftsToTry, ob_i_X4_pinAll, ob_i_X5_init, ob_i_X5_copyFrom],
  [ob_i_X5_lay, ob_i_X5_howMany, ob_i_X5_angleOfTick, ob_i_X5_freeBehind, ob_i_X5_held, ob_i_X6_init, ob_i_X6_append, ob_i_X6_numberCount, ob_i_X6_number, ob_i_X6_parse, ob_i_X6_isFigure, ob_i_X6_opensNumber, ob_i_X6_addFigure, ob_i_X6_takesMark, ob_i_X6_opensOrder, ob_i_X6_endOrder],
  [ob_i_X6_takesNotes, ob_i_X6_numbersOf, ob_i_X7_init, ob_i_X7_barrel, ob_i_X7_sets, ob_i_X7_gap, ob_i_X7_side, ob_i_X7_ticks, ob_i_X7_note, ob_i_X7_drop, ob_i_X7_shift, ob_i_X7_tune, ob_i_X7_noteOf, ob_i_X7_pins, ob_i_X7_off, ob_i_X7_fits],
  [ob_i_X7_settles, ob_i_X7_pin, ob_i_X7_why, ob_i_X7_all, ob_i_X7_bridge, ob_i_X7_free, ob_i_X7_plays, ob_i_X7_mends, ob_i_X7_heard, ob_i_X7_tells, ob_i_X7_wrong, ob_i_X7_type, ob_i_X7_clear, ob_i_X7_reads, ob_i_X7_back, ob_i_X7_told],
  [ob_i_X7_digest, ob_i_X7_digestOfTune, ob_i_X7_remember, ob_i_X7_changed, ob_i_X7_refused, ob_i_X7_keepSpare, ob_i_X7_toldValue, ob_i_X7_pinValue, ob_i_X7_allValue, ob_i_X7_goRound, ob_i_X7_mendBridge, ob_i_X7_keysHeard, ob_i_X7_wrongTicks, ob_i_X7_obey, ob_i_X7_obeyTicks, ob_i_X7_blame],
  [ob_i_X7_within, ob_i_X7_angle, ob_i_X7_round, ob_i_X7_distance, ob_i_X7_longestFree, ob_i_X8_init, ob_i_X8_in, ob_i_X8_refuses, ob_i_X8_keep, ob_i_X8_begins, ob_i_X8_round, ob_i_X8_tunes, ob_i_X8_isTune, ob_i_X8_isKey, ob_i_X8_of, ob_i_X8_set],
  [ob_i_X8_isPinned, ob_i_X8_from, ob_i_X8_angle, ob_i_X8_angleNow, ob_i_X8_key, ob_i_X8_start, ob_i_X8_length, ob_i_X8_begin, ob_i_X8_hold, ob_i_X8_track, ob_i_X8_barrel, ob_i_X8_setNow, ob_i_X8_sets, ob_i_X8_canGap, ob_i_X8_gap, ob_i_X8_canSide],
  [ob_i_X8_side, ob_i_X8_canTicks, ob_i_X8_ticksNow, ob_i_X8_ticks, ob_i_X8_canNote, ob_i_X8_noteNow, ob_i_X8_note, ob_i_X8_isNote, ob_i_X8_drop, ob_i_X8_canShift, ob_i_X8_shiftNow, ob_i_X8_shift, ob_i_X8_tuneNow, ob_i_X8_tune, ob_i_X8_noteTold, ob_i_X8_noteOf],
  [ob_i_X8_because, ob_i_X8_freeBehind, ob_i_X8_isWide, ob_i_X8_isBeside, ob_i_X8_areNeighbours, ob_i_X8_pinOf, ob_i_X8_strange, ob_i_X8_isFree, ob_i_X8_canPin, ob_i_X8_pinNow, ob_i_X8_blames, ob_i_X8_pins, ob_i_X8_canOff, ob_i_X8_offNow, ob_i_X8_off, ob_i_X8_fits],
  [ob_i_X8_areBeside, ob_i_X8_triesAll, ob_i_X8_shifts, ob_i_X8_settled, ob_i_X8_canSettle, ob_i_X8_settles, ob_i_X8_pinAt, ob_i_X8_found, ob_i_X8_laysPins, ob_i_X8_tracks, ob_i_X8_laysBridges, ob_i_X8_isWorn, ob_i_X8_dumb, ob_i_X8_indexOf, ob_i_X8_freeNow, ob_i_X8_pin],
  [ob_i_X8_why, ob_i_X8_longest, ob_i_X8_pinnedSet, ob_i_X8_emptyTracks, ob_i_X8_allNow, ob_i_X8_all, ob_i_X8_bridgeNow, ob_i_X8_bridge, ob_i_X8_free, ob_i_X8_plays, ob_i_X8_mends, ob_i_X8_heardNow, ob_i_X8_heard, ob_i_X8_toldAt, ob_i_X8_tells, ob_i_X8_wrong],
  [ob_i_X8_type, ob_i_X8_clear, ob_i_X8_here, ob_i_X8_isFigure, ob_i_X8_takes, ob_i_X8_does, ob_i_X8_readsNotes, ob_i_X8_readsOrder, ob_i_X8_reads, ob_i_X8_keepsAside, ob_i_X8_back, ob_i_X8_toldOf, ob_i_X8_told, ob_i_X8_digest, ob_i_L_law, ob_i_J7_fill_53178]]
-- kinds of arrays (from 16 on): length, element (0 int, 1 boolean, 2 byte, 3 reference), element kind + 1, mode
def ob_kt : List (Int × Nat × Nat × Nat) := [(0, 9, 0, 0), (0, 9, 0, 0), (0, 9, 0, 0), (0, 9, 0, 0), (0, 9, 0, 0), (0, 9, 0, 0), (0, 9, 0, 0), (0, 9, 0, 0), (0, 9, 0, 0), (0, 9, 0, 0), (0, 9, 0, 0), (0, 9, 0, 0), (0, 9, 0, 0), (0, 9, 0, 0), (0, 9, 0, 0), (0, 0, 0, 0), (6, 0, 0, 0), (3, 3, 4, 4), (3, 3, 6, 5), (36, 0, 0, 0), (36, 0, 0, 0), (36, 0, 0, 0), (36, 0, 0, 0), (36, 0, 0, 0), (36, 0, 0, 0), (432, 0, 0, 0), (12, 0, 0, 0), (12, 0, 0, 0), (12, 0, 0, 0), (3, 3, 6, 6), (216, 1, 0, 0), (3, 0, 0, 0), (12, 0, 0, 0), (12, 0, 0, 0), (12, 0, 0, 0), (120, 0, 0, 0), (120, 2, 0, 0), (121, 0, 0, 0), (120, 0, 0, 0), (5, 3, 1, 0), (360, 0, 0, 0), (1800, 0, 0, 0), (360, 0, 0, 0), (3, 0, 0, 0), (4, 0, 0, 0), (72, 1, 0, 0), (36, 0, 0, 0), (36, 0, 0, 0), (36, 0, 0, 0), (36, 0, 0, 0), (36, 0, 0, 0), (36, 0, 0, 0), (36, 0, 0, 0), (36, 0, 0, 0), (36, 0, 0, 0), (120, 0, 0, 0), (3, 0, 0, 0)]
-- fields: target kind + 1 (0: a number), mode, final
def ob_ft : List (List (Nat × Nat × Nat)) := [[(0, 0, 0), (0, 0, 0), (0, 0, 0), (0, 0, 0), (0, 0, 0), (0, 0, 0), (17, 1, 1), (18, 1, 1), (19, 1, 1)],
  [(0, 0, 0), (20, 3, 1), (21, 3, 1), (22, 3, 1), (23, 3, 1), (24, 3, 1), (25, 3, 1), (26, 3, 1)],
  [(0, 0, 0), (0, 0, 0), (0, 0, 0), (0, 0, 0)],
  [(0, 0, 0), (0, 0, 0), (0, 0, 0), (27, 1, 1), (28, 1, 1), (29, 1, 1)],
  [(30, 3, 1), (31, 3, 1), (32, 3, 1)],
  [(0, 0, 0), (0, 0, 0), (4, 2, 1), (33, 1, 1), (34, 1, 1), (35, 1, 1)],
  [(0, 0, 0), (0, 0, 0), (36, 3, 1), (37, 3, 1), (38, 3, 1), (39, 3, 1), (0, 0, 0), (0, 0, 0), (0, 0, 0), (0, 0, 0)],
  [(1, 0, 0), (1, 0, 0), (40, 3, 1), (0, 0, 0), (5, 3, 1), (2, 3, 1), (3, 3, 1), (7, 3, 1), (0, 0, 0), (0, 0, 0), (0, 0, 0)],
  [(41, 3, 1), (42, 3, 1), (43, 3, 1), (0, 0, 0), (44, 3, 1), (45, 3, 1), (0, 0, 0), (0, 0, 0), (0, 0, 0), (46, 3, 1), (47, 3, 1), (48, 3, 1), (49, 3, 1), (50, 3, 1), (0, 0, 0), (51, 3, 1), (52, 3, 1), (53, 3, 1), (54, 3, 1), (55, 3, 1), (0, 0, 0), (56, 3, 1), (0, 0, 0), (0, 0, 0), (57, 3, 1), (0, 0, 0)]]
def ob_lay : List (Nat × Int) := [(7, 0), (0, 0), (16, 0), (17, 0), (18, 0), (3, 0), (26, 0), (27, 0), (28, 0), (5, 0), (3, 1), (26, 1), (27, 1), (28, 1), (32, 0), (33, 0), (34, 0), (3, 2), (26, 2), (27, 2),
  (28, 2), (5, 1), (3, 3), (26, 3), (27, 3), (28, 3), (32, 1), (33, 1), (34, 1), (3, 4), (26, 4), (27, 4), (28, 4), (5, 2), (3, 5), (26, 5), (27, 5), (28, 5), (32, 2), (33, 2),
  (34, 2), (0, 1), (16, 1), (17, 1), (18, 1), (3, 6), (26, 6), (27, 6), (28, 6), (5, 3), (3, 7), (26, 7), (27, 7), (28, 7), (32, 3), (33, 3), (34, 3), (3, 8), (26, 8), (27, 8),
  (28, 8), (5, 4), (3, 9), (26, 9), (27, 9), (28, 9), (32, 4), (33, 4), (34, 4), (3, 10), (26, 10), (27, 10), (28, 10), (5, 5), (3, 11), (26, 11), (27, 11), (28, 11), (32, 5), (33, 5),
  (34, 5), (39, 0), (0, 2), (16, 2), (17, 2), (18, 2), (3, 12), (26, 12), (27, 12), (28, 12), (5, 6), (3, 13), (26, 13), (27, 13), (28, 13), (32, 6), (33, 6), (34, 6), (3, 14), (26, 14),
  (27, 14), (28, 14), (5, 7), (3, 15), (26, 15), (27, 15), (28, 15), (32, 7), (33, 7), (34, 7), (3, 16), (26, 16), (27, 16), (28, 16), (5, 8), (3, 17), (26, 17), (27, 17), (28, 17), (32, 8),
  (33, 8), (34, 8), (0, 3), (16, 3), (17, 3), (18, 3), (3, 18), (26, 18), (27, 18), (28, 18), (5, 9), (3, 19), (26, 19), (27, 19), (28, 19), (32, 9), (33, 9), (34, 9), (3, 20), (26, 20),
  (27, 20), (28, 20), (5, 10), (3, 21), (26, 21), (27, 21), (28, 21), (32, 10), (33, 10), (34, 10), (3, 22), (26, 22), (27, 22), (28, 22), (5, 11), (3, 23), (26, 23), (27, 23), (28, 23), (32, 11),
  (33, 11), (34, 11), (0, 4), (16, 4), (17, 4), (18, 4), (3, 24), (26, 24), (27, 24), (28, 24), (5, 12), (3, 25), (26, 25), (27, 25), (28, 25), (32, 12), (33, 12), (34, 12), (3, 26), (26, 26),
  (27, 26), (28, 26), (5, 13), (3, 27), (26, 27), (27, 27), (28, 27), (32, 13), (33, 13), (34, 13), (3, 28), (26, 28), (27, 28), (28, 28), (5, 14), (3, 29), (26, 29), (27, 29), (28, 29), (32, 14),
  (33, 14), (34, 14), (0, 5), (16, 5), (17, 5), (18, 5), (3, 30), (26, 30), (27, 30), (28, 30), (5, 15), (3, 31), (26, 31), (27, 31), (28, 31), (32, 15), (33, 15), (34, 15), (3, 32), (26, 32),
  (27, 32), (28, 32), (5, 16), (3, 33), (26, 33), (27, 33), (28, 33), (32, 16), (33, 16), (34, 16), (3, 34), (26, 34), (27, 34), (28, 34), (5, 17), (3, 35), (26, 35), (27, 35), (28, 35), (32, 17),
  (33, 17), (34, 17), (0, 6), (16, 6), (17, 6), (18, 6), (3, 36), (26, 36), (27, 36), (28, 36), (5, 18), (3, 37), (26, 37), (27, 37), (28, 37), (32, 18), (33, 18), (34, 18), (3, 38), (26, 38),
  (27, 38), (28, 38), (5, 19), (3, 39), (26, 39), (27, 39), (28, 39), (32, 19), (33, 19), (34, 19), (3, 40), (26, 40), (27, 40), (28, 40), (5, 20), (3, 41), (26, 41), (27, 41), (28, 41), (32, 20),
  (33, 20), (34, 20), (4, 0), (29, 0), (30, 0), (31, 0), (5, 21), (3, 43), (26, 43), (27, 43), (28, 43), (32, 21), (33, 21), (34, 21), (5, 22), (3, 45), (26, 45), (27, 45), (28, 45), (32, 22),
  (33, 22), (34, 22), (5, 23), (3, 47), (26, 47), (27, 47), (28, 47), (32, 23), (33, 23), (34, 23), (1, 0), (19, 0), (20, 0), (21, 0), (22, 0), (23, 0), (24, 0), (25, 0), (2, 0), (6, 0),
  (35, 0), (36, 0), (37, 0), (38, 0), (8, 0), (40, 0), (41, 0), (42, 0), (43, 0), (44, 0), (45, 0), (46, 0), (47, 0), (48, 0), (49, 0), (50, 0), (51, 0), (52, 0), (53, 0), (54, 0),
  (55, 0), (56, 0)]
def ob_layN : Nat := 342
def ob_sltN : Nat := 7509
-- links: own class, index in its pool, what it is, place among the tables words
def ob_FL : List (Nat × Nat × Nat × Nat × Nat) := [(0, 9, 0, 6, 250), (0, 17, 0, 7, 253), (0, 23, 0, 8, 256), (0, 33, 0, 0, 233), (0, 37, 0, 1, 237), (0, 40, 0, 2, 239), (0, 43, 0, 3, 243), (0, 46, 0, 4, 246), (0, 49, 0, 5, 248), (0, 58, 3, 0, 146), (0, 61, 3, 1, 151), (0, 64, 3, 2, 155),
  (0, 67, 5, 0, 192), (0, 110, 5, 2, 200), (0, 113, 5, 1, 196), (0, 114, 3, 4, 166), (0, 121, 3, 3, 162), (0, 124, 3, 5, 169), (1, 9, 1, 1, 307), (1, 15, 1, 2, 309), (1, 18, 1, 3, 310), (1, 21, 1, 4, 311), (1, 24, 1, 5, 312), (1, 27, 1, 6, 313),
  (1, 30, 1, 7, 314), (1, 33, 1, 0, 305), (1, 41, 0, 0, 234), (1, 60, 0, 2, 240), (1, 63, 0, 8, 258), (1, 72, 5, 2, 198), (1, 76, 3, 3, 159), (1, 85, 5, 3, 203), (1, 86, 5, 4, 207), (1, 87, 5, 5, 211), (2, 9, 2, 0, 338), (2, 15, 2, 1, 340),
  (2, 18, 2, 2, 341), (2, 21, 2, 3, 342), (3, 9, 3, 3, 158), (3, 15, 3, 4, 164), (3, 18, 3, 5, 167), (3, 21, 3, 0, 145), (3, 25, 3, 1, 149), (3, 28, 3, 2, 153), (4, 11, 4, 0, 288), (4, 17, 4, 1, 289), (4, 21, 4, 2, 290), (4, 32, 0, 7, 254),
  (4, 36, 3, 2, 154), (4, 48, 3, 1, 150), (4, 51, 0, 3, 244), (4, 54, 0, 0, 235), (4, 68, 0, 8, 257), (4, 83, 5, 2, 199), (4, 90, 0, 6, 251), (4, 93, 3, 3, 160), (4, 96, 0, 2, 241), (4, 99, 5, 0, 193), (4, 110, 5, 3, 204), (4, 116, 5, 4, 208),
  (5, 12, 5, 2, 197), (5, 18, 5, 3, 202), (5, 22, 5, 4, 206), (5, 25, 5, 5, 210), (5, 28, 5, 0, 191), (5, 32, 5, 1, 195), (5, 46, 3, 1, 152), (5, 49, 3, 2, 156), (5, 52, 3, 4, 165), (5, 55, 3, 0, 147), (5, 62, 3, 5, 168), (5, 69, 3, 3, 161),
  (6, 9, 6, 2, 362), (6, 15, 6, 3, 364), (6, 19, 6, 4, 365), (6, 22, 6, 5, 366), (6, 25, 6, 0, 358), (6, 33, 6, 1, 360), (6, 36, 6, 6, 367), (6, 39, 6, 7, 368), (6, 58, 6, 9, 370), (6, 73, 6, 8, 369), (7, 12, 7, 0, 393), (7, 16, 7, 1, 394),
  (7, 19, 7, 2, 395), (7, 26, 7, 4, 397), (7, 33, 7, 5, 398), (7, 40, 7, 6, 399), (7, 47, 7, 7, 400), (7, 118, 0, 8, 259), (7, 141, 1, 0, 306), (7, 145, 0, 5, 249), (7, 156, 0, 0, 236), (7, 168, 5, 0, 194), (7, 175, 5, 2, 201), (7, 179, 3, 0, 148),
  (7, 190, 6, 0, 359), (7, 199, 6, 1, 361), (7, 215, 7, 3, 396), (7, 225, 0, 1, 238), (7, 228, 0, 6, 252), (7, 232, 0, 2, 242), (7, 239, 0, 7, 255), (7, 242, 3, 2, 157), (7, 243, 7, 8, 401), (7, 246, 7, 9, 402), (7, 249, 7, 10, 403), (7, 252, 0, 3, 245),
  (7, 255, 0, 4, 247), (7, 258, 3, 3, 163), (7, 261, 5, 3, 205), (7, 264, 5, 4, 209), (7, 267, 5, 5, 212), (7, 294, 1, 1, 308), (7, 310, 6, 2, 363), (7, 323, 2, 0, 339), (8, 7, 8, 0, 967), (8, 13, 8, 1, 968), (8, 16, 8, 2, 969), (8, 19, 8, 4, 971),
  (8, 22, 8, 5, 972), (8, 25, 8, 9, 976), (8, 29, 8, 10, 977), (8, 32, 8, 11, 978), (8, 35, 8, 12, 979), (8, 38, 8, 13, 980), (8, 41, 8, 15, 982), (8, 44, 8, 16, 983), (8, 47, 8, 17, 984), (8, 50, 8, 18, 985), (8, 53, 8, 19, 986), (8, 56, 8, 21, 988),
  (8, 59, 8, 24, 991), (8, 66, 8, 3, 970), (8, 179, 8, 6, 973), (8, 182, 8, 7, 974), (8, 185, 8, 8, 975), (8, 252, 8, 14, 981), (8, 261, 8, 20, 987), (8, 312, 8, 22, 989), (8, 315, 8, 23, 990), (8, 328, 8, 25, 992)]
def ob_ML : List (Nat × Nat × Nat × Nat) := [(0, 29, 1, 226), (0, 52, 239, 230), (0, 77, 38, 442), (0, 81, 63, 447), (0, 88, 3, 504), (0, 92, 4, 488), (0, 95, 39, 516), (0, 98, 40, 520), (0, 102, 5, 532), (0, 106, 41, 536), (0, 131, 65, 758), (0, 135, 6, 771),
  (0, 138, 21, 772), (0, 141, 7, 776), (0, 144, 68, 777), (1, 37, 26, 714), (1, 46, 6, 721), (1, 50, 27, 725), (1, 54, 239, 718), (1, 67, 65, 719), (1, 81, 7, 720), (1, 88, 28, 824), (1, 96, 32, 801), (4, 26, 3, 581),
  (4, 42, 35, 582), (4, 57, 64, 586), (4, 61, 45, 592), (4, 65, 46, 610), (4, 71, 63, 635), (4, 75, 47, 596), (4, 79, 67, 600), (4, 86, 48, 614), (4, 103, 49, 618), (4, 107, 7, 622), (4, 129, 23, 631), (4, 133, 51, 652),
  (4, 137, 53, 664), (4, 141, 54, 668), (4, 145, 57, 679), (4, 149, 61, 694), (4, 152, 55, 672), (4, 155, 56, 675), (4, 159, 60, 683), (4, 162, 58, 686), (4, 166, 59, 690), (5, 36, 38, 451), (6, 29, 71, 921), (6, 43, 74, 883),
  (6, 47, 75, 886), (6, 51, 77, 890), (6, 54, 76, 909), (6, 61, 78, 894), (6, 64, 79, 901), (6, 67, 80, 905), (6, 70, 81, 898), (7, 11, 0, 132), (7, 25, 43, 282), (7, 51, 114, 431), (7, 54, 8, 453), (7, 58, 115, 460),
  (7, 62, 9, 476), (7, 66, 10, 484), (7, 69, 11, 500), (7, 72, 12, 512), (7, 76, 13, 528), (7, 79, 14, 544), (7, 82, 3, 552), (7, 86, 128, 553), (7, 90, 116, 464), (7, 93, 16, 554), (7, 96, 5, 562), (7, 100, 17, 563),
  (7, 103, 44, 577), (7, 107, 15, 640), (7, 110, 50, 648), (7, 114, 52, 660), (7, 122, 65, 702), (7, 128, 119, 706), (7, 131, 36, 738), (7, 134, 25, 710), (7, 138, 120, 746), (7, 148, 33, 797), (7, 150, 6, 810), (7, 153, 21, 811),
  (7, 159, 132, 785), (7, 162, 121, 816), (7, 165, 122, 829), (7, 172, 123, 837), (7, 184, 66, 847), (7, 187, 124, 855), (7, 193, 70, 867), (7, 196, 73, 879), (7, 202, 125, 913), (7, 205, 127, 930), (7, 209, 2, 435), (7, 212, 117, 468),
  (7, 218, 118, 943), (7, 235, 113, 953), (7, 270, 28, 729), (7, 273, 67, 733), (7, 276, 18, 750), (7, 279, 19, 754), (7, 282, 30, 759), (7, 285, 31, 763), (7, 288, 20, 767), (7, 291, 22, 781), (7, 295, 29, 820), (7, 298, 32, 841),
  (7, 301, 131, 842), (7, 304, 42, 859), (7, 307, 72, 917), (7, 313, 126, 925), (7, 316, 71, 929), (7, 319, 35, 934), (7, 326, 130, 788), (8, 62, 137, 963), (8, 70, 139, 1110), (8, 74, 134, 1052), (8, 78, 142, 1118), (8, 82, 138, 1061),
  (8, 85, 146, 1200), (8, 89, 149, 1138), (8, 92, 147, 1196), (8, 95, 150, 1142), (8, 106, 135, 1057), (8, 110, 136, 1065), (8, 115, 155, 1074), (8, 118, 141, 1086), (8, 122, 157, 1082), (8, 125, 159, 1094), (8, 128, 140, 1106), (8, 131, 143, 1122),
  (8, 134, 161, 1102), (8, 137, 162, 1114), (8, 140, 148, 1134), (8, 143, 164, 1130), (8, 147, 165, 1146), (8, 150, 167, 1154), (8, 154, 169, 1162), (8, 157, 170, 1166), (8, 160, 144, 1179), (8, 165, 172, 1175), (8, 168, 151, 1192), (8, 171, 152, 1204),
  (8, 176, 174, 1188), (8, 188, 145, 1228), (8, 191, 177, 1224), (8, 194, 176, 1216), (8, 197, 153, 1240), (8, 200, 181, 1244), (8, 203, 180, 1248), (8, 206, 179, 1251), (8, 210, 182, 1236), (8, 213, 178, 1220), (8, 216, 183, 1232), (8, 219, 184, 1212),
  (8, 222, 186, 1255), (8, 226, 185, 1259), (8, 229, 188, 1267), (8, 232, 189, 1271), (8, 235, 192, 1295), (8, 239, 193, 1291), (8, 242, 194, 1299), (8, 246, 195, 1287), (8, 249, 196, 1283), (8, 255, 198, 1325), (8, 258, 200, 1313), (8, 264, 201, 1317),
  (8, 267, 199, 1321), (8, 272, 202, 1309), (8, 275, 205, 1329), (8, 278, 206, 1333), (8, 281, 203, 1349), (8, 284, 210, 1353), (8, 287, 211, 1357), (8, 290, 209, 1361), (8, 293, 212, 1345), (8, 296, 204, 1373), (8, 299, 214, 1369), (8, 304, 219, 1394),
  (8, 307, 221, 1402), (8, 322, 226, 1427), (8, 325, 227, 1435), (8, 331, 228, 1431), (8, 334, 229, 1441), (8, 337, 230, 1445), (8, 341, 231, 1423), (8, 345, 233, 1449), (8, 350, 235, 1462), (9, 9, 82, 124), (9, 12, 133, 959), (9, 13, 83, 427),
  (9, 17, 154, 1046), (9, 18, 84, 472), (9, 22, 156, 1069), (9, 23, 85, 480), (9, 26, 158, 1078), (9, 27, 86, 492), (9, 31, 160, 1090), (9, 32, 87, 496), (9, 35, 163, 1098), (9, 36, 88, 508), (9, 40, 166, 1126), (9, 41, 89, 524),
  (9, 44, 168, 1150), (9, 45, 90, 540), (9, 48, 171, 1158), (9, 49, 91, 548), (9, 52, 173, 1170), (9, 53, 92, 558), (9, 56, 175, 1183), (9, 57, 93, 573), (9, 60, 187, 1208), (9, 61, 94, 636), (9, 64, 190, 1263), (9, 65, 95, 644),
  (9, 68, 191, 1275), (9, 69, 96, 656), (9, 73, 197, 1279), (9, 74, 97, 698), (9, 77, 207, 1304), (9, 78, 98, 734), (9, 81, 208, 1337), (9, 82, 99, 742), (9, 85, 213, 1341), (9, 86, 100, 793), (9, 89, 215, 1365), (9, 90, 101, 806),
  (9, 93, 216, 1377), (9, 94, 102, 812), (9, 97, 217, 1381), (9, 98, 103, 825), (9, 101, 218, 1386), (9, 102, 104, 833), (9, 105, 220, 1390), (9, 106, 105, 843), (9, 109, 222, 1398), (9, 110, 106, 851), (9, 113, 223, 1406), (9, 114, 107, 863),
  (9, 117, 224, 1410), (9, 118, 108, 871), (9, 121, 225, 1415), (9, 122, 109, 875), (9, 125, 232, 1419), (9, 126, 110, 935), (9, 129, 234, 1453), (9, 130, 111, 939), (9, 133, 236, 1457), (9, 134, 112, 947), (9, 138, 237, 1466)]
def ob_MN : List (Nat × Nat × Nat × Nat) := [(0, 27, 37, 141), (0, 28, 62, 185), (0, 84, 128, 457), (0, 117, 129, 567), (0, 127, 130, 570), (4, 25, 62, 287), (4, 113, 130, 626), (4, 125, 131, 630), (5, 11, 37, 190), (5, 58, 129, 590), (5, 65, 130, 591), (5, 72, 131, 604),
  (7, 32, 24, 301), (7, 39, 34, 334), (7, 46, 69, 354)]
def ob_SP : List (Nat × Nat × Nat × Nat) := [(0, 3, 0, 135), (0, 71, 1, 439), (1, 3, 0, 304), (1, 91, 2, 805), (2, 3, 0, 337), (3, 3, 0, 144), (3, 31, 1, 446), (4, 3, 0, 285), (4, 119, 4, 627), (5, 3, 0, 188), (5, 40, 1, 452), (5, 76, 2, 607), (6, 3, 0, 357), (7, 3, 0, 127), (7, 329, 3, 789), (7, 334, 2, 792), (8, 1, 0, 962)]
def ob_CK : List (Nat × Nat × Nat × Nat) := [(0, 15, 3, 136), (0, 21, 5, 138), (4, 9, 5, 286), (5, 9, 3, 189), (7, 9, 0, 130), (7, 23, 4, 280), (7, 30, 1, 299), (7, 37, 2, 332), (7, 44, 6, 352), (9, 7, 7, 122), (9, 10, 8, 957)]
def ob_CO : List (Nat × Nat × Nat × Nat × Nat) := [(7, 221, 2243, 951, 1), (7, 223, 31, 952, 1), (8, 98, 6, 1050, 1), (8, 100, 24, 1051, 1), (8, 102, 2, 1055, 1), (8, 104, 3, 1056, 1), (8, 113, 99, 1073, 1), (8, 163, 7, 1174, 1), (8, 174, 4, 1187, 1), (8, 245, 32768, 1303, 0), (8, 270, 5, 1308, 1), (8, 302, 50, 1385, 1), (8, 310, 127, 1414, 1), (8, 318, 48, 1439, 1), (8, 320, 57, 1440, 1), (8, 348, 10, 1461, 1), (8, 353, 2243, 1470, 1), (8, 355, 31, 1471, 1)]
-- a method: its number, the places of: its code, instanceMethod or static, selects (or 0)
def ob_MP : List (Nat × Nat × Nat × Nat) := [(0, 134, 133, 0), (1, 229, 228, 0), (2, 438, 436, 437), (3, 507, 505, 506), (4, 491, 489, 490), (5, 535, 533, 534), (6, 724, 722, 723), (7, 625, 623, 624), (8, 456, 454, 455), (9, 479, 477, 478), (10, 487, 485, 486), (11, 503, 501, 502),
  (12, 515, 513, 514), (13, 531, 529, 530), (14, 547, 545, 546), (15, 643, 641, 642), (16, 557, 555, 556), (17, 566, 564, 565), (18, 753, 751, 752), (19, 757, 755, 756), (20, 770, 768, 769), (21, 775, 773, 774), (22, 784, 782, 783), (23, 634, 632, 633),
  (24, 303, 302, 0), (25, 713, 711, 712), (26, 717, 716, 19), (27, 728, 727, 20), (28, 732, 730, 731), (29, 823, 821, 822), (30, 762, 760, 761), (31, 766, 764, 765), (32, 804, 802, 803), (33, 800, 798, 799), (34, 336, 335, 0), (35, 585, 583, 584),
  (36, 741, 739, 740), (37, 143, 142, 0), (38, 445, 443, 444), (39, 519, 517, 518), (40, 523, 521, 522), (41, 539, 537, 538), (42, 862, 860, 861), (43, 284, 283, 0), (44, 580, 578, 579), (45, 595, 594, 5), (46, 613, 612, 7), (47, 599, 598, 6),
  (48, 617, 616, 8), (49, 621, 620, 9), (50, 651, 649, 650), (51, 655, 654, 10), (52, 663, 661, 662), (53, 667, 666, 11), (54, 671, 670, 12), (55, 674, 673, 0), (56, 678, 677, 13), (57, 682, 681, 14), (58, 689, 688, 15), (59, 693, 692, 16),
  (60, 685, 684, 0), (61, 697, 696, 17), (62, 187, 186, 0), (63, 450, 448, 449), (64, 589, 587, 588), (65, 705, 703, 704), (66, 850, 848, 849), (67, 603, 601, 602), (68, 780, 778, 779), (69, 356, 355, 0), (70, 870, 868, 869), (71, 924, 922, 923),
  (72, 920, 918, 919), (73, 882, 880, 881), (74, 885, 884, 0), (75, 889, 888, 26), (76, 912, 911, 31), (77, 893, 892, 27), (78, 897, 896, 28), (79, 904, 903, 29), (80, 908, 907, 30), (81, 900, 899, 0), (82, 126, 125, 0), (83, 430, 428, 429),
  (84, 475, 473, 474), (85, 483, 481, 482), (86, 495, 493, 494), (87, 499, 497, 498), (88, 511, 509, 510), (89, 527, 525, 526), (90, 543, 541, 542), (91, 551, 549, 550), (92, 561, 559, 560), (93, 576, 574, 575), (94, 639, 637, 638), (95, 647, 645, 646),
  (96, 659, 657, 658), (97, 701, 699, 700), (98, 737, 735, 736), (99, 745, 743, 744), (100, 796, 794, 795), (101, 809, 807, 808), (102, 815, 813, 814), (103, 828, 826, 827), (104, 836, 834, 835), (105, 846, 844, 845), (106, 854, 852, 853), (107, 866, 864, 865),
  (108, 874, 872, 873), (109, 878, 876, 877), (110, 938, 936, 937), (111, 942, 940, 941), (112, 950, 948, 949), (113, 956, 955, 36), (114, 434, 433, 1), (115, 463, 462, 2), (116, 467, 466, 3), (117, 471, 470, 4), (118, 946, 945, 35), (119, 709, 708, 18),
  (120, 749, 748, 21), (121, 819, 818, 22), (122, 832, 831, 23), (123, 840, 839, 24), (124, 858, 857, 25), (125, 916, 915, 32), (126, 928, 927, 33), (127, 933, 932, 34), (128, 459, 458, 0), (129, 569, 568, 0), (130, 572, 571, 0), (131, 606, 605, 0),
  (132, 787, 786, 0), (133, 961, 960, 0), (134, 1054, 1053, 0), (135, 1060, 1059, 38), (136, 1068, 1067, 40), (137, 966, 965, 37), (138, 1064, 1063, 39), (139, 1113, 1112, 47), (140, 1109, 1108, 46), (141, 1089, 1088, 43), (142, 1121, 1120, 49), (143, 1125, 1124, 50),
  (144, 1182, 1181, 60), (145, 1231, 1230, 70), (146, 1203, 1202, 64), (147, 1199, 1198, 63), (148, 1137, 1136, 52), (149, 1141, 1140, 53), (150, 1145, 1144, 54), (151, 1195, 1194, 62), (152, 1207, 1206, 65), (153, 1243, 1242, 73), (154, 1049, 1047, 1048), (155, 1077, 1076, 41),
  (156, 1072, 1070, 1071), (157, 1085, 1084, 42), (158, 1081, 1079, 1080), (159, 1097, 1096, 44), (160, 1093, 1091, 1092), (161, 1105, 1104, 45), (162, 1117, 1116, 48), (163, 1101, 1099, 1100), (164, 1133, 1132, 51), (165, 1149, 1148, 55), (166, 1129, 1127, 1128), (167, 1157, 1156, 56),
  (168, 1153, 1151, 1152), (169, 1165, 1164, 57), (170, 1169, 1168, 58), (171, 1161, 1159, 1160), (172, 1178, 1177, 59), (173, 1173, 1171, 1172), (174, 1191, 1190, 61), (175, 1186, 1184, 1185), (176, 1219, 1218, 67), (177, 1227, 1226, 69), (178, 1223, 1222, 68), (179, 1254, 1253, 75),
  (180, 1250, 1249, 0), (181, 1247, 1246, 74), (182, 1239, 1238, 72), (183, 1235, 1234, 71), (184, 1215, 1214, 66), (185, 1262, 1261, 77), (186, 1258, 1257, 76), (187, 1211, 1209, 1210), (188, 1270, 1269, 78), (189, 1274, 1273, 79), (190, 1266, 1264, 1265), (191, 1278, 1276, 1277),
  (192, 1298, 1297, 83), (193, 1294, 1293, 82), (194, 1302, 1301, 84), (195, 1290, 1289, 81), (196, 1286, 1285, 80), (197, 1282, 1280, 1281), (198, 1328, 1327, 89), (199, 1324, 1323, 88), (200, 1316, 1315, 86), (201, 1320, 1319, 87), (202, 1312, 1311, 85), (203, 1352, 1351, 93),
  (204, 1376, 1375, 98), (205, 1332, 1331, 90), (206, 1336, 1335, 91), (207, 1307, 1305, 1306), (208, 1340, 1338, 1339), (209, 1364, 1363, 96), (210, 1356, 1355, 94), (211, 1360, 1359, 95), (212, 1348, 1347, 92), (213, 1344, 1342, 1343), (214, 1372, 1371, 97), (215, 1368, 1366, 1367),
  (216, 1380, 1378, 1379), (217, 1384, 1382, 1383), (218, 1389, 1387, 1388), (219, 1397, 1396, 99), (220, 1393, 1391, 1392), (221, 1405, 1404, 100), (222, 1401, 1399, 1400), (223, 1409, 1407, 1408), (224, 1413, 1411, 1412), (225, 1418, 1416, 1417), (226, 1430, 1429, 102), (227, 1438, 1437, 104),
  (228, 1434, 1433, 103), (229, 1444, 1443, 105), (230, 1448, 1447, 106), (231, 1426, 1425, 101), (232, 1422, 1420, 1421), (233, 1452, 1451, 107), (234, 1456, 1454, 1455), (235, 1465, 1464, 108), (236, 1460, 1458, 1459), (237, 1469, 1467, 1468), (239, 232, 231, 0)]
def ob_IN : List (Nat × Nat) := [(0, 111), (1, 116), (2, 117), (3, 112), (4, 115), (5, 113), (6, 118), (7, 110), (8, 119), (9, 109), (10, 114)]
def ob_IS : List (Nat × Nat × Nat) := [(0, 9, 131), (1, 8, 300), (2, 4, 333), (3, 6, 140), (4, 3, 281), (5, 6, 184), (6, 10, 353), (7, 11, 123), (8, 26, 958)]
end
section
-- THE ABSTRACT MACHINE: the same bytecode over numbers (Int) and a memory by kind, cell, slot
abbrev ob_AV : Type := Nat × Int
abbrev ob_Mem : Type := Nat → Int → Int → Int
abbrev ob_CI : Type := Nat × Nat × List (Nat × Int × Int)
abbrev ob_MM : Type := ob_Mem × Option ob_CI
abbrev ob_St : Type := Nat × Nat × List ob_AV × List ob_AV × ob_MM
abbrev ob_Res : Type := Option (Int × ob_MM)
abbrev ob_Dc : Type := PSigma (fun c : Prop => Decidable c)
abbrev ob_Ac : Type := ob_Res ⊕ ob_St ⊕ (ob_Dc × ob_St × ob_St) ⊕ (ob_Dc × ob_St) ⊕ (ob_St × (Int → ob_MM → ob_St)) ⊕ (Int × List (Int × ob_St) × ob_St)
abbrev ob_stop (r : ob_Res) : ob_Ac := .inl r
abbrev ob_go (s : ob_St) : ob_Ac := .inr (.inl s)
abbrev ob_br (d : ob_Dc) (s1 s2 : ob_St) : ob_Ac := .inr (.inr (.inl (d, s1, s2)))
abbrev ob_gd (d : ob_Dc) (s : ob_St) : ob_Ac := .inr (.inr (.inr (.inl (d, s))))
abbrev ob_ca (s : ob_St) (k : Int → ob_MM → ob_St) : ob_Ac := .inr (.inr (.inr (.inr (.inl (s, k)))))
abbrev ob_sw (v : Int) (cs : List (Int × ob_St)) (d : ob_St) : ob_Ac := .inr (.inr (.inr (.inr (.inr (v, cs, d)))))
def ob_nth {α : Type} : List α → Nat → α → α
  | [], _, d => d
  | a :: _, 0, _ => a
  | _ :: l, n + 1, d => ob_nth l n d
def ob_upd {α : Type} : List α → Nat → α → List α
  | [], _, _ => []
  | _ :: l, 0, v => v :: l
  | a :: l, n + 1, v => a :: ob_upd l n v
def ob_mem (n : Nat) : List Nat → Bool
  | [] => false
  | a :: l => cond (Nat.beq n a) true (ob_mem n l)
def ob_code (f pc : Nat) : Option ob_Ent := ob_nth (ob_nth (ob_nth (ob_nth ob_codes (f / 16) []) (f % 16) []) (pc / 16) []) (pc % 16) none
def ob_inf (f : Nat) : MethodName × ByteArray × Nat × Option FieldType × Nat × Nat × Nat := ob_nth (ob_nth ob_infs (f / 16) []) (f % 16) (⟨"", "", ""⟩, ByteArray.empty, 0, none, 99, 99, 0)
def ob_wr (x : Int) : Int := Int.bmod x 4294967296
def ob_wl (x : Int) : Int := Int.bmod x 18446744073709551616
def ob_and (a b : Int) : Int := (Int32.ofInt a &&& Int32.ofInt b).toInt
def ob_or (a b : Int) : Int := (Int32.ofInt a ||| Int32.ofInt b).toInt
def ob_shl (a b : Int) : Int := (Int32.ofInt a <<< (Int32.ofInt b &&& 31)).toInt
def ob_shr (a b : Int) : Int := (Int32.ofInt a >>> (Int32.ofInt b &&& 31)).toInt
def ob_cmp (a b : Int) : Int := if a < b then -1 else if a = b then 0 else 1
def ob_abs (a : Int) : Int := if a < 0 then ob_wr (-a) else a
def ob_set (m : ob_Mem) (k : Nat) (i s x : Int) : ob_Mem := fun k' i' s' => if k' = k ∧ i' = i ∧ s' = s then x else m k' i' s'
def ob_cpy (m : ob_Mem) (k : Nat) (i : Int) (p : Int) (k2 : Nat) (i2 : Int) (p2 n : Int) : ob_Mem := fun k' i' s' => if k' = k2 ∧ i' = i2 ∧ p2 ≤ s' ∧ s' < p2 + n then m k i (p + (s' - p2)) else m k' i' s'
def ob_kq (k : Nat) : Int × Nat × Nat × Nat := ob_nth ob_kt k (0, 9, 0, 0)
def ob_ln (m : ob_Mem) (k : Nat) : Int := cond (Nat.beq k 15) (m 14 0 0) (ob_kq k).1
def ob_tg (m : ob_Mem) (mode k : Nat) (i s : Int) : Int := match mode with
  | 0 => m k i s
  | 1 => i
  | 2 => 2 * i + 1
  | 3 => 0
  | 4 => 2 * (3 * i + s)
  | 5 => 3 * i + s
  | _ => 21 + s
def ob_ini (c : Option ob_CI) (k : Nat) (i s : Int) : Bool := match c with
  | none => true
  | some C => C.2.2.contains (k, i, s)
def ob_add (c : Option ob_CI) (k : Nat) (i s : Int) : Option ob_CI := match c with
  | none => none
  | some C => some (C.1, C.2.1, (k, i, s) :: C.2.2)
def ob_i1 (st : List ob_AV) (K : Int → List ob_AV → ob_Ac) : ob_Ac := match st with
  | (1, a) :: r => K a r
  | _ => ob_stop none
def ob_l1 (st : List ob_AV) (K : Int → List ob_AV → ob_Ac) : ob_Ac := match st with
  | (2, a) :: r => K a r
  | _ => ob_stop none
def ob_r1 (st : List ob_AV) (K : Nat → Int → List ob_AV → ob_Ac) : ob_Ac := match st with
  | (t + 3, i) :: r => K t i r
  | _ => ob_stop none
def ob_v1 (st : List ob_AV) (K : ob_AV → List ob_AV → ob_Ac) : ob_Ac := match st with
  | [] => ob_stop none
  | (n, a) :: r => cond (Nat.beq n 2) (ob_stop none) (K (n, a) r)
def ob_ldi (ls : List ob_AV) (k : Nat) (K : Int → ob_Ac) : ob_Ac := match ob_nth ls k (0, 0) with
  | (1, a) => K a
  | _ => ob_stop none
def ob_ldl (ls : List ob_AV) (k : Nat) (K : Int → ob_Ac) : ob_Ac := match ob_nth ls k (0, 0) with
  | (2, a) => K a
  | _ => ob_stop none
def ob_ldr (ls : List ob_AV) (k : Nat) (K : Nat → Int → ob_Ac) : ob_Ac := match ob_nth ls k (0, 0) with
  | (t + 3, i) => K t i
  | _ => ob_stop none
def ob_sto (ls : List ob_AV) (k : Nat) (v : ob_AV) (K : List ob_AV → ob_Ac) : ob_Ac := match k with
  | 0 => K (ob_upd ls 0 v)
  | k' + 1 => match ob_nth ls k' (0, 0) with
    | (n, _) => cond (Nat.beq n 2) (ob_stop none) (K (ob_upd ls (k' + 1) v))
def ob_cnd (c : ClassFile.Cond) (a b : Int) (s1 s2 : ob_St) : ob_Ac := match c with
  | .eq => ob_br ⟨a = b, inferInstance⟩ s1 s2
  | .ne => ob_br ⟨a = b, inferInstance⟩ s2 s1
  | .lt => ob_br ⟨a < b, inferInstance⟩ s1 s2
  | .ge => ob_br ⟨a < b, inferInstance⟩ s2 s1
  | .gt => ob_br ⟨b < a, inferInstance⟩ s1 s2
  | .le => ob_br ⟨b < a, inferInstance⟩ s2 s1
def ob_pop : Nat → List ob_AV → List ob_AV → Option (List ob_AV × List ob_AV)
  | 0, acc, st => some (acc, st)
  | _ + 1, _, [] => none
  | n + 1, acc, v :: st => ob_pop n (v :: acc) st
/-- the stack r weighs at most n words -/
def ob_wk : Nat → List ob_AV → Bool
  | _, [] => true
  | 0, _ :: _ => false
  | n + 1, (t, _) :: r => cond (Nat.beq t 2) (cond (Nat.beq n 0) false (ob_wk (n - 1) r)) (ob_wk n r)
/-- the first value is a reference of that kind -/
def ob_hd (k : Nat) : List ob_AV → Bool
  | [] => false
  | (t, _) :: _ => Nat.beq t (k + 3)
def ob_rep : Nat → List ob_AV
  | 0 => []
  | n + 1 => (0, 0) :: ob_rep n
def ob_mkL : List ob_AV → Nat → List ob_AV
  | [], n => ob_rep n
  | (2, a) :: vs, n + 2 => (2, a) :: (0, 0) :: ob_mkL vs n
  | _ :: _, 0 => []
  | v :: vs, n + 1 => v :: ob_mkL vs n
def ob_psh (r : Nat) (v : Int) (st : List ob_AV) : List ob_AV := match r with
  | 0 => st
  | 1 => (1, v) :: st
  | _ => (2, v) :: st
/-- a call: aux = [9, method, how many values, what comes back, class of the receiver, locals, nest] -/
def ob_inv (vt : Bool) (aux : List Nat) (f nx : Nat) (ls st : List ob_AV) (mm : ob_MM) : ob_Ac := match ob_pop (ob_nth aux 2 0) [] st with
  | none => ob_stop none
  | some (as, r) => cond (ob_wk 8 r && ob_wk (ob_nth aux 5 0) as && (!vt || ob_hd (ob_nth aux 4 0) as)) (ob_ca (ob_nth aux 1 0, 0, ob_mkL as (ob_nth aux 5 0), [], mm) (fun v mm' => (f, nx, ls, ob_psh (ob_nth aux 3 0) v r, mm'))) (ob_stop none)
def ob_new (k f nx : Nat) (ls st : List ob_AV) (n : Nat) (mm : ob_MM) : ob_Ac := match mm.2 with
  | none => ob_stop none
  | some C => match ob_nth ob_lay C.1 (99, 0) with
    | q => cond (Nat.beq q.1 k) (ob_go (f, nx, ls, (k + 3, q.2) :: st, (mm.1, some (C.1 + 1, C.2.1 + n, C.2.2)))) (ob_stop none)
def ob_refs : List (Nat × Int × Int) := ob_lay.flatMap fun q => cond (Nat.ble 9 q.1) (match ob_kq q.1 with
  | (n, 3, _, _) => (List.range n.toNat).map fun (s : Nat) => (q.1, q.2, Int.ofNat s)
  | _ => []) (((ob_nth ob_ft q.1 []).zipIdx.filter fun z => !Nat.beq z.1.1 0).map fun z => (q.1, q.2, Int.ofNat z.2))
def ob_full (C : ob_CI) : Bool := Nat.beq C.1 ob_layN && Nat.beq C.2.1 ob_sltN && ob_refs.all fun q => C.2.2.contains q
def ob_seal (mm : ob_MM) (K : ob_MM → ob_Ac) : ob_Ac := match mm.2 with
  | none => ob_stop none
  | some C => cond (ob_full C) (K (mm.1, none)) (ob_stop none)
def ob_stat (c : Option ob_CI) (K : Unit → ob_Ac) : ob_Ac := match c with
  | none => ob_stop none
  | some _ => K ()
def ob_ins (ins : Instr) (nx : Nat) (aux : List Nat) (z : Int) (f : Nat) (ls st : List ob_AV) (mm : ob_MM) : ob_Ac := match ins with
  | .aload k => ob_ldr ls k fun t i => ob_go (f, nx, ls, (t + 3, i) :: st, mm)
  | .aload_n k => ob_ldr ls k.val fun t i => ob_go (f, nx, ls, (t + 3, i) :: st, mm)
  | .iload k => ob_ldi ls k fun a => ob_go (f, nx, ls, (1, a) :: st, mm)
  | .iload_n k => ob_ldi ls k.val fun a => ob_go (f, nx, ls, (1, a) :: st, mm)
  | .lload k => ob_ldl ls k fun a => ob_go (f, nx, ls, (2, a) :: st, mm)
  | .lload_n k => ob_ldl ls k.val fun a => ob_go (f, nx, ls, (2, a) :: st, mm)
  | .astore k => ob_r1 st fun t i st => ob_sto ls k (t + 3, i) fun ls => ob_go (f, nx, ls, st, mm)
  | .astore_n k => ob_r1 st fun t i st => ob_sto ls k.val (t + 3, i) fun ls => ob_go (f, nx, ls, st, mm)
  | .istore k => ob_i1 st fun a st => ob_sto ls k (1, a) fun ls => ob_go (f, nx, ls, st, mm)
  | .istore_n k => ob_i1 st fun a st => ob_sto ls k.val (1, a) fun ls => match aux with
    | [] => ob_go (f, nx, ls, st, mm)
    | _ => ob_seal mm fun mm => ob_go (f, nx, ls, st, mm)
  | .lstore k => ob_l1 st fun a st => ob_sto ls k (2, a) fun ls => ob_go (f, nx, ob_upd ls (k + 1) (0, 0), st, mm)
  | .lstore_n k => ob_l1 st fun a st => ob_sto ls k.val (2, a) fun ls => ob_go (f, nx, ob_upd ls (k.val + 1) (0, 0), st, mm)
  | .iinc k n => ob_ldi ls k fun a => ob_go (f, nx, ob_upd ls k (1, ob_wr (a + n)), st, mm)
  | .iconst n => ob_go (f, nx, ls, (1, n) :: st, mm)
  | .bipush n => ob_go (f, nx, ls, (1, n) :: st, mm)
  | .sipush n => ob_go (f, nx, ls, (1, n) :: st, mm)
  | .lconst n => ob_go (f, nx, ls, (2, (n.val : Int)) :: st, mm)
  | .ldc _ => ob_go (f, nx, ls, (1, z) :: st, mm)
  | .ldc2_w _ => ob_go (f, nx, ls, (2, z) :: st, mm)
  | .iadd => ob_i1 st fun b st => ob_i1 st fun a st => ob_go (f, nx, ls, (1, ob_wr (a + b)) :: st, mm)
  | .isub => ob_i1 st fun b st => ob_i1 st fun a st => ob_go (f, nx, ls, (1, ob_wr (a - b)) :: st, mm)
  | .imul => ob_i1 st fun b st => ob_i1 st fun a st => ob_go (f, nx, ls, (1, ob_wr (a * b)) :: st, mm)
  | .idiv => ob_i1 st fun b st => ob_i1 st fun a st => ob_gd ⟨b ≠ 0, inferInstance⟩ (f, nx, ls, (1, ob_wr (Int.tdiv a b)) :: st, mm)
  | .irem => ob_i1 st fun b st => ob_i1 st fun a st => ob_gd ⟨b ≠ 0, inferInstance⟩ (f, nx, ls, (1, Int.tmod a b) :: st, mm)
  | .iand => ob_i1 st fun b st => ob_i1 st fun a st => ob_go (f, nx, ls, (1, ob_and a b) :: st, mm)
  | .ior => ob_i1 st fun b st => ob_i1 st fun a st => ob_go (f, nx, ls, (1, ob_or a b) :: st, mm)
  | .ishl => ob_i1 st fun b st => ob_i1 st fun a st => ob_go (f, nx, ls, (1, ob_shl a b) :: st, mm)
  | .ishr => ob_i1 st fun b st => ob_i1 st fun a st => ob_go (f, nx, ls, (1, ob_shr a b) :: st, mm)
  | .i2l => ob_i1 st fun a st => ob_go (f, nx, ls, (2, a) :: st, mm)
  | .i2b => ob_i1 st fun a st => ob_go (f, nx, ls, (1, Int.bmod a 256) :: st, mm)
  | .ladd => ob_l1 st fun b st => ob_l1 st fun a st => ob_go (f, nx, ls, (2, ob_wl (a + b)) :: st, mm)
  | .lmul => ob_l1 st fun b st => ob_l1 st fun a st => ob_go (f, nx, ls, (2, ob_wl (a * b)) :: st, mm)
  | .lcmp => ob_l1 st fun b st => ob_l1 st fun a st => ob_go (f, nx, ls, (1, ob_cmp a b) :: st, mm)
  | .dup => ob_v1 st fun v st => ob_go (f, nx, ls, v :: v :: st, mm)
  | .dup2 => ob_v1 st fun v st => ob_v1 st fun w st => ob_go (f, nx, ls, v :: w :: v :: w :: st, mm)
  | .pop => ob_v1 st fun _ st => ob_go (f, nx, ls, st, mm)
  | .if_icmp c _ => ob_i1 st fun b st => ob_i1 st fun a st => ob_cnd c a b (f, ob_nth aux 0 0, ls, st, mm) (f, nx, ls, st, mm)
  | .ifCond c _ => ob_i1 st fun a st => ob_cnd c a 0 (f, ob_nth aux 0 0, ls, st, mm) (f, nx, ls, st, mm)
  | .goto _ => ob_go (f, ob_nth aux 0 0, ls, st, mm)
  | .tableswitch _ lo _ _ => ob_i1 st fun v st => ob_sw v ((aux.tail.zipIdx).map fun q => (lo + (q.2 : Int), (f, q.1, ls, st, mm))) (f, ob_nth aux 0 0, ls, st, mm)
  | .lookupswitch _ ps => ob_i1 st fun v st => ob_sw v ((ps.toList.zip aux.tail).map fun q => (q.1.1, (f, q.2, ls, st, mm))) (f, ob_nth aux 0 0, ls, st, mm)
  | .arraylength => ob_r1 st fun t _ st => cond (Nat.ble (ob_kq t).2.1 3) (ob_go (f, nx, ls, (1, ob_ln mm.1 t) :: st, mm)) (ob_stop none)
  | .iaload => ob_i1 st fun j st => ob_r1 st fun t i st => cond (Nat.beq (ob_kq t).2.1 0) (ob_gd ⟨0 ≤ j ∧ j < ob_ln mm.1 t, inferInstance⟩ (f, nx, ls, (1, mm.1 t i j) :: st, mm)) (ob_stop none)
  | .baload => ob_i1 st fun j st => ob_r1 st fun t i st => cond (Nat.beq (ob_kq t).2.1 1 || Nat.beq (ob_kq t).2.1 2) (ob_gd ⟨0 ≤ j ∧ j < ob_ln mm.1 t, inferInstance⟩ (f, nx, ls, (1, mm.1 t i j) :: st, mm)) (ob_stop none)
  | .aaload => ob_i1 st fun j st => ob_r1 st fun t i st => cond (Nat.beq (ob_kq t).2.1 3 && ob_ini mm.2 t i j) (ob_gd ⟨0 ≤ j ∧ j < ob_ln mm.1 t, inferInstance⟩ (f, nx, ls, ((ob_kq t).2.2.1 + 2, ob_tg mm.1 (ob_kq t).2.2.2 t i j) :: st, mm)) (ob_stop none)
  | .iastore => ob_i1 st fun x st => ob_i1 st fun j st => ob_r1 st fun t i st => cond (Nat.beq (ob_kq t).2.1 0 && !Nat.beq t 15) (ob_gd ⟨0 ≤ j ∧ j < ob_ln mm.1 t, inferInstance⟩ (f, nx, ls, st, (ob_set mm.1 t i j x, mm.2))) (ob_stop none)
  | .bastore => ob_i1 st fun x st => ob_i1 st fun j st => ob_r1 st fun t i st => match (ob_kq t).2.1 with
    | 1 => ob_gd ⟨(0 ≤ j ∧ j < ob_ln mm.1 t) ∧ (x = 0 ∨ x = 1), inferInstance⟩ (f, nx, ls, st, (ob_set mm.1 t i j x, mm.2))
    | 2 => ob_gd ⟨(0 ≤ j ∧ j < ob_ln mm.1 t) ∧ (-128 ≤ x ∧ x < 128), inferInstance⟩ (f, nx, ls, st, (ob_set mm.1 t i j x, mm.2))
    | _ => ob_stop none
  | .aastore => ob_r1 st fun t2 i2 st => ob_i1 st fun j st => ob_r1 st fun t i st => cond (Nat.beq (ob_kq t).2.1 3 && Nat.beq (t2 + 1) (ob_kq t).2.2.1) (match (ob_kq t).2.2.2 with
    | 0 => ob_gd ⟨0 ≤ j ∧ j < ob_ln mm.1 t, inferInstance⟩ (f, nx, ls, st, (ob_set mm.1 t i j i2, ob_add mm.2 t i j))
    | md => ob_stat mm.2 fun _ => ob_gd ⟨(0 ≤ j ∧ j < ob_ln mm.1 t) ∧ i2 = ob_tg mm.1 md t i j, inferInstance⟩ (f, nx, ls, st, (mm.1, ob_add mm.2 t i j))) (ob_stop none)
  | .getfield _ => ob_r1 st fun t i st => cond (Nat.beq t (ob_nth aux 0 0)) (match ob_nth aux 2 0 with
    | 0 => ob_go (f, nx, ls, (1, mm.1 t i z) :: st, mm)
    | tk + 1 => cond (ob_ini mm.2 t i z) (ob_go (f, nx, ls, (tk + 3, ob_tg mm.1 (ob_nth aux 3 0) t i z) :: st, mm)) (ob_stop none)) (ob_stop none)
  | .putfield _ => match ob_nth aux 2 0 with
    | 0 => ob_i1 st fun x st => ob_r1 st fun t i st => cond (Nat.beq t (ob_nth aux 0 0)) (match ob_nth aux 4 0 with
      | 0 => ob_go (f, nx, ls, st, (ob_set mm.1 t i z x, mm.2))
      | _ => ob_gd ⟨x = 0 ∨ x = 1, inferInstance⟩ (f, nx, ls, st, (ob_set mm.1 t i z x, mm.2))) (ob_stop none)
    | tk + 1 => ob_r1 st fun t2 i2 st => ob_r1 st fun t i st => cond (Nat.beq t (ob_nth aux 0 0) && Nat.beq t2 tk) (match ob_nth aux 3 0 with
      | 0 => ob_go (f, nx, ls, st, (ob_set mm.1 t i z i2, ob_add mm.2 t i z))
      | md => ob_stat mm.2 fun _ => ob_gd ⟨i2 = ob_tg mm.1 md t i z, inferInstance⟩ (f, nx, ls, st, (mm.1, ob_add mm.2 t i z))) (ob_stop none)
  | .new _ => ob_new (ob_nth aux 0 0) f nx ls st (ob_nth ob_ft (ob_nth aux 0 0) []).length mm
  | .newarray _ => ob_i1 st fun n st => cond (decide (n = (ob_kq (ob_nth aux 0 0)).1)) (ob_new (ob_nth aux 0 0) f nx ls st n.toNat mm) (ob_stop none)
  | .anewarray _ => ob_i1 st fun n st => cond (decide (n = (ob_kq (ob_nth aux 0 0)).1)) (ob_new (ob_nth aux 0 0) f nx ls st n.toNat mm) (ob_stop none)
  | .invokevirtual _ => ob_inv true aux f nx ls st mm
  | .invokespecial _ => match aux with
    | [0] => ob_r1 st fun _ _ st => cond (ob_wk 8 st) (ob_go (f, nx, ls, st, mm)) (ob_stop none)
    | _ => ob_inv true aux f nx ls st mm
  | .invokestatic _ => match aux with
    | [1] => ob_i1 st fun n st => ob_i1 st fun p2 st => ob_r1 st fun t2 i2 st => ob_i1 st fun p st => ob_r1 st fun t i st => cond (Nat.beq (ob_kq t).2.1 0 && Nat.beq (ob_kq t2).2.1 0 && !Nat.beq t 15 && !Nat.beq t2 15 && ob_wk 8 st) (ob_gd ⟨(0 ≤ n ∧ 0 ≤ p ∧ 0 ≤ p2) ∧ p + n ≤ ob_ln mm.1 t ∧ p2 + n ≤ ob_ln mm.1 t2, inferInstance⟩ (f, nx, ls, st, (ob_cpy mm.1 t i p t2 i2 p2 n, mm.2))) (ob_stop none)
    | [2] => ob_i1 st fun b st => ob_i1 st fun a st => cond (ob_wk 8 st) (ob_go (f, nx, ls, (1, min a b) :: st, mm)) (ob_stop none)
    | [3] => ob_i1 st fun b st => ob_i1 st fun a st => cond (ob_wk 8 st) (ob_go (f, nx, ls, (1, max a b) :: st, mm)) (ob_stop none)
    | [4] => ob_i1 st fun a st => cond (ob_wk 8 st) (ob_go (f, nx, ls, (1, ob_abs a) :: st, mm)) (ob_stop none)
    | _ => ob_inv false aux f nx ls st mm
  | .ireturn => match st with
    | [(1, a)] => match ob_nth aux 0 0 with
      | 0 => ob_stop (some (a, mm))
      | _ => ob_stop (if a = 0 ∨ a = 1 then some (a, mm) else none)
    | _ => ob_stop none
  | .lreturn => match st with
    | [(2, a)] => ob_stop (some (a, mm))
    | _ => ob_stop none
  | .return_ => match st with
    | [] => ob_stop (some (0, mm))
    | _ => ob_stop none
  | _ => ob_stop none
def ob_act : ob_St → ob_Ac
  | (f, pc, ls, st, mm) => match ob_code f pc with
    | none => ob_stop none
    | some (ins, nx, aux, z) => ob_ins ins nx aux z f ls st mm
def ob_swi (X : ob_St → ob_Res) (v : Int) : List (Int × ob_St) → ob_St → ob_Res
  | [], d => X d
  | q :: cs, d => if v = q.1 then X q.2 else ob_swi X v cs d
def ob_int (C X : ob_St → ob_Res) (a : ob_Ac) : ob_Res := match a with
  | .inl r => r
  | .inr (.inl s) => X s
  | .inr (.inr (.inl q)) => @ite _ q.1.1 q.1.2 (X q.2.1) (X q.2.2)
  | .inr (.inr (.inr (.inl q))) => @ite _ q.1.1 q.1.2 (X q.2) none
  | .inr (.inr (.inr (.inr (.inl q)))) => (C q.1).bind fun r => X (q.2 r.1 r.2)
  | .inr (.inr (.inr (.inr (.inr q)))) => ob_swi X q.1 q.2.1 q.2.2
def ob_ex : Nat → ob_St → ob_Res
  | 0, _ => none
  | n + 1, s => ob_int (ob_ex n) (ob_ex n) (ob_act s)
/-- run to the cut points cs (or n steps), then K -/
def ob_rs (cs : List Nat) (K : ob_St → ob_Res) : Nat → ob_St → ob_Res
  | 0, s => K s
  | n + 1, s => ob_int K (fun s' => match s' with
    | (f, pc, r) => cond (ob_mem pc cs) (K (f, pc, r)) (ob_rs cs K n (f, pc, r))) (ob_act s)
theorem ob_swi_mono {X Y : ob_St → ob_Res} (h : ∀ s r, X s = some r → Y s = some r) {v : Int} {d : ob_St} {r : Int × ob_MM} : ∀ cs : List (Int × ob_St), ob_swi X v cs d = some r → ob_swi Y v cs d = some r
  | [], hx => h _ _ hx
  | q :: cs, hx => by
    unfold ob_swi at hx ⊢
    by_cases c : v = q.1
    · rw [if_pos c] at hx ⊢
      exact h _ _ hx
    · rw [if_neg c] at hx ⊢
      exact ob_swi_mono h cs hx
theorem ob_int_mono {C D X Y : ob_St → ob_Res} (hC : ∀ s r, C s = some r → D s = some r) (h : ∀ s r, X s = some r → Y s = some r) (a : ob_Ac) (r : Int × ob_MM) (hx : ob_int C X a = some r) : ob_int D Y a = some r := by
  match a, hx with
  | .inl r', hx => exact hx
  | .inr (.inl s), hx => exact h _ _ hx
  | .inr (.inr (.inl (⟨c, i⟩, s1, s2))), hx =>
    show @ite _ c i (Y s1) (Y s2) = some r
    have hx : @ite _ c i (X s1) (X s2) = some r := hx
    by_cases q : c
    · rw [if_pos q] at hx ⊢
      exact h _ _ hx
    · rw [if_neg q] at hx ⊢
      exact h _ _ hx
  | .inr (.inr (.inr (.inl (⟨c, i⟩, s)))), hx =>
    show @ite _ c i (Y s) none = some r
    have hx : @ite _ c i (X s) none = some r := hx
    by_cases q : c
    · rw [if_pos q] at hx ⊢
      exact h _ _ hx
    · rw [if_neg q] at hx
      cases hx
  | .inr (.inr (.inr (.inr (.inl (s, k))))), hx =>
    show (D s).bind (fun r => Y (k r.1 r.2)) = some r
    have hx : (C s).bind (fun r => X (k r.1 r.2)) = some r := hx
    obtain ⟨q, h1, h2⟩ := Option.bind_eq_some_iff.mp hx
    exact Option.bind_eq_some_iff.mpr ⟨q, hC _ _ h1, h _ _ h2⟩
  | .inr (.inr (.inr (.inr (.inr (v, cs, d))))), hx => exact ob_swi_mono h cs hx
theorem ob_ex_succ : ∀ (n : Nat) (s : ob_St) (r : Int × ob_MM), ob_ex n s = some r → ob_ex (n + 1) s = some r
  | 0, _, _, h => by cases h
  | n + 1, s, r, h => ob_int_mono (ob_ex_succ n) (ob_ex_succ n) _ _ h
theorem ob_ex_le {n k : Nat} (hk : n ≤ k) {s : ob_St} {r : Int × ob_MM} (h : ob_ex n s = some r) : ob_ex k s = some r := by
  induction hk with
  | refl => exact h
  | step _ ih => exact ob_ex_succ _ _ _ ih
theorem ob_ex_det {n k : Nat} {s : ob_St} {r q : Int × ob_MM} (h : ob_ex n s = some r) (h2 : ob_ex k s = some q) : r = q := by
  have a := ob_ex_le (Nat.le_max_left n k) h
  have b := ob_ex_le (Nat.le_max_right n k) h2
  exact Option.some.inj (a.symm.trans b)
noncomputable def ob_E (s : ob_St) : ob_Res := @dite _ (∃ (r : Int × ob_MM) (n : Nat), ob_ex n s = some r) (Classical.propDecidable _) (fun h => some h.choose) (fun _ => none)
theorem ob_E_of {s : ob_St} {r : Int × ob_MM} {n : Nat} (h : ob_ex n s = some r) : ob_E s = some r := by
  have hh : ∃ (r : Int × ob_MM) (n : Nat), ob_ex n s = some r := ⟨r, n, h⟩
  unfold ob_E
  rw [dif_pos hh]
  obtain ⟨k, hk⟩ := hh.choose_spec
  exact congrArg some (ob_ex_det hk h)
theorem ob_E_to {s : ob_St} {r : Int × ob_MM} (h : ob_E s = some r) : ∃ n, ob_ex n s = some r := by
  unfold ob_E at h
  by_cases hh : ∃ (r : Int × ob_MM) (n : Nat), ob_ex n s = some r
  · rw [dif_pos hh] at h
    obtain ⟨k, hk⟩ := hh.choose_spec
    exact ⟨k, by rw [← h]; exact hk⟩
  · rw [dif_neg hh] at h
    cases h
theorem ob_swi_lim {v : Int} {d : ob_St} {r : Int × ob_MM} : ∀ cs : List (Int × ob_St), ob_swi ob_E v cs d = some r → ∃ n, ob_swi (ob_ex n) v cs d = some r
  | [], hx => ob_E_to hx
  | q :: cs, hx => by
    unfold ob_swi at hx
    by_cases c : v = q.1
    · rw [if_pos c] at hx
      obtain ⟨n, hn⟩ := ob_E_to hx
      exact ⟨n, by unfold ob_swi; rw [if_pos c]; exact hn⟩
    · rw [if_neg c] at hx
      obtain ⟨n, hn⟩ := ob_swi_lim cs hx
      exact ⟨n, by unfold ob_swi; rw [if_neg c]; exact hn⟩
theorem ob_int_lim (a : ob_Ac) (r : Int × ob_MM) (hx : ob_int ob_E ob_E a = some r) : ∃ n, ob_int (ob_ex n) (ob_ex n) a = some r := by
  match a, hx with
  | .inl r', hx => exact ⟨0, hx⟩
  | .inr (.inl s), hx => exact ob_E_to hx
  | .inr (.inr (.inl (⟨c, i⟩, s1, s2))), hx =>
    have hx : @ite _ c i (ob_E s1) (ob_E s2) = some r := hx
    by_cases q : c
    · rw [if_pos q] at hx
      obtain ⟨n, hn⟩ := ob_E_to hx
      exact ⟨n, by show @ite _ c i (ob_ex n s1) (ob_ex n s2) = some r; rw [if_pos q]; exact hn⟩
    · rw [if_neg q] at hx
      obtain ⟨n, hn⟩ := ob_E_to hx
      exact ⟨n, by show @ite _ c i (ob_ex n s1) (ob_ex n s2) = some r; rw [if_neg q]; exact hn⟩
  | .inr (.inr (.inr (.inl (⟨c, i⟩, s)))), hx =>
    have hx : @ite _ c i (ob_E s) none = some r := hx
    by_cases q : c
    · rw [if_pos q] at hx
      obtain ⟨n, hn⟩ := ob_E_to hx
      exact ⟨n, by show @ite _ c i (ob_ex n s) none = some r; rw [if_pos q]; exact hn⟩
    · rw [if_neg q] at hx
      cases hx
  | .inr (.inr (.inr (.inr (.inl (s, k))))), hx =>
    have hx : (ob_E s).bind (fun r => ob_E (k r.1 r.2)) = some r := hx
    obtain ⟨q, h1, h2⟩ := Option.bind_eq_some_iff.mp hx
    obtain ⟨n1, hn1⟩ := ob_E_to h1
    obtain ⟨n2, hn2⟩ := ob_E_to h2
    exact ⟨max n1 n2, Option.bind_eq_some_iff.mpr ⟨q, ob_ex_le (Nat.le_max_left _ _) hn1, ob_ex_le (Nat.le_max_right _ _) hn2⟩⟩
  | .inr (.inr (.inr (.inr (.inr (v, cs, d))))), hx => exact ob_swi_lim cs hx
theorem ob_opt {α : Type} {a b : Option α} (h1 : ∀ r, a = some r → b = some r) (h2 : ∀ r, b = some r → a = some r) : a = b := by
  cases a with
  | some x => exact (h1 x rfl).symm
  | none => cases b with
    | some y => exact h2 y rfl
    | none => rfl
theorem ob_E_fix (s : ob_St) : ob_E s = ob_int ob_E ob_E (ob_act s) := by
  apply ob_opt
  · intro r h
    obtain ⟨n, hn⟩ := ob_E_to h
    cases n with
    | zero => cases hn
    | succ n => exact ob_int_mono (fun _ _ => ob_E_of) (fun _ _ => ob_E_of) _ _ hn
  · intro r h
    obtain ⟨n, hn⟩ := ob_int_lim _ _ h
    exact ob_E_of (n := n + 1) hn
theorem ob_E_rs (cs : List Nat) : ∀ (n : Nat) (s : ob_St), ob_E s = ob_rs cs ob_E n s
  | 0, _ => rfl
  | n + 1, s => by
    have h : (fun s' : ob_St => match s' with
      | (f, pc, r) => cond (ob_mem pc cs) (ob_E (f, pc, r)) (ob_rs cs ob_E n (f, pc, r))) = ob_E := by
      funext s'
      obtain ⟨f, pc, r⟩ := s'
      show cond (ob_mem pc cs) (ob_E (f, pc, r)) (ob_rs cs ob_E n (f, pc, r)) = ob_E (f, pc, r)
      cases ob_mem pc cs with
      | true => rfl
      | false => exact (ob_E_rs cs n (f, pc, r)).symm
    show _ = ob_int ob_E (fun s' : ob_St => match s' with
      | (f, pc, r) => cond (ob_mem pc cs) (ob_E (f, pc, r)) (ob_rs cs ob_E n (f, pc, r))) (ob_act s)
    rw [h]
    exact ob_E_fix s
end
section
-- WHAT THE TABLES MUST SAY OF EACH INSTRUCTION, decided by the kernel
def ob_by (f : Nat) : ByteArray := (ob_inf f).2.1
def ob_mx (f : Nat) : Nat := (ob_inf f).2.2.1
def ob_rt (f : Nat) : Option FieldType := (ob_inf f).2.2.2.1
def ob_ow (f : Nat) : Nat := (ob_inf f).2.2.2.2.1
def ob_rk (f : Nat) : Nat := (ob_inf f).2.2.2.2.2.1
def ob_sc (f : Nat) : Nat := (ob_inf f).2.2.2.2.2.2
def ob_y (f : Nat) : MethodName := (ob_inf f).1
def ob_TT (c s : Nat) : String × String × String × Bool := (ob_cl.getD c ("", fun _ => ("", "", "", false), 0)).2.1 s
def ob_ftq (c s : Nat) : Nat × Nat × Nat := ob_nth (ob_nth ob_ft c []) s (0, 0, 9)
def ob_inFL (o i c s : Nat) : Bool := ob_FL.any fun q => Nat.beq q.2.1 i && Nat.beq q.1 o && Nat.beq q.2.2.1 c && Nat.beq q.2.2.2.1 s
def ob_in4 (L : List (Nat × Nat × Nat × Nat)) (o i g : Nat) : Bool := L.any fun q => Nat.beq q.2.1 i && Nat.beq q.1 o && Nat.beq q.2.2.1 g
def ob_inCO (o i v t : Nat) : Bool := ob_CO.any fun q => Nat.beq q.2.1 i && Nat.beq q.1 o && Nat.beq q.2.2.1 v && Nat.beq q.2.2.2.2 t
def ob_okC (f i : Nat) (aux : List Nat) (st vt : Nat) : Bool := Nat.beq (ob_nth aux 0 0) 9 && (cond (Nat.beq (ob_nth aux 6 0) 0) (ob_in4 ob_ML (ob_ow f) i (ob_nth aux 1 0)) (ob_in4 ob_MN (ob_ow f) i (ob_nth aux 1 0))) && Nat.ble (ob_rk (ob_nth aux 1 0) + 1) (ob_rk f) && Nat.beq (ob_ow (ob_nth aux 1 0)) (ob_nth aux 4 0) && Nat.beq (ob_mx (ob_nth aux 1 0)) (ob_nth aux 5 0) && Nat.ble (ob_mx (ob_nth aux 1 0)) 19 && Nat.beq (ob_sc (ob_nth aux 1 0)) st
  && decide ((parseMethodDescriptor (ob_y (ob_nth aux 1 0)).desc).map (fun d => d.parameters.length) = some (ob_nth aux 2 0 - vt)) && Nat.ble vt (ob_nth aux 2 0)
  && (match ob_rt (ob_nth aux 1 0), ob_nth aux 3 0 with
    | none, 0 => true
    | some .int, 1 => true
    | some .boolean, 1 => true
    | some .long, 2 => true
    | _, _ => false)
def ob_okF (f i : Nat) (aux : List Nat) (z : Int) : Bool := ob_inFL (ob_ow f) i (ob_nth aux 0 0) (ob_nth aux 1 0) && decide (z = Int.ofNat (ob_nth aux 1 0)) && Nat.beq (ob_ftq (ob_nth aux 0 0) (ob_nth aux 1 0)).1 (ob_nth aux 2 0) && Nat.beq (ob_ftq (ob_nth aux 0 0) (ob_nth aux 1 0)).2.1 (ob_nth aux 3 0) && Nat.ble (ob_nth aux 0 0) 8 && Nat.blt (ob_nth aux 1 0) (ob_nth ob_ft (ob_nth aux 0 0) []).length
def ob_okI (f pc : Nat) (ins : Instr) (nx : Nat) (aux : List Nat) (z : Int) : Bool := match ins with
  | .aload _ | .iload _ | .lload _ => Nat.beq nx (pc + 2)
  | .aload_n _ | .iload_n _ | .lload_n _ => Nat.beq nx (pc + 1)
  | .astore k | .istore k => Nat.beq nx (pc + 2) && Nat.blt k (ob_mx f)
  | .astore_n k => Nat.beq nx (pc + 1) && Nat.blt k.val (ob_mx f)
  | .istore_n k => Nat.beq nx (pc + 1) && Nat.blt k.val (ob_mx f)
  | .lstore k => Nat.beq nx (pc + 2) && Nat.blt (k + 1) (ob_mx f)
  | .lstore_n k => Nat.beq nx (pc + 1) && Nat.blt (k.val + 1) (ob_mx f)
  | .iinc k n => Nat.beq nx (pc + 3) && Nat.blt k (ob_mx f) && decide (-128 ≤ n ∧ n < 128)
  | .iconst n => Nat.beq nx (pc + 1) && decide (-128 ≤ n ∧ n < 128)
  | .bipush n => Nat.beq nx (pc + 2) && decide (-128 ≤ n ∧ n < 128)
  | .sipush n => Nat.beq nx (pc + 3) && decide (-32768 ≤ n ∧ n < 32768)
  | .lconst _ => Nat.beq nx (pc + 1)
  | .ldc i => Nat.beq nx (pc + 2) && ob_inCO (ob_ow f) i z.toNat 0 && decide (0 ≤ z ∧ z < 2147483648)
  | .ldc2_w i => Nat.beq nx (pc + 3) && ob_inCO (ob_ow f) i z.toNat 1 && decide (0 ≤ z ∧ z < 2147483648)
  | .if_icmp _ o | .ifCond _ o => Nat.beq nx (pc + 3) && decide ((pc : Int) + o = Int.ofNat (ob_nth aux 0 0))
  | .goto o => Nat.beq nx (pc + 3) && decide ((pc : Int) + o = Int.ofNat (ob_nth aux 0 0))
  | .tableswitch d lo hi os => decide ((pc : Int) + d = Int.ofNat (ob_nth aux 0 0)) && decide (os.toList.map (fun o => (pc : Int) + o) = aux.tail.map Int.ofNat) && decide (hi + 1 = lo + Int.ofNat aux.tail.length)
  | .lookupswitch d ps => decide ((pc : Int) + d = Int.ofNat (ob_nth aux 0 0)) && decide (ps.toList.map (fun o => (pc : Int) + o.2) = aux.tail.map Int.ofNat) && (ps.toList.zip (ps.toList.drop 1)).all (fun (a, next) => a.1 < next.1)
  | .getfield i => Nat.beq nx (pc + 3) && ob_okF f i aux z
  | .putfield i => Nat.beq nx (pc + 3) && ob_okF f i aux z && Nat.beq (ob_nth aux 4 0) (cond (decide ((ob_TT (ob_nth aux 0 0) (ob_nth aux 1 0)).2.2.1 = "Z")) 1 0) && (cond (Nat.beq (ob_nth aux 3 0) 0) (Nat.beq (ob_ftq (ob_nth aux 0 0) (ob_nth aux 1 0)).2.2 0) (Nat.beq (ob_ftq (ob_nth aux 0 0) (ob_nth aux 1 0)).2.2 1 && Nat.beq (ob_ow f) (ob_nth aux 0 0) && decide ((ob_y f).name = "<init>"))) && (cond (Nat.beq (ob_nth aux 2 0) 0) (Nat.beq (ob_nth aux 3 0) 0) true)
  | .new i => Nat.beq nx (pc + 3) && ob_in4 ob_CK (ob_ow f) i (ob_nth aux 0 0) && Nat.ble (ob_nth aux 0 0) 8
  | .newarray a => Nat.beq nx (pc + 2) && Nat.ble 16 (ob_nth aux 0 0) && Nat.beq (ob_kq (ob_nth aux 0 0)).2.1 (match a with
    | .int => 0
    | .boolean => 1
    | .byte => 2
    | _ => 99)
  | .anewarray i => Nat.beq nx (pc + 3) && Nat.ble 16 (ob_nth aux 0 0) && ob_in4 ob_CK (ob_ow f) i (ob_nth aux 1 0) && Nat.beq (ob_kq (ob_nth aux 0 0)).2.1 3 && Nat.beq (ob_kq (ob_nth aux 0 0)).2.2.1 (ob_nth aux 1 0 + 1)
  | .invokevirtual i => Nat.beq nx (pc + 3) && ob_okC f i aux 0 1 && Nat.ble (ob_nth aux 4 0) 8
  | .invokespecial i => Nat.beq nx (pc + 3) && (match aux with
    | [0] => ob_in4 ob_SP (ob_ow f) i 0 && Nat.ble 1 (ob_rk f)
    | _ => ob_okC f i aux 0 1 && decide ((ob_y (ob_nth aux 1 0)).name = "<init>") && Nat.ble (ob_nth aux 4 0) 8)
  | .invokestatic i => Nat.beq nx (pc + 3) && (match aux with
    | [1] => ob_in4 ob_SP (ob_ow f) i 1 && Nat.ble 1 (ob_rk f)
    | [2] => ob_in4 ob_SP (ob_ow f) i 2 && Nat.ble 1 (ob_rk f)
    | [3] => ob_in4 ob_SP (ob_ow f) i 3 && Nat.ble 1 (ob_rk f)
    | [4] => ob_in4 ob_SP (ob_ow f) i 4 && Nat.ble 1 (ob_rk f)
    | _ => ob_okC f i aux 1 0)
  | .ireturn => Nat.beq nx (pc + 1) && (match ob_rt f, ob_nth aux 0 0 with
    | some .int, 0 => true
    | some .boolean, 1 => true
    | _, _ => false)
  | .lreturn => Nat.beq nx (pc + 1) && decide (ob_rt f = some .long)
  | .return_ => Nat.beq nx (pc + 1) && decide (ob_rt f = none)
  | .iadd | .isub | .imul | .idiv | .irem | .iand | .ior | .ishl | .ishr | .i2l | .i2b | .ladd | .lmul | .lcmp | .dup | .dup2 | .pop | .arraylength | .iaload | .baload | .aaload | .iastore | .bastore | .aastore => Nat.beq nx (pc + 1)
  | _ => false
def ob_ok (f pc : Nat) (e : ob_Ent) : Bool := match e with
  | (ins, nx, aux, z) => decide (decode (ob_by f) pc = .ok (ins, nx - pc)) && Nat.blt pc nx && ob_okI f pc ins nx aux z
def ob_ckR (f : Nat) : Nat → List (Option ob_Ent) → Bool
  | _, [] => true
  | pc, none :: l => ob_ckR f (pc + 1) l
  | pc, some e :: l => ob_ok f pc e && ob_ckR f (pc + 1) l
def ob_ckC (f : Nat) : Nat → List (List (Option ob_Ent)) → Bool
  | _, [] => true
  | pc, r :: l => (Nat.beq r.length 16 || l.isEmpty) && ob_ckR f pc r && ob_ckC f (pc + 16) l
def ob_ckF (f : Nat) : Bool := ob_ckC f 0 (ob_nth (ob_nth ob_codes (f / 16) []) (f % 16) [])
end
section
set_option maxRecDepth 1000000 in
theorem ob_ck0 : (List.range' 0 16).all ob_ckF = true := by decide +kernel
set_option maxRecDepth 1000000 in
theorem ob_ck1 : (List.range' 16 16).all ob_ckF = true := by decide +kernel
set_option maxRecDepth 1000000 in
theorem ob_ck2 : (List.range' 32 16).all ob_ckF = true := by decide +kernel
set_option maxRecDepth 1000000 in
theorem ob_ck3 : (List.range' 48 16).all ob_ckF = true := by decide +kernel
set_option maxRecDepth 1000000 in
theorem ob_ck4 : (List.range' 64 16).all ob_ckF = true := by decide +kernel
set_option maxRecDepth 1000000 in
theorem ob_ck5 : (List.range' 80 16).all ob_ckF = true := by decide +kernel
end
section
set_option maxRecDepth 1000000 in
theorem ob_ck6 : (List.range' 96 16).all ob_ckF = true := by decide +kernel
set_option maxRecDepth 1000000 in
theorem ob_ck7 : (List.range' 112 16).all ob_ckF = true := by decide +kernel
set_option maxRecDepth 1000000 in
theorem ob_ck8 : (List.range' 128 16).all ob_ckF = true := by decide +kernel
set_option maxRecDepth 1000000 in
theorem ob_ck9 : (List.range' 144 16).all ob_ckF = true := by decide +kernel
set_option maxRecDepth 1000000 in
theorem ob_ck10 : (List.range' 160 16).all ob_ckF = true := by decide +kernel
end
section
set_option maxRecDepth 1000000 in
theorem ob_ck11 : (List.range' 176 16).all ob_ckF = true := by decide +kernel
set_option maxRecDepth 1000000 in
theorem ob_ck12 : (List.range' 192 16).all ob_ckF = true := by decide +kernel
set_option maxRecDepth 1000000 in
theorem ob_ck13 : (List.range' 208 16).all ob_ckF = true := by decide +kernel
set_option maxRecDepth 1000000 in
theorem ob_ck14 : (List.range' 224 14).all ob_ckF = true := by decide +kernel
set_option maxRecDepth 1000000 in
theorem ob_ck15 : ob_ckF 239 = true := by decide +kernel
end
section
set_option maxRecDepth 1000000 in
theorem ob_cl0 : (List.range' 0 8).all (fun i => ob_ckR 238 (16 * i) (ob_nth ob_c_L_law i [])) = true := by decide +kernel
set_option maxRecDepth 1000000 in
theorem ob_cl1 : (List.range' 8 8).all (fun i => ob_ckR 238 (16 * i) (ob_nth ob_c_L_law i [])) = true := by decide +kernel
set_option maxRecDepth 1000000 in
theorem ob_cl2 : (List.range' 16 8).all (fun i => ob_ckR 238 (16 * i) (ob_nth ob_c_L_law i [])) = true := by decide +kernel
set_option maxRecDepth 1000000 in
theorem ob_cl3 : (List.range' 24 8).all (fun i => ob_ckR 238 (16 * i) (ob_nth ob_c_L_law i [])) = true := by decide +kernel
set_option maxRecDepth 1000000 in
theorem ob_cl4 : (List.range' 32 8).all (fun i => ob_ckR 238 (16 * i) (ob_nth ob_c_L_law i [])) = true := by decide +kernel
set_option maxRecDepth 1000000 in
theorem ob_cl5 : (List.range' 40 8).all (fun i => ob_ckR 238 (16 * i) (ob_nth ob_c_L_law i [])) = true := by decide +kernel
set_option maxRecDepth 1000000 in
theorem ob_cl6 : (List.range' 48 8).all (fun i => ob_ckR 238 (16 * i) (ob_nth ob_c_L_law i [])) = true := by decide +kernel
set_option maxRecDepth 1000000 in
theorem ob_cl7 : (List.range' 56 7).all (fun i => ob_ckR 238 (16 * i) (ob_nth ob_c_L_law i [])) = true := by decide +kernel
end
section
-- THE TABLES' WORDS BEHIND THE LINKS
def ob_gt : List Cond := lw_tbl.filter goodWord
theorem ob_gin : GoodIn ob_gt ob_gt := fun w h => ⟨h, good_of_word (List.mem_filter.mp h).2⟩
set_option maxRecDepth 1000000 in
theorem ob_FLk : ∀ q ∈ ob_FL, lw_tbl[q.2.2.2.2]? = some (Cond.fieldLink (ob_cn q.1) q.2.1 (ob_TT q.2.2.1 q.2.2.2.1).1 (ob_TT q.2.2.1 q.2.2.2.1).2.1 (ob_TT q.2.2.1 q.2.2.2.1).2.2.1) := by decide +kernel
set_option maxRecDepth 1000000 in
theorem ob_MLk : ∀ q ∈ ob_ML, lw_tbl[q.2.2.2]? = some (Cond.methodLink (ob_cn q.1) q.2.1 (ob_y q.2.2.1)) := by decide +kernel
set_option maxRecDepth 1000000 in
theorem ob_MNk : ∀ q ∈ ob_MN, lw_tbl[q.2.2.2]? = some (Cond.methodLinkNest (ob_cn q.1) q.2.1 (ob_y q.2.2.1) "OrganBarrel") := by decide +kernel
def ob_spn (k : Nat) : MethodName := match k with
  | 0 => objectInit
  | 1 => arraycopyName
  | 2 => Lib.Math.min.name
  | 3 => Lib.Math.max.name
  | _ => Lib.Math.abs.name
set_option maxRecDepth 1000000 in
theorem ob_SPk : ∀ q ∈ ob_SP, lw_tbl[q.2.2.2]? = some (Cond.methodLink (ob_cn q.1) q.2.1 (ob_spn q.2.2.1)) := by decide +kernel
set_option maxRecDepth 1000000 in
theorem ob_CKk : ∀ q ∈ ob_CK, lw_tbl[q.2.2.2]? = some (Cond.classLink (ob_cn q.1) q.2.1 (ob_cn q.2.2.1)) := by decide +kernel
set_option maxRecDepth 1000000 in
theorem ob_COk : ∀ q ∈ ob_CO, lw_tbl[q.2.2.2.1]? = some (cond (Nat.beq q.2.2.2.2 0) (Cond.constant (ob_cn q.1) q.2.1 (Int32.ofInt (Int.ofNat q.2.2.1))) (Cond.constantLong (ob_cn q.1) q.2.1 (Int64.ofInt (Int.ofNat q.2.2.1)))) := by decide +kernel
set_option maxRecDepth 1000000 in
theorem ob_MPi : ∀ q ∈ ob_MP, lw_tbl[q.2.2.1]? = some (cond (Nat.beq (ob_sc q.1) 0) (Cond.instanceMethod (ob_y q.1)) (Cond.static (ob_y q.1))) := by decide +kernel
set_option maxRecDepth 1000000 in
theorem ob_MPs : ∀ q ∈ ob_MP, (Nat.beq (ob_sc q.1) 0 && !decide ((ob_y q.1).name = "<init>")) = true → lw_tbl[q.2.2.2]? = some (Cond.selects (ob_y q.1).cls (ob_y q.1) (ob_y q.1)) := by decide +kernel
set_option maxRecDepth 1000000 in
theorem ob_INk : ∀ q ∈ ob_IN, lw_tbl[q.2]? = some (Cond.initialized (ob_cn q.1)) := by decide +kernel
set_option maxRecDepth 1000000 in
theorem ob_ISk : ∀ q ∈ ob_IS, lw_tbl[q.2.2]? = some (Cond.instantiable (ob_cn q.1) q.2.1) ∧ q.2.1 = (ob_nth ob_ft q.1 []).length := by decide +kernel
set_option maxRecDepth 1000000 in
theorem ob_INa : ∀ c, c < 11 → ob_IN.any (fun q => Nat.beq q.1 c) = true := by decide +kernel
set_option maxRecDepth 1000000 in
theorem ob_ISa : ∀ c, c < 9 → ob_IS.any (fun q => Nat.beq q.1 c) = true := by decide +kernel
set_option maxRecDepth 1000000 in
theorem ob_MPa : ∀ f, f < 240 → f ≠ 238 → ob_MP.any (fun q => Nat.beq q.1 f) = true ∧ (ob_y f).cls = ob_cn (ob_ow f) ∧ ob_ow f < 11 := by decide +kernel
set_option maxRecDepth 1000000 in
theorem ob_laysk : ∀ c, c < 9 → ∀ w ∈ u_ws (ob_cn c) (ob_TT c) (ob_nth ob_ft c []).length, w ∈ ob_gt := by decide +kernel
end
section
set_option maxRecDepth 100000 in
theorem ob_mc0 : lw_tbl[134]? = some (Cond.code (ob_y 0) (ob_by 0) (ob_mx 0) (ob_rt 0)) := rfl
set_option maxRecDepth 100000 in
theorem ob_mc1 : lw_tbl[229]? = some (Cond.code (ob_y 1) (ob_by 1) (ob_mx 1) (ob_rt 1)) := rfl
set_option maxRecDepth 100000 in
theorem ob_mc2 : lw_tbl[438]? = some (Cond.code (ob_y 2) (ob_by 2) (ob_mx 2) (ob_rt 2)) := rfl
set_option maxRecDepth 100000 in
theorem ob_mc3 : lw_tbl[507]? = some (Cond.code (ob_y 3) (ob_by 3) (ob_mx 3) (ob_rt 3)) := rfl
set_option maxRecDepth 100000 in
theorem ob_mc4 : lw_tbl[491]? = some (Cond.code (ob_y 4) (ob_by 4) (ob_mx 4) (ob_rt 4)) := rfl
set_option maxRecDepth 100000 in
theorem ob_mc5 : lw_tbl[535]? = some (Cond.code (ob_y 5) (ob_by 5) (ob_mx 5) (ob_rt 5)) := rfl
set_option maxRecDepth 100000 in
theorem ob_mc6 : lw_tbl[724]? = some (Cond.code (ob_y 6) (ob_by 6) (ob_mx 6) (ob_rt 6)) := rfl
set_option maxRecDepth 100000 in
theorem ob_mc7 : lw_tbl[625]? = some (Cond.code (ob_y 7) (ob_by 7) (ob_mx 7) (ob_rt 7)) := rfl
set_option maxRecDepth 100000 in
theorem ob_mc8 : lw_tbl[456]? = some (Cond.code (ob_y 8) (ob_by 8) (ob_mx 8) (ob_rt 8)) := rfl
set_option maxRecDepth 100000 in
theorem ob_mc9 : lw_tbl[479]? = some (Cond.code (ob_y 9) (ob_by 9) (ob_mx 9) (ob_rt 9)) := rfl
set_option maxRecDepth 100000 in
theorem ob_mc10 : lw_tbl[487]? = some (Cond.code (ob_y 10) (ob_by 10) (ob_mx 10) (ob_rt 10)) := rfl
set_option maxRecDepth 100000 in
theorem ob_mc11 : lw_tbl[503]? = some (Cond.code (ob_y 11) (ob_by 11) (ob_mx 11) (ob_rt 11)) := rfl
set_option maxRecDepth 100000 in
theorem ob_mc12 : lw_tbl[515]? = some (Cond.code (ob_y 12) (ob_by 12) (ob_mx 12) (ob_rt 12)) := rfl
set_option maxRecDepth 100000 in
theorem ob_mc13 : lw_tbl[531]? = some (Cond.code (ob_y 13) (ob_by 13) (ob_mx 13) (ob_rt 13)) := rfl
set_option maxRecDepth 100000 in
theorem ob_mc14 : lw_tbl[547]? = some (Cond.code (ob_y 14) (ob_by 14) (ob_mx 14) (ob_rt 14)) := rfl
set_option maxRecDepth 100000 in
theorem ob_mc15 : lw_tbl[643]? = some (Cond.code (ob_y 15) (ob_by 15) (ob_mx 15) (ob_rt 15)) := rfl
set_option maxRecDepth 100000 in
theorem ob_mc16 : lw_tbl[557]? = some (Cond.code (ob_y 16) (ob_by 16) (ob_mx 16) (ob_rt 16)) := rfl
set_option maxRecDepth 100000 in
theorem ob_mc17 : lw_tbl[566]? = some (Cond.code (ob_y 17) (ob_by 17) (ob_mx 17) (ob_rt 17)) := rfl
set_option maxRecDepth 100000 in
theorem ob_mc18 : lw_tbl[753]? = some (Cond.code (ob_y 18) (ob_by 18) (ob_mx 18) (ob_rt 18)) := rfl
set_option maxRecDepth 100000 in
theorem ob_mc19 : lw_tbl[757]? = some (Cond.code (ob_y 19) (ob_by 19) (ob_mx 19) (ob_rt 19)) := rfl
set_option maxRecDepth 100000 in
theorem ob_mc20 : lw_tbl[770]? = some (Cond.code (ob_y 20) (ob_by 20) (ob_mx 20) (ob_rt 20)) := rfl
set_option maxRecDepth 100000 in
theorem ob_mc21 : lw_tbl[775]? = some (Cond.code (ob_y 21) (ob_by 21) (ob_mx 21) (ob_rt 21)) := rfl
set_option maxRecDepth 100000 in
theorem ob_mc22 : lw_tbl[784]? = some (Cond.code (ob_y 22) (ob_by 22) (ob_mx 22) (ob_rt 22)) := rfl
set_option maxRecDepth 100000 in
theorem ob_mc23 : lw_tbl[634]? = some (Cond.code (ob_y 23) (ob_by 23) (ob_mx 23) (ob_rt 23)) := rfl
set_option maxRecDepth 100000 in
theorem ob_mc24 : lw_tbl[303]? = some (Cond.code (ob_y 24) (ob_by 24) (ob_mx 24) (ob_rt 24)) := rfl
set_option maxRecDepth 100000 in
theorem ob_mc25 : lw_tbl[713]? = some (Cond.code (ob_y 25) (ob_by 25) (ob_mx 25) (ob_rt 25)) := rfl
set_option maxRecDepth 100000 in
theorem ob_mc26 : lw_tbl[717]? = some (Cond.code (ob_y 26) (ob_by 26) (ob_mx 26) (ob_rt 26)) := rfl
set_option maxRecDepth 100000 in
theorem ob_mc27 : lw_tbl[728]? = some (Cond.code (ob_y 27) (ob_by 27) (ob_mx 27) (ob_rt 27)) := rfl
set_option maxRecDepth 100000 in
theorem ob_mc28 : lw_tbl[732]? = some (Cond.code (ob_y 28) (ob_by 28) (ob_mx 28) (ob_rt 28)) := rfl
set_option maxRecDepth 100000 in
theorem ob_mc29 : lw_tbl[823]? = some (Cond.code (ob_y 29) (ob_by 29) (ob_mx 29) (ob_rt 29)) := rfl
set_option maxRecDepth 100000 in
theorem ob_mc30 : lw_tbl[762]? = some (Cond.code (ob_y 30) (ob_by 30) (ob_mx 30) (ob_rt 30)) := rfl
set_option maxRecDepth 100000 in
theorem ob_mc31 : lw_tbl[766]? = some (Cond.code (ob_y 31) (ob_by 31) (ob_mx 31) (ob_rt 31)) := rfl
set_option maxRecDepth 100000 in
theorem ob_mc32 : lw_tbl[804]? = some (Cond.code (ob_y 32) (ob_by 32) (ob_mx 32) (ob_rt 32)) := rfl
set_option maxRecDepth 100000 in
theorem ob_mc33 : lw_tbl[800]? = some (Cond.code (ob_y 33) (ob_by 33) (ob_mx 33) (ob_rt 33)) := rfl
set_option maxRecDepth 100000 in
theorem ob_mc34 : lw_tbl[336]? = some (Cond.code (ob_y 34) (ob_by 34) (ob_mx 34) (ob_rt 34)) := rfl
set_option maxRecDepth 100000 in
theorem ob_mc35 : lw_tbl[585]? = some (Cond.code (ob_y 35) (ob_by 35) (ob_mx 35) (ob_rt 35)) := rfl
set_option maxRecDepth 100000 in
theorem ob_mc36 : lw_tbl[741]? = some (Cond.code (ob_y 36) (ob_by 36) (ob_mx 36) (ob_rt 36)) := rfl
set_option maxRecDepth 100000 in
theorem ob_mc37 : lw_tbl[143]? = some (Cond.code (ob_y 37) (ob_by 37) (ob_mx 37) (ob_rt 37)) := rfl
set_option maxRecDepth 100000 in
theorem ob_mc38 : lw_tbl[445]? = some (Cond.code (ob_y 38) (ob_by 38) (ob_mx 38) (ob_rt 38)) := rfl
set_option maxRecDepth 100000 in
theorem ob_mc39 : lw_tbl[519]? = some (Cond.code (ob_y 39) (ob_by 39) (ob_mx 39) (ob_rt 39)) := rfl
set_option maxRecDepth 100000 in
theorem ob_mc40 : lw_tbl[523]? = some (Cond.code (ob_y 40) (ob_by 40) (ob_mx 40) (ob_rt 40)) := rfl
set_option maxRecDepth 100000 in
theorem ob_mc41 : lw_tbl[539]? = some (Cond.code (ob_y 41) (ob_by 41) (ob_mx 41) (ob_rt 41)) := rfl
set_option maxRecDepth 100000 in
theorem ob_mc42 : lw_tbl[862]? = some (Cond.code (ob_y 42) (ob_by 42) (ob_mx 42) (ob_rt 42)) := rfl
set_option maxRecDepth 100000 in
theorem ob_mc43 : lw_tbl[284]? = some (Cond.code (ob_y 43) (ob_by 43) (ob_mx 43) (ob_rt 43)) := rfl
set_option maxRecDepth 100000 in
theorem ob_mc44 : lw_tbl[580]? = some (Cond.code (ob_y 44) (ob_by 44) (ob_mx 44) (ob_rt 44)) := rfl
set_option maxRecDepth 100000 in
theorem ob_mc45 : lw_tbl[595]? = some (Cond.code (ob_y 45) (ob_by 45) (ob_mx 45) (ob_rt 45)) := rfl
set_option maxRecDepth 100000 in
theorem ob_mc46 : lw_tbl[613]? = some (Cond.code (ob_y 46) (ob_by 46) (ob_mx 46) (ob_rt 46)) := rfl
set_option maxRecDepth 100000 in
theorem ob_mc47 : lw_tbl[599]? = some (Cond.code (ob_y 47) (ob_by 47) (ob_mx 47) (ob_rt 47)) := rfl
set_option maxRecDepth 100000 in
theorem ob_mc48 : lw_tbl[617]? = some (Cond.code (ob_y 48) (ob_by 48) (ob_mx 48) (ob_rt 48)) := rfl
set_option maxRecDepth 100000 in
theorem ob_mc49 : lw_tbl[621]? = some (Cond.code (ob_y 49) (ob_by 49) (ob_mx 49) (ob_rt 49)) := rfl
set_option maxRecDepth 100000 in
theorem ob_mc50 : lw_tbl[651]? = some (Cond.code (ob_y 50) (ob_by 50) (ob_mx 50) (ob_rt 50)) := rfl
set_option maxRecDepth 100000 in
theorem ob_mc51 : lw_tbl[655]? = some (Cond.code (ob_y 51) (ob_by 51) (ob_mx 51) (ob_rt 51)) := rfl
set_option maxRecDepth 100000 in
theorem ob_mc52 : lw_tbl[663]? = some (Cond.code (ob_y 52) (ob_by 52) (ob_mx 52) (ob_rt 52)) := rfl
set_option maxRecDepth 100000 in
theorem ob_mc53 : lw_tbl[667]? = some (Cond.code (ob_y 53) (ob_by 53) (ob_mx 53) (ob_rt 53)) := rfl
set_option maxRecDepth 100000 in
theorem ob_mc54 : lw_tbl[671]? = some (Cond.code (ob_y 54) (ob_by 54) (ob_mx 54) (ob_rt 54)) := rfl
set_option maxRecDepth 100000 in
theorem ob_mc55 : lw_tbl[674]? = some (Cond.code (ob_y 55) (ob_by 55) (ob_mx 55) (ob_rt 55)) := rfl
set_option maxRecDepth 100000 in
theorem ob_mc56 : lw_tbl[678]? = some (Cond.code (ob_y 56) (ob_by 56) (ob_mx 56) (ob_rt 56)) := rfl
set_option maxRecDepth 100000 in
theorem ob_mc57 : lw_tbl[682]? = some (Cond.code (ob_y 57) (ob_by 57) (ob_mx 57) (ob_rt 57)) := rfl
set_option maxRecDepth 100000 in
theorem ob_mc58 : lw_tbl[689]? = some (Cond.code (ob_y 58) (ob_by 58) (ob_mx 58) (ob_rt 58)) := rfl
set_option maxRecDepth 100000 in
theorem ob_mc59 : lw_tbl[693]? = some (Cond.code (ob_y 59) (ob_by 59) (ob_mx 59) (ob_rt 59)) := rfl
set_option maxRecDepth 100000 in
theorem ob_mc60 : lw_tbl[685]? = some (Cond.code (ob_y 60) (ob_by 60) (ob_mx 60) (ob_rt 60)) := rfl
set_option maxRecDepth 100000 in
theorem ob_mc61 : lw_tbl[697]? = some (Cond.code (ob_y 61) (ob_by 61) (ob_mx 61) (ob_rt 61)) := rfl
set_option maxRecDepth 100000 in
theorem ob_mc62 : lw_tbl[187]? = some (Cond.code (ob_y 62) (ob_by 62) (ob_mx 62) (ob_rt 62)) := rfl
set_option maxRecDepth 100000 in
theorem ob_mc63 : lw_tbl[450]? = some (Cond.code (ob_y 63) (ob_by 63) (ob_mx 63) (ob_rt 63)) := rfl
set_option maxRecDepth 100000 in
theorem ob_mc64 : lw_tbl[589]? = some (Cond.code (ob_y 64) (ob_by 64) (ob_mx 64) (ob_rt 64)) := rfl
set_option maxRecDepth 100000 in
theorem ob_mc65 : lw_tbl[705]? = some (Cond.code (ob_y 65) (ob_by 65) (ob_mx 65) (ob_rt 65)) := rfl
set_option maxRecDepth 100000 in
theorem ob_mc66 : lw_tbl[850]? = some (Cond.code (ob_y 66) (ob_by 66) (ob_mx 66) (ob_rt 66)) := rfl
set_option maxRecDepth 100000 in
theorem ob_mc67 : lw_tbl[603]? = some (Cond.code (ob_y 67) (ob_by 67) (ob_mx 67) (ob_rt 67)) := rfl
set_option maxRecDepth 100000 in
theorem ob_mc68 : lw_tbl[780]? = some (Cond.code (ob_y 68) (ob_by 68) (ob_mx 68) (ob_rt 68)) := rfl
set_option maxRecDepth 100000 in
theorem ob_mc69 : lw_tbl[356]? = some (Cond.code (ob_y 69) (ob_by 69) (ob_mx 69) (ob_rt 69)) := rfl
set_option maxRecDepth 100000 in
theorem ob_mc70 : lw_tbl[870]? = some (Cond.code (ob_y 70) (ob_by 70) (ob_mx 70) (ob_rt 70)) := rfl
set_option maxRecDepth 100000 in
theorem ob_mc71 : lw_tbl[924]? = some (Cond.code (ob_y 71) (ob_by 71) (ob_mx 71) (ob_rt 71)) := rfl
set_option maxRecDepth 100000 in
theorem ob_mc72 : lw_tbl[920]? = some (Cond.code (ob_y 72) (ob_by 72) (ob_mx 72) (ob_rt 72)) := rfl
set_option maxRecDepth 100000 in
theorem ob_mc73 : lw_tbl[882]? = some (Cond.code (ob_y 73) (ob_by 73) (ob_mx 73) (ob_rt 73)) := rfl
set_option maxRecDepth 100000 in
theorem ob_mc74 : lw_tbl[885]? = some (Cond.code (ob_y 74) (ob_by 74) (ob_mx 74) (ob_rt 74)) := rfl
set_option maxRecDepth 100000 in
theorem ob_mc75 : lw_tbl[889]? = some (Cond.code (ob_y 75) (ob_by 75) (ob_mx 75) (ob_rt 75)) := rfl
set_option maxRecDepth 100000 in
theorem ob_mc76 : lw_tbl[912]? = some (Cond.code (ob_y 76) (ob_by 76) (ob_mx 76) (ob_rt 76)) := rfl
set_option maxRecDepth 100000 in
theorem ob_mc77 : lw_tbl[893]? = some (Cond.code (ob_y 77) (ob_by 77) (ob_mx 77) (ob_rt 77)) := rfl
set_option maxRecDepth 100000 in
theorem ob_mc78 : lw_tbl[897]? = some (Cond.code (ob_y 78) (ob_by 78) (ob_mx 78) (ob_rt 78)) := rfl
set_option maxRecDepth 100000 in
theorem ob_mc79 : lw_tbl[904]? = some (Cond.code (ob_y 79) (ob_by 79) (ob_mx 79) (ob_rt 79)) := rfl
set_option maxRecDepth 100000 in
theorem ob_mc80 : lw_tbl[908]? = some (Cond.code (ob_y 80) (ob_by 80) (ob_mx 80) (ob_rt 80)) := rfl
set_option maxRecDepth 100000 in
theorem ob_mc81 : lw_tbl[900]? = some (Cond.code (ob_y 81) (ob_by 81) (ob_mx 81) (ob_rt 81)) := rfl
set_option maxRecDepth 100000 in
theorem ob_mc82 : lw_tbl[126]? = some (Cond.code (ob_y 82) (ob_by 82) (ob_mx 82) (ob_rt 82)) := rfl
set_option maxRecDepth 100000 in
theorem ob_mc83 : lw_tbl[430]? = some (Cond.code (ob_y 83) (ob_by 83) (ob_mx 83) (ob_rt 83)) := rfl
set_option maxRecDepth 100000 in
theorem ob_mc84 : lw_tbl[475]? = some (Cond.code (ob_y 84) (ob_by 84) (ob_mx 84) (ob_rt 84)) := rfl
set_option maxRecDepth 100000 in
theorem ob_mc85 : lw_tbl[483]? = some (Cond.code (ob_y 85) (ob_by 85) (ob_mx 85) (ob_rt 85)) := rfl
set_option maxRecDepth 100000 in
theorem ob_mc86 : lw_tbl[495]? = some (Cond.code (ob_y 86) (ob_by 86) (ob_mx 86) (ob_rt 86)) := rfl
set_option maxRecDepth 100000 in
theorem ob_mc87 : lw_tbl[499]? = some (Cond.code (ob_y 87) (ob_by 87) (ob_mx 87) (ob_rt 87)) := rfl
set_option maxRecDepth 100000 in
theorem ob_mc88 : lw_tbl[511]? = some (Cond.code (ob_y 88) (ob_by 88) (ob_mx 88) (ob_rt 88)) := rfl
set_option maxRecDepth 100000 in
theorem ob_mc89 : lw_tbl[527]? = some (Cond.code (ob_y 89) (ob_by 89) (ob_mx 89) (ob_rt 89)) := rfl
set_option maxRecDepth 100000 in
theorem ob_mc90 : lw_tbl[543]? = some (Cond.code (ob_y 90) (ob_by 90) (ob_mx 90) (ob_rt 90)) := rfl
set_option maxRecDepth 100000 in
theorem ob_mc91 : lw_tbl[551]? = some (Cond.code (ob_y 91) (ob_by 91) (ob_mx 91) (ob_rt 91)) := rfl
set_option maxRecDepth 100000 in
theorem ob_mc92 : lw_tbl[561]? = some (Cond.code (ob_y 92) (ob_by 92) (ob_mx 92) (ob_rt 92)) := rfl
set_option maxRecDepth 100000 in
theorem ob_mc93 : lw_tbl[576]? = some (Cond.code (ob_y 93) (ob_by 93) (ob_mx 93) (ob_rt 93)) := rfl
set_option maxRecDepth 100000 in
theorem ob_mc94 : lw_tbl[639]? = some (Cond.code (ob_y 94) (ob_by 94) (ob_mx 94) (ob_rt 94)) := rfl
set_option maxRecDepth 100000 in
theorem ob_mc95 : lw_tbl[647]? = some (Cond.code (ob_y 95) (ob_by 95) (ob_mx 95) (ob_rt 95)) := rfl
set_option maxRecDepth 100000 in
theorem ob_mc96 : lw_tbl[659]? = some (Cond.code (ob_y 96) (ob_by 96) (ob_mx 96) (ob_rt 96)) := rfl
set_option maxRecDepth 100000 in
theorem ob_mc97 : lw_tbl[701]? = some (Cond.code (ob_y 97) (ob_by 97) (ob_mx 97) (ob_rt 97)) := rfl
set_option maxRecDepth 100000 in
theorem ob_mc98 : lw_tbl[737]? = some (Cond.code (ob_y 98) (ob_by 98) (ob_mx 98) (ob_rt 98)) := rfl
set_option maxRecDepth 100000 in
theorem ob_mc99 : lw_tbl[745]? = some (Cond.code (ob_y 99) (ob_by 99) (ob_mx 99) (ob_rt 99)) := rfl
set_option maxRecDepth 100000 in
theorem ob_mc100 : lw_tbl[796]? = some (Cond.code (ob_y 100) (ob_by 100) (ob_mx 100) (ob_rt 100)) := rfl
set_option maxRecDepth 100000 in
theorem ob_mc101 : lw_tbl[809]? = some (Cond.code (ob_y 101) (ob_by 101) (ob_mx 101) (ob_rt 101)) := rfl
set_option maxRecDepth 100000 in
theorem ob_mc102 : lw_tbl[815]? = some (Cond.code (ob_y 102) (ob_by 102) (ob_mx 102) (ob_rt 102)) := rfl
set_option maxRecDepth 100000 in
theorem ob_mc103 : lw_tbl[828]? = some (Cond.code (ob_y 103) (ob_by 103) (ob_mx 103) (ob_rt 103)) := rfl
set_option maxRecDepth 100000 in
theorem ob_mc104 : lw_tbl[836]? = some (Cond.code (ob_y 104) (ob_by 104) (ob_mx 104) (ob_rt 104)) := rfl
set_option maxRecDepth 100000 in
theorem ob_mc105 : lw_tbl[846]? = some (Cond.code (ob_y 105) (ob_by 105) (ob_mx 105) (ob_rt 105)) := rfl
set_option maxRecDepth 100000 in
theorem ob_mc106 : lw_tbl[854]? = some (Cond.code (ob_y 106) (ob_by 106) (ob_mx 106) (ob_rt 106)) := rfl
set_option maxRecDepth 100000 in
theorem ob_mc107 : lw_tbl[866]? = some (Cond.code (ob_y 107) (ob_by 107) (ob_mx 107) (ob_rt 107)) := rfl
set_option maxRecDepth 100000 in
theorem ob_mc108 : lw_tbl[874]? = some (Cond.code (ob_y 108) (ob_by 108) (ob_mx 108) (ob_rt 108)) := rfl
set_option maxRecDepth 100000 in
theorem ob_mc109 : lw_tbl[878]? = some (Cond.code (ob_y 109) (ob_by 109) (ob_mx 109) (ob_rt 109)) := rfl
set_option maxRecDepth 100000 in
theorem ob_mc110 : lw_tbl[938]? = some (Cond.code (ob_y 110) (ob_by 110) (ob_mx 110) (ob_rt 110)) := rfl
set_option maxRecDepth 100000 in
theorem ob_mc111 : lw_tbl[942]? = some (Cond.code (ob_y 111) (ob_by 111) (ob_mx 111) (ob_rt 111)) := rfl
set_option maxRecDepth 100000 in
theorem ob_mc112 : lw_tbl[950]? = some (Cond.code (ob_y 112) (ob_by 112) (ob_mx 112) (ob_rt 112)) := rfl
set_option maxRecDepth 100000 in
theorem ob_mc113 : lw_tbl[956]? = some (Cond.code (ob_y 113) (ob_by 113) (ob_mx 113) (ob_rt 113)) := rfl
set_option maxRecDepth 100000 in
theorem ob_mc114 : lw_tbl[434]? = some (Cond.code (ob_y 114) (ob_by 114) (ob_mx 114) (ob_rt 114)) := rfl
set_option maxRecDepth 100000 in
theorem ob_mc115 : lw_tbl[463]? = some (Cond.code (ob_y 115) (ob_by 115) (ob_mx 115) (ob_rt 115)) := rfl
set_option maxRecDepth 100000 in
theorem ob_mc116 : lw_tbl[467]? = some (Cond.code (ob_y 116) (ob_by 116) (ob_mx 116) (ob_rt 116)) := rfl
set_option maxRecDepth 100000 in
theorem ob_mc117 : lw_tbl[471]? = some (Cond.code (ob_y 117) (ob_by 117) (ob_mx 117) (ob_rt 117)) := rfl
set_option maxRecDepth 100000 in
theorem ob_mc118 : lw_tbl[946]? = some (Cond.code (ob_y 118) (ob_by 118) (ob_mx 118) (ob_rt 118)) := rfl
set_option maxRecDepth 100000 in
theorem ob_mc119 : lw_tbl[709]? = some (Cond.code (ob_y 119) (ob_by 119) (ob_mx 119) (ob_rt 119)) := rfl
set_option maxRecDepth 100000 in
theorem ob_mc120 : lw_tbl[749]? = some (Cond.code (ob_y 120) (ob_by 120) (ob_mx 120) (ob_rt 120)) := rfl
set_option maxRecDepth 100000 in
theorem ob_mc121 : lw_tbl[819]? = some (Cond.code (ob_y 121) (ob_by 121) (ob_mx 121) (ob_rt 121)) := rfl
set_option maxRecDepth 100000 in
theorem ob_mc122 : lw_tbl[832]? = some (Cond.code (ob_y 122) (ob_by 122) (ob_mx 122) (ob_rt 122)) := rfl
set_option maxRecDepth 100000 in
theorem ob_mc123 : lw_tbl[840]? = some (Cond.code (ob_y 123) (ob_by 123) (ob_mx 123) (ob_rt 123)) := rfl
set_option maxRecDepth 100000 in
theorem ob_mc124 : lw_tbl[858]? = some (Cond.code (ob_y 124) (ob_by 124) (ob_mx 124) (ob_rt 124)) := rfl
set_option maxRecDepth 100000 in
theorem ob_mc125 : lw_tbl[916]? = some (Cond.code (ob_y 125) (ob_by 125) (ob_mx 125) (ob_rt 125)) := rfl
set_option maxRecDepth 100000 in
theorem ob_mc126 : lw_tbl[928]? = some (Cond.code (ob_y 126) (ob_by 126) (ob_mx 126) (ob_rt 126)) := rfl
set_option maxRecDepth 100000 in
theorem ob_mc127 : lw_tbl[933]? = some (Cond.code (ob_y 127) (ob_by 127) (ob_mx 127) (ob_rt 127)) := rfl
set_option maxRecDepth 100000 in
theorem ob_mc128 : lw_tbl[459]? = some (Cond.code (ob_y 128) (ob_by 128) (ob_mx 128) (ob_rt 128)) := rfl
set_option maxRecDepth 100000 in
theorem ob_mc129 : lw_tbl[569]? = some (Cond.code (ob_y 129) (ob_by 129) (ob_mx 129) (ob_rt 129)) := rfl
set_option maxRecDepth 100000 in
theorem ob_mc130 : lw_tbl[572]? = some (Cond.code (ob_y 130) (ob_by 130) (ob_mx 130) (ob_rt 130)) := rfl
set_option maxRecDepth 100000 in
theorem ob_mc131 : lw_tbl[606]? = some (Cond.code (ob_y 131) (ob_by 131) (ob_mx 131) (ob_rt 131)) := rfl
set_option maxRecDepth 100000 in
theorem ob_mc132 : lw_tbl[787]? = some (Cond.code (ob_y 132) (ob_by 132) (ob_mx 132) (ob_rt 132)) := rfl
set_option maxRecDepth 100000 in
theorem ob_mc133 : lw_tbl[961]? = some (Cond.code (ob_y 133) (ob_by 133) (ob_mx 133) (ob_rt 133)) := rfl
set_option maxRecDepth 100000 in
theorem ob_mc134 : lw_tbl[1054]? = some (Cond.code (ob_y 134) (ob_by 134) (ob_mx 134) (ob_rt 134)) := rfl
set_option maxRecDepth 100000 in
theorem ob_mc135 : lw_tbl[1060]? = some (Cond.code (ob_y 135) (ob_by 135) (ob_mx 135) (ob_rt 135)) := rfl
set_option maxRecDepth 100000 in
theorem ob_mc136 : lw_tbl[1068]? = some (Cond.code (ob_y 136) (ob_by 136) (ob_mx 136) (ob_rt 136)) := rfl
set_option maxRecDepth 100000 in
theorem ob_mc137 : lw_tbl[966]? = some (Cond.code (ob_y 137) (ob_by 137) (ob_mx 137) (ob_rt 137)) := rfl
set_option maxRecDepth 100000 in
theorem ob_mc138 : lw_tbl[1064]? = some (Cond.code (ob_y 138) (ob_by 138) (ob_mx 138) (ob_rt 138)) := rfl
set_option maxRecDepth 100000 in
theorem ob_mc139 : lw_tbl[1113]? = some (Cond.code (ob_y 139) (ob_by 139) (ob_mx 139) (ob_rt 139)) := rfl
set_option maxRecDepth 100000 in
theorem ob_mc140 : lw_tbl[1109]? = some (Cond.code (ob_y 140) (ob_by 140) (ob_mx 140) (ob_rt 140)) := rfl
set_option maxRecDepth 100000 in
theorem ob_mc141 : lw_tbl[1089]? = some (Cond.code (ob_y 141) (ob_by 141) (ob_mx 141) (ob_rt 141)) := rfl
set_option maxRecDepth 100000 in
theorem ob_mc142 : lw_tbl[1121]? = some (Cond.code (ob_y 142) (ob_by 142) (ob_mx 142) (ob_rt 142)) := rfl
set_option maxRecDepth 100000 in
theorem ob_mc143 : lw_tbl[1125]? = some (Cond.code (ob_y 143) (ob_by 143) (ob_mx 143) (ob_rt 143)) := rfl
set_option maxRecDepth 100000 in
theorem ob_mc144 : lw_tbl[1182]? = some (Cond.code (ob_y 144) (ob_by 144) (ob_mx 144) (ob_rt 144)) := rfl
set_option maxRecDepth 100000 in
theorem ob_mc145 : lw_tbl[1231]? = some (Cond.code (ob_y 145) (ob_by 145) (ob_mx 145) (ob_rt 145)) := rfl
set_option maxRecDepth 100000 in
theorem ob_mc146 : lw_tbl[1203]? = some (Cond.code (ob_y 146) (ob_by 146) (ob_mx 146) (ob_rt 146)) := rfl
set_option maxRecDepth 100000 in
theorem ob_mc147 : lw_tbl[1199]? = some (Cond.code (ob_y 147) (ob_by 147) (ob_mx 147) (ob_rt 147)) := rfl
set_option maxRecDepth 100000 in
theorem ob_mc148 : lw_tbl[1137]? = some (Cond.code (ob_y 148) (ob_by 148) (ob_mx 148) (ob_rt 148)) := rfl
set_option maxRecDepth 100000 in
theorem ob_mc149 : lw_tbl[1141]? = some (Cond.code (ob_y 149) (ob_by 149) (ob_mx 149) (ob_rt 149)) := rfl
set_option maxRecDepth 100000 in
theorem ob_mc150 : lw_tbl[1145]? = some (Cond.code (ob_y 150) (ob_by 150) (ob_mx 150) (ob_rt 150)) := rfl
set_option maxRecDepth 100000 in
theorem ob_mc151 : lw_tbl[1195]? = some (Cond.code (ob_y 151) (ob_by 151) (ob_mx 151) (ob_rt 151)) := rfl
set_option maxRecDepth 100000 in
theorem ob_mc152 : lw_tbl[1207]? = some (Cond.code (ob_y 152) (ob_by 152) (ob_mx 152) (ob_rt 152)) := rfl
set_option maxRecDepth 100000 in
theorem ob_mc153 : lw_tbl[1243]? = some (Cond.code (ob_y 153) (ob_by 153) (ob_mx 153) (ob_rt 153)) := rfl
set_option maxRecDepth 100000 in
theorem ob_mc154 : lw_tbl[1049]? = some (Cond.code (ob_y 154) (ob_by 154) (ob_mx 154) (ob_rt 154)) := rfl
set_option maxRecDepth 100000 in
theorem ob_mc155 : lw_tbl[1077]? = some (Cond.code (ob_y 155) (ob_by 155) (ob_mx 155) (ob_rt 155)) := rfl
set_option maxRecDepth 100000 in
theorem ob_mc156 : lw_tbl[1072]? = some (Cond.code (ob_y 156) (ob_by 156) (ob_mx 156) (ob_rt 156)) := rfl
set_option maxRecDepth 100000 in
theorem ob_mc157 : lw_tbl[1085]? = some (Cond.code (ob_y 157) (ob_by 157) (ob_mx 157) (ob_rt 157)) := rfl
set_option maxRecDepth 100000 in
theorem ob_mc158 : lw_tbl[1081]? = some (Cond.code (ob_y 158) (ob_by 158) (ob_mx 158) (ob_rt 158)) := rfl
set_option maxRecDepth 100000 in
theorem ob_mc159 : lw_tbl[1097]? = some (Cond.code (ob_y 159) (ob_by 159) (ob_mx 159) (ob_rt 159)) := rfl
set_option maxRecDepth 100000 in
theorem ob_mc160 : lw_tbl[1093]? = some (Cond.code (ob_y 160) (ob_by 160) (ob_mx 160) (ob_rt 160)) := rfl
set_option maxRecDepth 100000 in
theorem ob_mc161 : lw_tbl[1105]? = some (Cond.code (ob_y 161) (ob_by 161) (ob_mx 161) (ob_rt 161)) := rfl
set_option maxRecDepth 100000 in
theorem ob_mc162 : lw_tbl[1117]? = some (Cond.code (ob_y 162) (ob_by 162) (ob_mx 162) (ob_rt 162)) := rfl
set_option maxRecDepth 100000 in
theorem ob_mc163 : lw_tbl[1101]? = some (Cond.code (ob_y 163) (ob_by 163) (ob_mx 163) (ob_rt 163)) := rfl
set_option maxRecDepth 100000 in
theorem ob_mc164 : lw_tbl[1133]? = some (Cond.code (ob_y 164) (ob_by 164) (ob_mx 164) (ob_rt 164)) := rfl
set_option maxRecDepth 100000 in
theorem ob_mc165 : lw_tbl[1149]? = some (Cond.code (ob_y 165) (ob_by 165) (ob_mx 165) (ob_rt 165)) := rfl
set_option maxRecDepth 100000 in
theorem ob_mc166 : lw_tbl[1129]? = some (Cond.code (ob_y 166) (ob_by 166) (ob_mx 166) (ob_rt 166)) := rfl
set_option maxRecDepth 100000 in
theorem ob_mc167 : lw_tbl[1157]? = some (Cond.code (ob_y 167) (ob_by 167) (ob_mx 167) (ob_rt 167)) := rfl
set_option maxRecDepth 100000 in
theorem ob_mc168 : lw_tbl[1153]? = some (Cond.code (ob_y 168) (ob_by 168) (ob_mx 168) (ob_rt 168)) := rfl
set_option maxRecDepth 100000 in
theorem ob_mc169 : lw_tbl[1165]? = some (Cond.code (ob_y 169) (ob_by 169) (ob_mx 169) (ob_rt 169)) := rfl
set_option maxRecDepth 100000 in
theorem ob_mc170 : lw_tbl[1169]? = some (Cond.code (ob_y 170) (ob_by 170) (ob_mx 170) (ob_rt 170)) := rfl
set_option maxRecDepth 100000 in
theorem ob_mc171 : lw_tbl[1161]? = some (Cond.code (ob_y 171) (ob_by 171) (ob_mx 171) (ob_rt 171)) := rfl
set_option maxRecDepth 100000 in
theorem ob_mc172 : lw_tbl[1178]? = some (Cond.code (ob_y 172) (ob_by 172) (ob_mx 172) (ob_rt 172)) := rfl
set_option maxRecDepth 100000 in
theorem ob_mc173 : lw_tbl[1173]? = some (Cond.code (ob_y 173) (ob_by 173) (ob_mx 173) (ob_rt 173)) := rfl
set_option maxRecDepth 100000 in
theorem ob_mc174 : lw_tbl[1191]? = some (Cond.code (ob_y 174) (ob_by 174) (ob_mx 174) (ob_rt 174)) := rfl
set_option maxRecDepth 100000 in
theorem ob_mc175 : lw_tbl[1186]? = some (Cond.code (ob_y 175) (ob_by 175) (ob_mx 175) (ob_rt 175)) := rfl
set_option maxRecDepth 100000 in
theorem ob_mc176 : lw_tbl[1219]? = some (Cond.code (ob_y 176) (ob_by 176) (ob_mx 176) (ob_rt 176)) := rfl
set_option maxRecDepth 100000 in
theorem ob_mc177 : lw_tbl[1227]? = some (Cond.code (ob_y 177) (ob_by 177) (ob_mx 177) (ob_rt 177)) := rfl
set_option maxRecDepth 100000 in
theorem ob_mc178 : lw_tbl[1223]? = some (Cond.code (ob_y 178) (ob_by 178) (ob_mx 178) (ob_rt 178)) := rfl
set_option maxRecDepth 100000 in
theorem ob_mc179 : lw_tbl[1254]? = some (Cond.code (ob_y 179) (ob_by 179) (ob_mx 179) (ob_rt 179)) := rfl
set_option maxRecDepth 100000 in
theorem ob_mc180 : lw_tbl[1250]? = some (Cond.code (ob_y 180) (ob_by 180) (ob_mx 180) (ob_rt 180)) := rfl
set_option maxRecDepth 100000 in
theorem ob_mc181 : lw_tbl[1247]? = some (Cond.code (ob_y 181) (ob_by 181) (ob_mx 181) (ob_rt 181)) := rfl
set_option maxRecDepth 100000 in
theorem ob_mc182 : lw_tbl[1239]? = some (Cond.code (ob_y 182) (ob_by 182) (ob_mx 182) (ob_rt 182)) := rfl
set_option maxRecDepth 100000 in
theorem ob_mc183 : lw_tbl[1235]? = some (Cond.code (ob_y 183) (ob_by 183) (ob_mx 183) (ob_rt 183)) := rfl
set_option maxRecDepth 100000 in
theorem ob_mc184 : lw_tbl[1215]? = some (Cond.code (ob_y 184) (ob_by 184) (ob_mx 184) (ob_rt 184)) := rfl
set_option maxRecDepth 100000 in
theorem ob_mc185 : lw_tbl[1262]? = some (Cond.code (ob_y 185) (ob_by 185) (ob_mx 185) (ob_rt 185)) := rfl
set_option maxRecDepth 100000 in
theorem ob_mc186 : lw_tbl[1258]? = some (Cond.code (ob_y 186) (ob_by 186) (ob_mx 186) (ob_rt 186)) := rfl
set_option maxRecDepth 100000 in
theorem ob_mc187 : lw_tbl[1211]? = some (Cond.code (ob_y 187) (ob_by 187) (ob_mx 187) (ob_rt 187)) := rfl
set_option maxRecDepth 100000 in
theorem ob_mc188 : lw_tbl[1270]? = some (Cond.code (ob_y 188) (ob_by 188) (ob_mx 188) (ob_rt 188)) := rfl
set_option maxRecDepth 100000 in
theorem ob_mc189 : lw_tbl[1274]? = some (Cond.code (ob_y 189) (ob_by 189) (ob_mx 189) (ob_rt 189)) := rfl
set_option maxRecDepth 100000 in
theorem ob_mc190 : lw_tbl[1266]? = some (Cond.code (ob_y 190) (ob_by 190) (ob_mx 190) (ob_rt 190)) := rfl
set_option maxRecDepth 100000 in
theorem ob_mc191 : lw_tbl[1278]? = some (Cond.code (ob_y 191) (ob_by 191) (ob_mx 191) (ob_rt 191)) := rfl
set_option maxRecDepth 100000 in
theorem ob_mc192 : lw_tbl[1298]? = some (Cond.code (ob_y 192) (ob_by 192) (ob_mx 192) (ob_rt 192)) := rfl
set_option maxRecDepth 100000 in
theorem ob_mc193 : lw_tbl[1294]? = some (Cond.code (ob_y 193) (ob_by 193) (ob_mx 193) (ob_rt 193)) := rfl
set_option maxRecDepth 100000 in
theorem ob_mc194 : lw_tbl[1302]? = some (Cond.code (ob_y 194) (ob_by 194) (ob_mx 194) (ob_rt 194)) := rfl
set_option maxRecDepth 100000 in
theorem ob_mc195 : lw_tbl[1290]? = some (Cond.code (ob_y 195) (ob_by 195) (ob_mx 195) (ob_rt 195)) := rfl
set_option maxRecDepth 100000 in
theorem ob_mc196 : lw_tbl[1286]? = some (Cond.code (ob_y 196) (ob_by 196) (ob_mx 196) (ob_rt 196)) := rfl
set_option maxRecDepth 100000 in
theorem ob_mc197 : lw_tbl[1282]? = some (Cond.code (ob_y 197) (ob_by 197) (ob_mx 197) (ob_rt 197)) := rfl
set_option maxRecDepth 100000 in
theorem ob_mc198 : lw_tbl[1328]? = some (Cond.code (ob_y 198) (ob_by 198) (ob_mx 198) (ob_rt 198)) := rfl
set_option maxRecDepth 100000 in
theorem ob_mc199 : lw_tbl[1324]? = some (Cond.code (ob_y 199) (ob_by 199) (ob_mx 199) (ob_rt 199)) := rfl
set_option maxRecDepth 100000 in
theorem ob_mc200 : lw_tbl[1316]? = some (Cond.code (ob_y 200) (ob_by 200) (ob_mx 200) (ob_rt 200)) := rfl
set_option maxRecDepth 100000 in
theorem ob_mc201 : lw_tbl[1320]? = some (Cond.code (ob_y 201) (ob_by 201) (ob_mx 201) (ob_rt 201)) := rfl
set_option maxRecDepth 100000 in
theorem ob_mc202 : lw_tbl[1312]? = some (Cond.code (ob_y 202) (ob_by 202) (ob_mx 202) (ob_rt 202)) := rfl
set_option maxRecDepth 100000 in
theorem ob_mc203 : lw_tbl[1352]? = some (Cond.code (ob_y 203) (ob_by 203) (ob_mx 203) (ob_rt 203)) := rfl
set_option maxRecDepth 100000 in
theorem ob_mc204 : lw_tbl[1376]? = some (Cond.code (ob_y 204) (ob_by 204) (ob_mx 204) (ob_rt 204)) := rfl
set_option maxRecDepth 100000 in
theorem ob_mc205 : lw_tbl[1332]? = some (Cond.code (ob_y 205) (ob_by 205) (ob_mx 205) (ob_rt 205)) := rfl
set_option maxRecDepth 100000 in
theorem ob_mc206 : lw_tbl[1336]? = some (Cond.code (ob_y 206) (ob_by 206) (ob_mx 206) (ob_rt 206)) := rfl
set_option maxRecDepth 100000 in
theorem ob_mc207 : lw_tbl[1307]? = some (Cond.code (ob_y 207) (ob_by 207) (ob_mx 207) (ob_rt 207)) := rfl
set_option maxRecDepth 100000 in
theorem ob_mc208 : lw_tbl[1340]? = some (Cond.code (ob_y 208) (ob_by 208) (ob_mx 208) (ob_rt 208)) := rfl
set_option maxRecDepth 100000 in
theorem ob_mc209 : lw_tbl[1364]? = some (Cond.code (ob_y 209) (ob_by 209) (ob_mx 209) (ob_rt 209)) := rfl
set_option maxRecDepth 100000 in
theorem ob_mc210 : lw_tbl[1356]? = some (Cond.code (ob_y 210) (ob_by 210) (ob_mx 210) (ob_rt 210)) := rfl
set_option maxRecDepth 100000 in
theorem ob_mc211 : lw_tbl[1360]? = some (Cond.code (ob_y 211) (ob_by 211) (ob_mx 211) (ob_rt 211)) := rfl
set_option maxRecDepth 100000 in
theorem ob_mc212 : lw_tbl[1348]? = some (Cond.code (ob_y 212) (ob_by 212) (ob_mx 212) (ob_rt 212)) := rfl
set_option maxRecDepth 100000 in
theorem ob_mc213 : lw_tbl[1344]? = some (Cond.code (ob_y 213) (ob_by 213) (ob_mx 213) (ob_rt 213)) := rfl
set_option maxRecDepth 100000 in
theorem ob_mc214 : lw_tbl[1372]? = some (Cond.code (ob_y 214) (ob_by 214) (ob_mx 214) (ob_rt 214)) := rfl
set_option maxRecDepth 100000 in
theorem ob_mc215 : lw_tbl[1368]? = some (Cond.code (ob_y 215) (ob_by 215) (ob_mx 215) (ob_rt 215)) := rfl
set_option maxRecDepth 100000 in
theorem ob_mc216 : lw_tbl[1380]? = some (Cond.code (ob_y 216) (ob_by 216) (ob_mx 216) (ob_rt 216)) := rfl
set_option maxRecDepth 100000 in
theorem ob_mc217 : lw_tbl[1384]? = some (Cond.code (ob_y 217) (ob_by 217) (ob_mx 217) (ob_rt 217)) := rfl
set_option maxRecDepth 100000 in
theorem ob_mc218 : lw_tbl[1389]? = some (Cond.code (ob_y 218) (ob_by 218) (ob_mx 218) (ob_rt 218)) := rfl
set_option maxRecDepth 100000 in
theorem ob_mc219 : lw_tbl[1397]? = some (Cond.code (ob_y 219) (ob_by 219) (ob_mx 219) (ob_rt 219)) := rfl
set_option maxRecDepth 100000 in
theorem ob_mc220 : lw_tbl[1393]? = some (Cond.code (ob_y 220) (ob_by 220) (ob_mx 220) (ob_rt 220)) := rfl
set_option maxRecDepth 100000 in
theorem ob_mc221 : lw_tbl[1405]? = some (Cond.code (ob_y 221) (ob_by 221) (ob_mx 221) (ob_rt 221)) := rfl
set_option maxRecDepth 100000 in
theorem ob_mc222 : lw_tbl[1401]? = some (Cond.code (ob_y 222) (ob_by 222) (ob_mx 222) (ob_rt 222)) := rfl
set_option maxRecDepth 100000 in
theorem ob_mc223 : lw_tbl[1409]? = some (Cond.code (ob_y 223) (ob_by 223) (ob_mx 223) (ob_rt 223)) := rfl
set_option maxRecDepth 100000 in
theorem ob_mc224 : lw_tbl[1413]? = some (Cond.code (ob_y 224) (ob_by 224) (ob_mx 224) (ob_rt 224)) := rfl
set_option maxRecDepth 100000 in
theorem ob_mc225 : lw_tbl[1418]? = some (Cond.code (ob_y 225) (ob_by 225) (ob_mx 225) (ob_rt 225)) := rfl
set_option maxRecDepth 100000 in
theorem ob_mc226 : lw_tbl[1430]? = some (Cond.code (ob_y 226) (ob_by 226) (ob_mx 226) (ob_rt 226)) := rfl
set_option maxRecDepth 100000 in
theorem ob_mc227 : lw_tbl[1438]? = some (Cond.code (ob_y 227) (ob_by 227) (ob_mx 227) (ob_rt 227)) := rfl
set_option maxRecDepth 100000 in
theorem ob_mc228 : lw_tbl[1434]? = some (Cond.code (ob_y 228) (ob_by 228) (ob_mx 228) (ob_rt 228)) := rfl
set_option maxRecDepth 100000 in
theorem ob_mc229 : lw_tbl[1444]? = some (Cond.code (ob_y 229) (ob_by 229) (ob_mx 229) (ob_rt 229)) := rfl
set_option maxRecDepth 100000 in
theorem ob_mc230 : lw_tbl[1448]? = some (Cond.code (ob_y 230) (ob_by 230) (ob_mx 230) (ob_rt 230)) := rfl
set_option maxRecDepth 100000 in
theorem ob_mc231 : lw_tbl[1426]? = some (Cond.code (ob_y 231) (ob_by 231) (ob_mx 231) (ob_rt 231)) := rfl
set_option maxRecDepth 100000 in
theorem ob_mc232 : lw_tbl[1422]? = some (Cond.code (ob_y 232) (ob_by 232) (ob_mx 232) (ob_rt 232)) := rfl
set_option maxRecDepth 100000 in
theorem ob_mc233 : lw_tbl[1452]? = some (Cond.code (ob_y 233) (ob_by 233) (ob_mx 233) (ob_rt 233)) := rfl
set_option maxRecDepth 100000 in
theorem ob_mc234 : lw_tbl[1456]? = some (Cond.code (ob_y 234) (ob_by 234) (ob_mx 234) (ob_rt 234)) := rfl
set_option maxRecDepth 100000 in
theorem ob_mc235 : lw_tbl[1465]? = some (Cond.code (ob_y 235) (ob_by 235) (ob_mx 235) (ob_rt 235)) := rfl
set_option maxRecDepth 100000 in
theorem ob_mc236 : lw_tbl[1460]? = some (Cond.code (ob_y 236) (ob_by 236) (ob_mx 236) (ob_rt 236)) := rfl
set_option maxRecDepth 100000 in
theorem ob_mc237 : lw_tbl[1469]? = some (Cond.code (ob_y 237) (ob_by 237) (ob_mx 237) (ob_rt 237)) := rfl
set_option maxRecDepth 100000 in
theorem ob_mc239 : lw_tbl[232]? = some (Cond.code (ob_y 239) (ob_by 239) (ob_mx 239) (ob_rt 239)) := rfl
theorem ob_MCk : ∀ f, f < 240 → f ≠ 238 → Cond.code (ob_y f) (ob_by f) (ob_mx f) (ob_rt f) ∈ lw_tbl := by
  intro f h1 h2
  match f, h1, h2 with
  | 0, _, _ => exact List.mem_of_getElem? ob_mc0
  | 1, _, _ => exact List.mem_of_getElem? ob_mc1
  | 2, _, _ => exact List.mem_of_getElem? ob_mc2
  | 3, _, _ => exact List.mem_of_getElem? ob_mc3
  | 4, _, _ => exact List.mem_of_getElem? ob_mc4
  | 5, _, _ => exact List.mem_of_getElem? ob_mc5
  | 6, _, _ => exact List.mem_of_getElem? ob_mc6
  | 7, _, _ => exact List.mem_of_getElem? ob_mc7
  | 8, _, _ => exact List.mem_of_getElem? ob_mc8
  | 9, _, _ => exact List.mem_of_getElem? ob_mc9
  | 10, _, _ => exact List.mem_of_getElem? ob_mc10
  | 11, _, _ => exact List.mem_of_getElem? ob_mc11
  | 12, _, _ => exact List.mem_of_getElem? ob_mc12
  | 13, _, _ => exact List.mem_of_getElem? ob_mc13
  | 14, _, _ => exact List.mem_of_getElem? ob_mc14
  | 15, _, _ => exact List.mem_of_getElem? ob_mc15
  | 16, _, _ => exact List.mem_of_getElem? ob_mc16
  | 17, _, _ => exact List.mem_of_getElem? ob_mc17
  | 18, _, _ => exact List.mem_of_getElem? ob_mc18
  | 19, _, _ => exact List.mem_of_getElem? ob_mc19
  | 20, _, _ => exact List.mem_of_getElem? ob_mc20
  | 21, _, _ => exact List.mem_of_getElem? ob_mc21
  | 22, _, _ => exact List.mem_of_getElem? ob_mc22
  | 23, _, _ => exact List.mem_of_getElem? ob_mc23
  | 24, _, _ => exact List.mem_of_getElem? ob_mc24
  | 25, _, _ => exact List.mem_of_getElem? ob_mc25
  | 26, _, _ => exact List.mem_of_getElem? ob_mc26
  | 27, _, _ => exact List.mem_of_getElem? ob_mc27
  | 28, _, _ => exact List.mem_of_getElem? ob_mc28
  | 29, _, _ => exact List.mem_of_getElem? ob_mc29
  | 30, _, _ => exact List.mem_of_getElem? ob_mc30
  | 31, _, _ => exact List.mem_of_getElem? ob_mc31
  | 32, _, _ => exact List.mem_of_getElem? ob_mc32
  | 33, _, _ => exact List.mem_of_getElem? ob_mc33
  | 34, _, _ => exact List.mem_of_getElem? ob_mc34
  | 35, _, _ => exact List.mem_of_getElem? ob_mc35
  | 36, _, _ => exact List.mem_of_getElem? ob_mc36
  | 37, _, _ => exact List.mem_of_getElem? ob_mc37
  | 38, _, _ => exact List.mem_of_getElem? ob_mc38
  | 39, _, _ => exact List.mem_of_getElem? ob_mc39
  | 40, _, _ => exact List.mem_of_getElem? ob_mc40
  | 41, _, _ => exact List.mem_of_getElem? ob_mc41
  | 42, _, _ => exact List.mem_of_getElem? ob_mc42
  | 43, _, _ => exact List.mem_of_getElem? ob_mc43
  | 44, _, _ => exact List.mem_of_getElem? ob_mc44
  | 45, _, _ => exact List.mem_of_getElem? ob_mc45
  | 46, _, _ => exact List.mem_of_getElem? ob_mc46
  | 47, _, _ => exact List.mem_of_getElem? ob_mc47
  | 48, _, _ => exact List.mem_of_getElem? ob_mc48
  | 49, _, _ => exact List.mem_of_getElem? ob_mc49
  | 50, _, _ => exact List.mem_of_getElem? ob_mc50
  | 51, _, _ => exact List.mem_of_getElem? ob_mc51
  | 52, _, _ => exact List.mem_of_getElem? ob_mc52
  | 53, _, _ => exact List.mem_of_getElem? ob_mc53
  | 54, _, _ => exact List.mem_of_getElem? ob_mc54
  | 55, _, _ => exact List.mem_of_getElem? ob_mc55
  | 56, _, _ => exact List.mem_of_getElem? ob_mc56
  | 57, _, _ => exact List.mem_of_getElem? ob_mc57
  | 58, _, _ => exact List.mem_of_getElem? ob_mc58
  | 59, _, _ => exact List.mem_of_getElem? ob_mc59
  | 60, _, _ => exact List.mem_of_getElem? ob_mc60
  | 61, _, _ => exact List.mem_of_getElem? ob_mc61
  | 62, _, _ => exact List.mem_of_getElem? ob_mc62
  | 63, _, _ => exact List.mem_of_getElem? ob_mc63
  | 64, _, _ => exact List.mem_of_getElem? ob_mc64
  | 65, _, _ => exact List.mem_of_getElem? ob_mc65
  | 66, _, _ => exact List.mem_of_getElem? ob_mc66
  | 67, _, _ => exact List.mem_of_getElem? ob_mc67
  | 68, _, _ => exact List.mem_of_getElem? ob_mc68
  | 69, _, _ => exact List.mem_of_getElem? ob_mc69
  | 70, _, _ => exact List.mem_of_getElem? ob_mc70
  | 71, _, _ => exact List.mem_of_getElem? ob_mc71
  | 72, _, _ => exact List.mem_of_getElem? ob_mc72
  | 73, _, _ => exact List.mem_of_getElem? ob_mc73
  | 74, _, _ => exact List.mem_of_getElem? ob_mc74
  | 75, _, _ => exact List.mem_of_getElem? ob_mc75
  | 76, _, _ => exact List.mem_of_getElem? ob_mc76
  | 77, _, _ => exact List.mem_of_getElem? ob_mc77
  | 78, _, _ => exact List.mem_of_getElem? ob_mc78
  | 79, _, _ => exact List.mem_of_getElem? ob_mc79
  | 80, _, _ => exact List.mem_of_getElem? ob_mc80
  | 81, _, _ => exact List.mem_of_getElem? ob_mc81
  | 82, _, _ => exact List.mem_of_getElem? ob_mc82
  | 83, _, _ => exact List.mem_of_getElem? ob_mc83
  | 84, _, _ => exact List.mem_of_getElem? ob_mc84
  | 85, _, _ => exact List.mem_of_getElem? ob_mc85
  | 86, _, _ => exact List.mem_of_getElem? ob_mc86
  | 87, _, _ => exact List.mem_of_getElem? ob_mc87
  | 88, _, _ => exact List.mem_of_getElem? ob_mc88
  | 89, _, _ => exact List.mem_of_getElem? ob_mc89
  | 90, _, _ => exact List.mem_of_getElem? ob_mc90
  | 91, _, _ => exact List.mem_of_getElem? ob_mc91
  | 92, _, _ => exact List.mem_of_getElem? ob_mc92
  | 93, _, _ => exact List.mem_of_getElem? ob_mc93
  | 94, _, _ => exact List.mem_of_getElem? ob_mc94
  | 95, _, _ => exact List.mem_of_getElem? ob_mc95
  | 96, _, _ => exact List.mem_of_getElem? ob_mc96
  | 97, _, _ => exact List.mem_of_getElem? ob_mc97
  | 98, _, _ => exact List.mem_of_getElem? ob_mc98
  | 99, _, _ => exact List.mem_of_getElem? ob_mc99
  | 100, _, _ => exact List.mem_of_getElem? ob_mc100
  | 101, _, _ => exact List.mem_of_getElem? ob_mc101
  | 102, _, _ => exact List.mem_of_getElem? ob_mc102
  | 103, _, _ => exact List.mem_of_getElem? ob_mc103
  | 104, _, _ => exact List.mem_of_getElem? ob_mc104
  | 105, _, _ => exact List.mem_of_getElem? ob_mc105
  | 106, _, _ => exact List.mem_of_getElem? ob_mc106
  | 107, _, _ => exact List.mem_of_getElem? ob_mc107
  | 108, _, _ => exact List.mem_of_getElem? ob_mc108
  | 109, _, _ => exact List.mem_of_getElem? ob_mc109
  | 110, _, _ => exact List.mem_of_getElem? ob_mc110
  | 111, _, _ => exact List.mem_of_getElem? ob_mc111
  | 112, _, _ => exact List.mem_of_getElem? ob_mc112
  | 113, _, _ => exact List.mem_of_getElem? ob_mc113
  | 114, _, _ => exact List.mem_of_getElem? ob_mc114
  | 115, _, _ => exact List.mem_of_getElem? ob_mc115
  | 116, _, _ => exact List.mem_of_getElem? ob_mc116
  | 117, _, _ => exact List.mem_of_getElem? ob_mc117
  | 118, _, _ => exact List.mem_of_getElem? ob_mc118
  | 119, _, _ => exact List.mem_of_getElem? ob_mc119
  | 120, _, _ => exact List.mem_of_getElem? ob_mc120
  | 121, _, _ => exact List.mem_of_getElem? ob_mc121
  | 122, _, _ => exact List.mem_of_getElem? ob_mc122
  | 123, _, _ => exact List.mem_of_getElem? ob_mc123
  | 124, _, _ => exact List.mem_of_getElem? ob_mc124
  | 125, _, _ => exact List.mem_of_getElem? ob_mc125
  | 126, _, _ => exact List.mem_of_getElem? ob_mc126
  | 127, _, _ => exact List.mem_of_getElem? ob_mc127
  | 128, _, _ => exact List.mem_of_getElem? ob_mc128
  | 129, _, _ => exact List.mem_of_getElem? ob_mc129
  | 130, _, _ => exact List.mem_of_getElem? ob_mc130
  | 131, _, _ => exact List.mem_of_getElem? ob_mc131
  | 132, _, _ => exact List.mem_of_getElem? ob_mc132
  | 133, _, _ => exact List.mem_of_getElem? ob_mc133
  | 134, _, _ => exact List.mem_of_getElem? ob_mc134
  | 135, _, _ => exact List.mem_of_getElem? ob_mc135
  | 136, _, _ => exact List.mem_of_getElem? ob_mc136
  | 137, _, _ => exact List.mem_of_getElem? ob_mc137
  | 138, _, _ => exact List.mem_of_getElem? ob_mc138
  | 139, _, _ => exact List.mem_of_getElem? ob_mc139
  | 140, _, _ => exact List.mem_of_getElem? ob_mc140
  | 141, _, _ => exact List.mem_of_getElem? ob_mc141
  | 142, _, _ => exact List.mem_of_getElem? ob_mc142
  | 143, _, _ => exact List.mem_of_getElem? ob_mc143
  | 144, _, _ => exact List.mem_of_getElem? ob_mc144
  | 145, _, _ => exact List.mem_of_getElem? ob_mc145
  | 146, _, _ => exact List.mem_of_getElem? ob_mc146
  | 147, _, _ => exact List.mem_of_getElem? ob_mc147
  | 148, _, _ => exact List.mem_of_getElem? ob_mc148
  | 149, _, _ => exact List.mem_of_getElem? ob_mc149
  | 150, _, _ => exact List.mem_of_getElem? ob_mc150
  | 151, _, _ => exact List.mem_of_getElem? ob_mc151
  | 152, _, _ => exact List.mem_of_getElem? ob_mc152
  | 153, _, _ => exact List.mem_of_getElem? ob_mc153
  | 154, _, _ => exact List.mem_of_getElem? ob_mc154
  | 155, _, _ => exact List.mem_of_getElem? ob_mc155
  | 156, _, _ => exact List.mem_of_getElem? ob_mc156
  | 157, _, _ => exact List.mem_of_getElem? ob_mc157
  | 158, _, _ => exact List.mem_of_getElem? ob_mc158
  | 159, _, _ => exact List.mem_of_getElem? ob_mc159
  | 160, _, _ => exact List.mem_of_getElem? ob_mc160
  | 161, _, _ => exact List.mem_of_getElem? ob_mc161
  | 162, _, _ => exact List.mem_of_getElem? ob_mc162
  | 163, _, _ => exact List.mem_of_getElem? ob_mc163
  | 164, _, _ => exact List.mem_of_getElem? ob_mc164
  | 165, _, _ => exact List.mem_of_getElem? ob_mc165
  | 166, _, _ => exact List.mem_of_getElem? ob_mc166
  | 167, _, _ => exact List.mem_of_getElem? ob_mc167
  | 168, _, _ => exact List.mem_of_getElem? ob_mc168
  | 169, _, _ => exact List.mem_of_getElem? ob_mc169
  | 170, _, _ => exact List.mem_of_getElem? ob_mc170
  | 171, _, _ => exact List.mem_of_getElem? ob_mc171
  | 172, _, _ => exact List.mem_of_getElem? ob_mc172
  | 173, _, _ => exact List.mem_of_getElem? ob_mc173
  | 174, _, _ => exact List.mem_of_getElem? ob_mc174
  | 175, _, _ => exact List.mem_of_getElem? ob_mc175
  | 176, _, _ => exact List.mem_of_getElem? ob_mc176
  | 177, _, _ => exact List.mem_of_getElem? ob_mc177
  | 178, _, _ => exact List.mem_of_getElem? ob_mc178
  | 179, _, _ => exact List.mem_of_getElem? ob_mc179
  | 180, _, _ => exact List.mem_of_getElem? ob_mc180
  | 181, _, _ => exact List.mem_of_getElem? ob_mc181
  | 182, _, _ => exact List.mem_of_getElem? ob_mc182
  | 183, _, _ => exact List.mem_of_getElem? ob_mc183
  | 184, _, _ => exact List.mem_of_getElem? ob_mc184
  | 185, _, _ => exact List.mem_of_getElem? ob_mc185
  | 186, _, _ => exact List.mem_of_getElem? ob_mc186
  | 187, _, _ => exact List.mem_of_getElem? ob_mc187
  | 188, _, _ => exact List.mem_of_getElem? ob_mc188
  | 189, _, _ => exact List.mem_of_getElem? ob_mc189
  | 190, _, _ => exact List.mem_of_getElem? ob_mc190
  | 191, _, _ => exact List.mem_of_getElem? ob_mc191
  | 192, _, _ => exact List.mem_of_getElem? ob_mc192
  | 193, _, _ => exact List.mem_of_getElem? ob_mc193
  | 194, _, _ => exact List.mem_of_getElem? ob_mc194
  | 195, _, _ => exact List.mem_of_getElem? ob_mc195
  | 196, _, _ => exact List.mem_of_getElem? ob_mc196
  | 197, _, _ => exact List.mem_of_getElem? ob_mc197
  | 198, _, _ => exact List.mem_of_getElem? ob_mc198
  | 199, _, _ => exact List.mem_of_getElem? ob_mc199
  | 200, _, _ => exact List.mem_of_getElem? ob_mc200
  | 201, _, _ => exact List.mem_of_getElem? ob_mc201
  | 202, _, _ => exact List.mem_of_getElem? ob_mc202
  | 203, _, _ => exact List.mem_of_getElem? ob_mc203
  | 204, _, _ => exact List.mem_of_getElem? ob_mc204
  | 205, _, _ => exact List.mem_of_getElem? ob_mc205
  | 206, _, _ => exact List.mem_of_getElem? ob_mc206
  | 207, _, _ => exact List.mem_of_getElem? ob_mc207
  | 208, _, _ => exact List.mem_of_getElem? ob_mc208
  | 209, _, _ => exact List.mem_of_getElem? ob_mc209
  | 210, _, _ => exact List.mem_of_getElem? ob_mc210
  | 211, _, _ => exact List.mem_of_getElem? ob_mc211
  | 212, _, _ => exact List.mem_of_getElem? ob_mc212
  | 213, _, _ => exact List.mem_of_getElem? ob_mc213
  | 214, _, _ => exact List.mem_of_getElem? ob_mc214
  | 215, _, _ => exact List.mem_of_getElem? ob_mc215
  | 216, _, _ => exact List.mem_of_getElem? ob_mc216
  | 217, _, _ => exact List.mem_of_getElem? ob_mc217
  | 218, _, _ => exact List.mem_of_getElem? ob_mc218
  | 219, _, _ => exact List.mem_of_getElem? ob_mc219
  | 220, _, _ => exact List.mem_of_getElem? ob_mc220
  | 221, _, _ => exact List.mem_of_getElem? ob_mc221
  | 222, _, _ => exact List.mem_of_getElem? ob_mc222
  | 223, _, _ => exact List.mem_of_getElem? ob_mc223
  | 224, _, _ => exact List.mem_of_getElem? ob_mc224
  | 225, _, _ => exact List.mem_of_getElem? ob_mc225
  | 226, _, _ => exact List.mem_of_getElem? ob_mc226
  | 227, _, _ => exact List.mem_of_getElem? ob_mc227
  | 228, _, _ => exact List.mem_of_getElem? ob_mc228
  | 229, _, _ => exact List.mem_of_getElem? ob_mc229
  | 230, _, _ => exact List.mem_of_getElem? ob_mc230
  | 231, _, _ => exact List.mem_of_getElem? ob_mc231
  | 232, _, _ => exact List.mem_of_getElem? ob_mc232
  | 233, _, _ => exact List.mem_of_getElem? ob_mc233
  | 234, _, _ => exact List.mem_of_getElem? ob_mc234
  | 235, _, _ => exact List.mem_of_getElem? ob_mc235
  | 236, _, _ => exact List.mem_of_getElem? ob_mc236
  | 237, _, _ => exact List.mem_of_getElem? ob_mc237
  | 238, _, h2 => exact absurd rfl h2
  | 239, _, _ => exact List.mem_of_getElem? ob_mc239
  | n + 240, h1, _ => exact absurd h1 (by omega)
end
section
-- NUMBERS: Int beside Int32 and Int64
def ob_r32 (a : Int) : Prop := -2147483648 ≤ a ∧ a < 2147483648
def ob_r64 (a : Int) : Prop := -9223372036854775808 ≤ a ∧ a < 9223372036854775808
theorem ob_wr_r (x : Int) : ob_r32 (ob_wr x) := by
  have h1 := Int.le_bmod (x := x) (m := 4294967296) (by decide)
  have h2 := Int.bmod_lt (x := x) (m := 4294967296) (by decide)
  unfold ob_r32 ob_wr
  omega
theorem ob_wl_r (x : Int) : ob_r64 (ob_wl x) := by
  have h1 := Int.le_bmod (x := x) (m := 18446744073709551616) (by decide)
  have h2 := Int.bmod_lt (x := x) (m := 18446744073709551616) (by decide)
  unfold ob_r64 ob_wl
  omega
theorem ob_wr_id {x : Int} (h1 : -2147483648 ≤ x) (h2 : x < 2147483648) : ob_wr x = x := Int.bmod_eq_of_le (by omega) (by omega)
theorem ob_wl_id {x : Int} (h1 : -9223372036854775808 ≤ x) (h2 : x < 9223372036854775808) : ob_wl x = x := Int.bmod_eq_of_le (by omega) (by omega)
theorem ob_i_to {a : Int} (h : ob_r32 a) : (Int32.ofInt a).toInt = a := Int32.toInt_ofInt_of_le (by have := h.1; omega) (by have := h.2; omega)
theorem ob_l_to {a : Int} (h : ob_r64 a) : (Int64.ofInt a).toInt = a := Int64.toInt_ofInt_of_le (by have := h.1; omega) (by have := h.2; omega)
theorem ob_i_r (x : Int32) : ob_r32 x.toInt := ⟨by have := x.le_toInt; omega, by have := x.toInt_lt; omega⟩
theorem ob_i_wr (x : Int) : Int32.ofInt (ob_wr x) = Int32.ofInt x := by
  apply Int32.toInt_inj.mp
  rw [ob_i_to (ob_wr_r x), Int32.toInt_ofInt]
  rfl
theorem ob_l_wl (x : Int) : Int64.ofInt (ob_wl x) = Int64.ofInt x := by
  apply Int64.toInt_inj.mp
  rw [ob_l_to (ob_wl_r x), Int64.toInt_ofInt]
  rfl
theorem ob_i_lt {a b : Int} (ha : ob_r32 a) (hb : ob_r32 b) : Int32.ofInt a < Int32.ofInt b ↔ a < b := by
  rw [Int32.lt_iff_toInt_lt, ob_i_to ha, ob_i_to hb]
theorem ob_i_le {a b : Int} (ha : ob_r32 a) (hb : ob_r32 b) : Int32.ofInt a ≤ Int32.ofInt b ↔ a ≤ b := by
  rw [Int32.le_iff_toInt_le, ob_i_to ha, ob_i_to hb]
theorem ob_i_eq {a b : Int} (ha : ob_r32 a) (hb : ob_r32 b) : Int32.ofInt a = Int32.ofInt b ↔ a = b := by
  rw [← Int32.toInt_inj, ob_i_to ha, ob_i_to hb]
theorem ob_r0 : ob_r32 0 := ⟨by decide, by decide⟩
theorem ob_i_0 : Int32.ofInt 0 = 0 := rfl
theorem ob_i_nat {a : Int} (h0 : 0 ≤ a) (h : ob_r32 a) : (Int32.ofInt a).toNatClampNeg = a.toNat := Int32.toNatClampNeg_ofInt_of_le (by have := h.1; omega) (by have := h.2; omega)
theorem ob_i_in {a : Int} {n : Nat} (h : ob_r32 a) (h0 : 0 ≤ a) (h1 : a < n) : ¬ (Int32.ofInt a < 0 ∨ n ≤ (Int32.ofInt a).toNatClampNeg) := by
  rw [ob_i_nat h0 h]
  have : ¬ Int32.ofInt a < Int32.ofInt 0 := by
    rw [ob_i_lt h ob_r0]
    omega
  intro q
  rcases q with q | q
  · exact this q
  · omega
theorem ob_i_add (a b : Int) : Int32.ofInt (ob_wr (a + b)) = Int32.ofInt a + Int32.ofInt b := by rw [ob_i_wr, Int32.ofInt_add]
theorem ob_i_sub (a b : Int) : Int32.ofInt (ob_wr (a - b)) = Int32.ofInt a - Int32.ofInt b := by rw [ob_i_wr, Int32.ofInt_sub]
theorem ob_i_mul (a b : Int) : Int32.ofInt (ob_wr (a * b)) = Int32.ofInt a * Int32.ofInt b := by rw [ob_i_wr, Int32.ofInt_mul]
theorem ob_l_add (a b : Int) : Int64.ofInt (ob_wl (a + b)) = Int64.ofInt a + Int64.ofInt b := by rw [ob_l_wl, Int64.ofInt_add]
theorem ob_l_mul (a b : Int) : Int64.ofInt (ob_wl (a * b)) = Int64.ofInt a * Int64.ofInt b := by rw [ob_l_wl, Int64.ofInt_mul]
theorem ob_i_div {a b : Int} (ha : ob_r32 a) (hb : ob_r32 b) : Int32.ofInt (ob_wr (Int.tdiv a b)) = Int32.ofInt a / Int32.ofInt b := by
  rw [ob_i_wr]
  apply Int32.toInt_inj.mp
  rw [Int32.toInt_div, ob_i_to ha, ob_i_to hb, Int32.toInt_ofInt]
theorem ob_i_rem {a b : Int} (ha : ob_r32 a) (hb : ob_r32 b) : Int32.ofInt (Int.tmod a b) = Int32.ofInt a - Int32.ofInt a / Int32.ofInt b * Int32.ofInt b := by
  rw [← ob_i_div ha hb, ob_i_wr, ← Int32.ofInt_mul, ← Int32.ofInt_sub, Int.tmod_def, Int.mul_comm]
theorem ob_tmod_r {a b : Int} (ha : ob_r32 a) : ob_r32 (Int.tmod a b) := by
  have h1 := ha.1
  have h2 := ha.2
  have e : (Int.tmod a b).natAbs = a.natAbs % b.natAbs := Int.natAbs_tmod a b
  have e2 := Nat.mod_le a.natAbs b.natAbs
  by_cases h : 0 ≤ a
  · have e1 := Int.tmod_nonneg b h
    exact ⟨by omega, by omega⟩
  · have e1 := Int.tmod_nonneg (a := -a) b (by omega)
    rw [Int.neg_tmod] at e1
    exact ⟨by omega, by omega⟩
theorem ob_i_i2l {a : Int} (h : ob_r32 a) : (Int32.ofInt a).toInt64 = Int64.ofInt a := by
  have e1 : Int32.minValue.toInt = -2147483648 := by decide
  have e2 : Int32.maxValue.toInt = 2147483647 := by decide
  have h1 := h.1
  have h2 := h.2
  exact Int32.toInt64_ofInt (by omega) (by omega)
theorem ob_i_i2b (a : Int) : (Int32.ofInt a).toInt8.toInt32 = Int32.ofInt (Int.bmod a 256) := by
  rw [Int32.toInt8_ofInt]
  apply Int32.toInt_inj.mp
  rw [Int8.toInt_toInt32, Int8.toInt_ofInt]
  have h1 := Int.le_bmod (x := a) (m := 256) (by decide)
  have h2 := Int.bmod_lt (x := a) (m := 256) (by decide)
  exact (ob_i_to (a := Int.bmod a 256) ⟨by omega, by omega⟩).symm
theorem ob_i_cmp {a b : Int} (ha : ob_r64 a) (hb : ob_r64 b) : lg_cmp (Int64.ofInt a) (Int64.ofInt b) = Int32.ofInt (ob_cmp a b) := by
  have e1 : Int64.ofInt a < Int64.ofInt b ↔ a < b := by rw [Int64.lt_iff_toInt_lt, ob_l_to ha, ob_l_to hb]
  have e3 : Int64.ofInt b < Int64.ofInt a ↔ b < a := by rw [Int64.lt_iff_toInt_lt, ob_l_to ha, ob_l_to hb]
  have e2 : Int64.ofInt a = Int64.ofInt b ↔ a = b := by rw [← Int64.toInt_inj, ob_l_to ha, ob_l_to hb]
  unfold lg_cmp ob_cmp
  by_cases h1 : a < b
  · rw [if_pos h1, if_neg (fun q => by have := e3.mp q; omega), if_neg (fun q => by have := e2.mp q; omega)]
    rfl
  · by_cases h2 : a = b
    · rw [if_neg h1, if_pos h2, if_neg (fun q => by have := e3.mp q; omega), if_pos (e2.mpr h2)]
      rfl
    · rw [if_neg h1, if_neg h2, if_pos (e3.mpr (by omega))]
      rfl
theorem ob_cmp_r (a b : Int) : ob_r32 (ob_cmp a b) := by
  unfold ob_cmp ob_r32
  split
  · omega
  · split <;> omega
theorem ob_bip {n : Int} (h1 : -128 ≤ n) (h2 : n < 128) : (Int8.ofInt n).toInt32 = Int32.ofInt n := by
  apply Int32.toInt_inj.mp
  rw [Int8.toInt_toInt32, Int8.toInt_ofInt_of_le (by omega) (by omega), ob_i_to ⟨by omega, by omega⟩]
theorem ob_sip {n : Int} (h1 : -32768 ≤ n) (h2 : n < 32768) : (Int16.ofInt n).toInt32 = Int32.ofInt n := by
  apply Int32.toInt_inj.mp
  rw [Int16.toInt_toInt32, Int16.toInt_ofInt_of_le (by omega) (by omega), ob_i_to ⟨by omega, by omega⟩]
theorem ob_i_min {a b : Int} (ha : ob_r32 a) (hb : ob_r32 b) : (if Int32.ofInt b < Int32.ofInt a then Int32.ofInt b else Int32.ofInt a) = Int32.ofInt (min a b) := by
  by_cases h : b < a
  · rw [if_pos ((ob_i_lt hb ha).mpr h), show min a b = b by omega]
  · rw [if_neg (fun q => h ((ob_i_lt hb ha).mp q)), show min a b = a by omega]
theorem ob_min_r {a b : Int} (ha : ob_r32 a) (hb : ob_r32 b) : ob_r32 (min a b) := by
  unfold ob_r32 at *
  omega
theorem ob_max_r {a b : Int} (ha : ob_r32 a) (hb : ob_r32 b) : ob_r32 (max a b) := by
  unfold ob_r32 at *
  omega
theorem ob_abs_r {a : Int} (ha : ob_r32 a) : ob_r32 (ob_abs a) := by
  unfold ob_abs
  split
  · exact ob_wr_r _
  · exact ha
end
section
-- WHAT HEAP THE ABSTRACT MEMORY STANDS FOR
abbrev ob_Wd : Type := Nat × Nat × Nat × (Nat → Int32) × (Nat → ClassId) × (Nat → Nat → Nat) × (Nat → ClassId)
abbrev ob_b (w : ob_Wd) : Nat := w.1
abbrev ob_L (w : ob_Wd) : Nat := w.2.1
abbrev ob_sz (w : ob_Wd) : Nat := w.2.2.1
abbrev ob_xs (w : ob_Wd) : Nat → Int32 := w.2.2.2.1
abbrev ob_dC (w : ob_Wd) : Nat → ClassId := w.2.2.2.2.1
abbrev ob_dI (w : ob_Wd) : Nat → Nat → Nat := w.2.2.2.2.2.1
abbrev ob_dA (w : ob_Wd) : Nat → ClassId := w.2.2.2.2.2.2
def ob_off (k : Nat) (i : Int) : Nat := ob_lay.findIdx (fun q => Nat.beq q.1 k && decide (q.2 = i))
theorem ob_lay_len : ob_lay.length = ob_layN := by decide +kernel
set_option maxRecDepth 1000000 in
theorem ob_lay_all : (List.range ob_layN).all (fun a => Nat.beq (ob_off (ob_nth ob_lay a (99, 0)).1 (ob_nth ob_lay a (99, 0)).2) a) = true := by decide +kernel
theorem ob_lay_k : ∀ q ∈ ob_lay, q.1 ≠ 14 ∧ q.1 ≠ 15 ∧ (q.1 ≤ 8 ∨ (16 ≤ q.1 ∧ q.1 < 57)) := by decide +kernel
theorem ob_nth_get {α : Type} (d : α) : ∀ (l : List α) (n : Nat), n < l.length → l[n]? = some (ob_nth l n d)
  | [], _, h => absurd h (Nat.not_lt_zero _)
  | a :: _, 0, _ => rfl
  | _ :: l, n + 1, h => by
    rw [List.getElem?_cons_succ]
    exact ob_nth_get d l n (Nat.lt_of_succ_lt_succ h)
theorem ob_nth_ge {α : Type} (d : α) : ∀ (l : List α) (n : Nat), l.length ≤ n → ob_nth l n d = d
  | [], _, _ => rfl
  | _ :: _, 0, h => absurd h (Nat.not_succ_le_zero _)
  | _ :: l, n + 1, h => ob_nth_ge d l n (Nat.le_of_succ_le_succ h)
theorem ob_nth_upd {α : Type} (d v : α) : ∀ (l : List α) (k n : Nat), k < l.length → ob_nth (ob_upd l k v) n d = if n = k then v else ob_nth l n d
  | [], _, _, h => absurd h (Nat.not_lt_zero _)
  | _ :: _, 0, 0, _ => rfl
  | _ :: _, 0, n + 1, _ => rfl
  | _ :: _, k + 1, 0, _ => rfl
  | _ :: l, k + 1, n + 1, h => by
    show ob_nth (ob_upd l k v) n d = _
    rw [ob_nth_upd d v l k n (Nat.lt_of_succ_lt_succ h)]
    by_cases e : n = k
    · rw [if_pos e, if_pos (by omega)]
    · rw [if_neg e, if_neg (by omega)]
      rfl
theorem ob_upd_len {α : Type} (v : α) : ∀ (l : List α) (k : Nat), (ob_upd l k v).length = l.length
  | [], _ => rfl
  | _ :: _, 0 => rfl
  | _ :: l, k + 1 => congrArg (· + 1) (ob_upd_len v l k)
theorem ob_off_get {k : Nat} {i : Int} (h : ob_off k i < ob_layN) : ob_lay[ob_off k i]? = some (k, i) := by
  rw [← ob_lay_len] at h
  have h1 := List.findIdx_getElem (w := h)
  simp only [Bool.and_eq_true, decide_eq_true_eq] at h1
  rw [List.getElem?_eq_getElem h]
  congr 1
  exact Prod.ext (Nat.eq_of_beq_eq_true h1.1) h1.2
theorem ob_off_mem {k : Nat} {i : Int} (h : ob_off k i < ob_layN) : (k, i) ∈ ob_lay := List.mem_of_getElem? (ob_off_get h)
theorem ob_off_inj {k k' : Nat} {i i' : Int} (h : ob_off k i < ob_layN) (e : ob_off k' i' = ob_off k i) : k' = k ∧ i' = i := by
  have h1 := ob_off_get h
  have h2 := ob_off_get (k := k') (i := i') (by rw [e]; exact h)
  rw [e] at h2
  have h3 := Option.some.inj (h2.symm.trans h1)
  exact ⟨congrArg Prod.fst h3, congrArg Prod.snd h3⟩
theorem ob_off_nth {a : Nat} (h : a < ob_layN) : ob_off (ob_nth ob_lay a (99, 0)).1 (ob_nth ob_lay a (99, 0)).2 = a := Nat.eq_of_beq_eq_true (List.all_eq_true.mp ob_lay_all a (List.mem_range.mpr h))
def ob_ad (w : ob_Wd) (k : Nat) (i : Int) : Nat := cond (Nat.beq k 15) (ob_b w) (ob_sz w + ob_off k i)
theorem ob_ad_n {w : ob_Wd} {k : Nat} {i : Int} (h : k ≠ 15) : ob_ad w k i = ob_sz w + ob_off k i := by
  unfold ob_ad
  rw [show Nat.beq k 15 = false from by
    cases e : Nat.beq k 15
    · rfl
    · exact absurd (Nat.eq_of_beq_eq_true e) h]
  rfl
def ob_cv (w : ob_Wd) : ob_AV → Value
  | (0, _) => .null
  | (1, a) => .int (Int32.ofInt a)
  | (2, a) => .long (Int64.ofInt a)
  | (t + 3, i) => .ref (ob_ad w t i)
def ob_nA (mm : ob_MM) : Nat := match mm.2 with
  | none => ob_layN
  | some C => C.1
def ob_nS (mm : ob_MM) : Nat := match mm.2 with
  | none => ob_sltN
  | some C => C.2.1
def ob_pr (n k : Nat) (i : Int) : Prop := (k = 15 ∧ i = 0) ∨ (k ≠ 15 ∧ ob_off k i < n)
def ob_okv (n : Nat) : ob_AV → Prop
  | (0, _) => False
  | (1, a) => ob_r32 a
  | (2, a) => ob_r64 a
  | (t + 3, i) => ob_pr n t i
theorem ob_okv_le {n n' : Nat} (h : n ≤ n') : ∀ {v : ob_AV}, ob_okv n v → ob_okv n' v
  | (0, _), q => q
  | (1, _), q => q
  | (2, _), q => q
  | (_ + 3, _), q => q.elim Or.inl (fun q => Or.inr ⟨q.1, Nat.lt_of_lt_of_le q.2 h⟩)
def ob_sk (k s : Nat) : Nat × Nat := cond (Nat.ble k 8) ((ob_ftq k s).1, (ob_ftq k s).2.1) ((ob_kq k).2.2.1, (ob_kq k).2.2.2)
def ob_ns (k : Nat) : Nat := cond (Nat.ble k 8) (ob_nth ob_ft k []).length (ob_kq k).1.toNat
def ob_vl (w : ob_Wd) (mm : ob_MM) (k : Nat) (i : Int) (s : Nat) : Value := match ob_sk k s with
  | (0, _) => .int (Int32.ofInt (mm.1 k i (s : Int)))
  | (tk + 1, md) => cond (ob_ini mm.2 k i (s : Int)) (.ref (ob_ad w tk (ob_tg mm.1 md k i (s : Int)))) .null
def ob_ai (k : Nat) : Nat := (ob_kq k).2.1 + (ob_kq k).2.2.1
def ob_aty (k : Nat) : FieldType := match (ob_kq k).2.1 with
  | 0 => .int
  | 1 => .boolean
  | 2 => .byte
  | _ => .object (ob_cn ((ob_kq k).2.2.1 - 1))
def ob_Cel (w : ob_Wd) (mm : ob_MM) (k : Nat) (i : Int) (H : Heap) : Prop := (k ≤ 8 → t_OB (ob_sz w + ob_off k i) (ob_dC w k) (ob_ns k) (ob_dI w k) H (ob_vl w mm k i)) ∧ (¬ k ≤ 8 → H[ob_sz w + ob_off k i]? = some (arrV (ob_dA w (ob_ai k)) (ob_ns k) (ob_vl w mm k i)))
def ob_Rep (w : ob_Wd) (mm : ob_MM) (H : Heap) : Prop :=
  H.size = ob_sz w + ob_nA mm ∧ ob_nA mm ≤ ob_layN ∧
  (∀ (k : Nat) (i : Int), ob_off k i < ob_nA mm → ob_Cel w mm k i H) ∧
  (∀ (k : Nat) (i s : Int), ob_r32 (mm.1 k i s)) ∧
  (mm.1 14 0 0 = (ob_L w : Int) ∧ ∀ j : Nat, j < ob_L w → mm.1 15 0 (j : Int) = (ob_xs w j).toInt) ∧
  (∀ (k : Nat) (i : Int) (s : Nat), ob_off k i < ob_nA mm → s < ob_ns k → ∀ tk md, ob_sk k s = (tk + 1, md) → ob_ini mm.2 k i (s : Int) = true → tk ≠ 15 ∧ ob_off tk (ob_tg mm.1 md k i (s : Int)) < ob_nA mm) ∧
  (∀ C, mm.2 = some C → (∀ q ∈ C.2.2, ob_off q.1 q.2.1 < C.1) ∧ ∀ (k : Nat) (i s : Int), k ≠ 14 → k ≠ 15 → C.1 ≤ ob_off k i → mm.1 k i s = 0)
theorem ob_tg_c {m m' : ob_Mem} {md k : Nat} {i s : Int} (h : m' k i s = m k i s) : ob_tg m' md k i s = ob_tg m md k i s := by
  unfold ob_tg
  split
  · exact h
  all_goals rfl
theorem ob_vl_c {w : ob_Wd} {mm mm' : ob_MM} {k : Nat} {i : Int} {s : Nat} (h : mm'.1 k i s = mm.1 k i s) (h2 : ob_ini mm'.2 k i s = ob_ini mm.2 k i s) : ob_vl w mm' k i s = ob_vl w mm k i s := by
  unfold ob_vl
  split
  · rw [h]
  · rw [h2, ob_tg_c h]
theorem ob_Cel_c {w : ob_Wd} {mm mm' : ob_MM} {k : Nat} {i : Int} {H H' : Heap} (h : ob_Cel w mm k i H) (hv : ∀ s : Nat, ob_vl w mm' k i s = ob_vl w mm k i s) (hH : H'[ob_sz w + ob_off k i]? = H[ob_sz w + ob_off k i]?) : ob_Cel w mm' k i H' := by
  refine ⟨fun q => ((h.1 q).kept hH).to (fun j _ => (hv j).symm), fun q => ?_⟩
  rw [hH, h.2 q]
  congr 2
  exact (funext hv).symm
theorem ob_Rep_upd {w : ob_Wd} {mm mm' : ob_MM} {H H' : Heap} {k : Nat} {i : Int} (h : ob_Rep w mm H) (hk : ob_off k i < ob_nA mm) (hsz : H'.size = H.size) (ho : ∀ q : Nat, q ≠ ob_sz w + ob_off k i → H'[q]? = H[q]?) (hc : ob_Cel w mm' k i H') (hm : ∀ (k' : Nat) (i' s' : Int), ¬ (k' = k ∧ i' = i) → mm'.1 k' i' s' = mm.1 k' i' s')
    (hi : ∀ (k' : Nat) (i' s' : Int), ¬ (k' = k ∧ i' = i) → ob_ini mm'.2 k' i' s' = ob_ini mm.2 k' i' s') (hr : ∀ s : Int, ob_r32 (mm'.1 k i s)) (hn : ob_nA mm' = ob_nA mm)
    (href : ∀ s : Nat, s < ob_ns k → ∀ tk md, ob_sk k s = (tk + 1, md) → ob_ini mm'.2 k i (s : Int) = true → tk ≠ 15 ∧ ob_off tk (ob_tg mm'.1 md k i (s : Int)) < ob_nA mm)
    (hC : ∀ C', mm'.2 = some C' → ∃ C, mm.2 = some C ∧ C'.1 = C.1 ∧ ∀ q ∈ C'.2.2, q ∈ C.2.2 ∨ (q.1 = k ∧ q.2.1 = i)) : ob_Rep w mm' H' := by
  obtain ⟨r1, r2, r3, r4, r5, r6, r7⟩ := h
  have hkl : ob_off k i < ob_layN := Nat.lt_of_lt_of_le hk r2
  have hkk := ob_lay_k _ (ob_off_mem hkl)
  have e14 : ¬ ((14 : Nat) = k ∧ (0 : Int) = i) := fun q => hkk.1 q.1.symm
  have e15 : ¬ ((15 : Nat) = k ∧ (0 : Int) = i) := fun q => hkk.2.1 q.1.symm
  have hne : ∀ (k' : Nat) (i' : Int), ¬ (k' = k ∧ i' = i) → ob_sz w + ob_off k' i' ≠ ob_sz w + ob_off k i := by
    intro k' i' hn e
    exact hn (ob_off_inj hkl (by omega))
  refine ⟨by rw [hsz, hn]; exact r1, by rw [hn]; exact r2, ?_, ?_, ?_, ?_, ?_⟩
  · intro k' i' h'
    rw [hn] at h'
    by_cases c : k' = k ∧ i' = i
    · obtain ⟨rfl, rfl⟩ := c
      exact hc
    · exact ob_Cel_c (r3 k' i' h') (fun s => ob_vl_c (hm k' i' s c) (hi k' i' s c)) (ho _ (hne k' i' c))
  · intro k' i' s'
    by_cases c : k' = k ∧ i' = i
    · obtain ⟨rfl, rfl⟩ := c
      exact hr s'
    · rw [hm k' i' s' c]
      exact r4 k' i' s'
  · refine ⟨by rw [hm 14 0 0 e14]; exact r5.1, fun j hj => by rw [hm 15 0 j e15]; exact r5.2 j hj⟩
  · intro k' i' s' h' hs tk md hsk hini
    rw [hn] at h' ⊢
    by_cases c : k' = k ∧ i' = i
    · obtain ⟨rfl, rfl⟩ := c
      exact href s' hs tk md hsk hini
    · rw [hi k' i' s' c] at hini
      rw [ob_tg_c (hm k' i' s' c)]
      exact r6 k' i' s' h' hs tk md hsk hini
  · intro C' hC'
    obtain ⟨C, h1, h2, h3⟩ := hC C' hC'
    have hnA : ob_nA mm = C.1 := by unfold ob_nA; rw [h1]
    obtain ⟨g1, g2⟩ := r7 C h1
    refine ⟨fun q hq => ?_, fun k' i' s' n1 n2 hle => ?_⟩
    · rw [h2]
      rcases h3 q hq with z | ⟨z1, z2⟩
      · exact g1 q z
      · rw [z1, z2, ← hnA]
        exact hk
    · rw [h2] at hle
      by_cases c : k' = k ∧ i' = i
      · obtain ⟨rfl, rfl⟩ := c
        omega
      · rw [hm k' i' s' c]
        exact g2 k' i' s' n1 n2 hle
end
section
-- ALLOCATION, SEALING, AND WHERE THE MACHINE STANDS
theorem ob_arrV_c {cA : ClassId} {N : Nat} {f g : Nat → Value} (h : ∀ j, j < N → f j = g j) : arrV cA N f = arrV cA N g := by
  unfold arrV
  congr 1
  congr 1
  funext j
  exact h j.val j.isLt
theorem ob_Cel_d {w : ob_Wd} {mm mm' : ob_MM} {k : Nat} {i : Int} {H H' : Heap} (h : ob_Cel w mm k i H) (hv : ∀ s : Nat, s < ob_ns k → ob_vl w mm' k i s = ob_vl w mm k i s) (hH : H'[ob_sz w + ob_off k i]? = H[ob_sz w + ob_off k i]?) : ob_Cel w mm' k i H' := by
  refine ⟨fun q => ((h.1 q).kept hH).to (fun j hj => (hv j hj).symm), fun q => ?_⟩
  rw [hH, h.2 q]
  congr 1
  exact (ob_arrV_c hv).symm
theorem ob_ini_new {w : ob_Wd} {m : ob_Mem} {C : ob_CI} {H : Heap} (h : ob_Rep w (m, some C) H) {k : Nat} {i : Int} (ho : ob_off k i = C.1) (s : Int) : C.2.2.contains (k, i, s) = false := by
  cases e : C.2.2.contains (k, i, s) with
  | false => rfl
  | true =>
    have h1 := (h.2.2.2.2.2.2 C rfl).1 _ (by simpa using e)
    have h1 : ob_off k i < C.1 := h1
    omega
theorem ob_vl_new {w : ob_Wd} {m : ob_Mem} {C : ob_CI} {H : Heap} (h : ob_Rep w (m, some C) H) {k : Nat} {i : Int} (ho : ob_off k i = C.1) (hl : C.1 < ob_layN) (n1 n2 : Nat) (s : Nat) : ob_vl w (m, some (n1, n2, C.2.2)) k i s = cond (Nat.beq (ob_sk k s).1 0) (.int (Int32.ofInt 0)) .null := by
  have hk := ob_lay_k _ (ob_off_mem (k := k) (i := i) (by rw [ho]; exact hl))
  have hz : m k i (s : Int) = 0 := (h.2.2.2.2.2.2 C rfl).2 k i s hk.1 hk.2.1 (by rw [ho]; exact Nat.le_refl _)
  unfold ob_vl
  split
  · rename_i e
    rw [e]
    show Value.int (Int32.ofInt (m k i s)) = _
    rw [hz]
    rfl
  · rename_i e
    rw [e]
    show cond (C.2.2.contains (k, i, (s : Int))) _ _ = _
    rw [ob_ini_new h ho]
    rfl
theorem ob_Rep_new {w : ob_Wd} {m : ob_Mem} {C : ob_CI} {H H' : Heap} {k n : Nat} {i : Int} (h : ob_Rep w (m, some C) H) (hl : C.1 < ob_layN) (ho : ob_off k i = C.1) (hsz : H'.size = H.size + 1) (hs : ∀ q : Nat, q < H.size → H'[q]? = H[q]?) (hc : ob_Cel w (m, some (C.1 + 1, C.2.1 + n, C.2.2)) k i H') : ob_Rep w (m, some (C.1 + 1, C.2.1 + n, C.2.2)) H' := by
  obtain ⟨r1, r2, r3, r4, r5, r6, r7⟩ := id h
  have r1 : H.size = ob_sz w + C.1 := r1
  refine ⟨?_, hl, ?_, r4, r5, ?_, ?_⟩
  · show H'.size = ob_sz w + (C.1 + 1)
    omega
  · intro k' i' h'
    have h' : ob_off k' i' < C.1 + 1 := h'
    by_cases q : ob_off k' i' = C.1
    · obtain ⟨rfl, rfl⟩ := ob_off_inj (k := k) (i := i) (by rw [ho]; exact hl) (q.trans ho.symm)
      exact hc
    · exact ob_Cel_c (r3 k' i' (show ob_off k' i' < C.1 by omega)) (fun s => rfl) (hs _ (by omega))
  · intro k' i' s' h' hs' tk md hsk hini
    have h' : ob_off k' i' < C.1 + 1 := h'
    have hini : C.2.2.contains (k', i', (s' : Int)) = true := hini
    by_cases q : ob_off k' i' = C.1
    · rw [ob_ini_new h q] at hini
      cases hini
    · have z := r6 k' i' s' (show ob_off k' i' < C.1 by omega) hs' tk md hsk hini
      exact ⟨z.1, Nat.lt_succ_of_lt z.2⟩
  · intro C' hC'
    cases hC'
    obtain ⟨g1, g2⟩ := r7 C rfl
    exact ⟨fun q hq => Nat.lt_succ_of_lt (g1 q hq), fun k' i' s' n1 n2 hle => g2 k' i' s' n1 n2 (Nat.le_of_succ_le hle)⟩
theorem ob_kt3 : ∀ q ∈ ob_kt, q.2.2.1 ≠ 0 → q.2.1 = 3 := by decide +kernel
theorem ob_kq3 (k : Nat) (h : (ob_kq k).2.2.1 ≠ 0) : (ob_kq k).2.1 = 3 := by
  by_cases q : k < ob_kt.length
  · exact ob_kt3 _ (List.mem_of_getElem? (ob_nth_get _ _ _ q)) h
  · exact absurd (by unfold ob_kq; rw [ob_nth_ge _ _ _ (Nat.not_lt.mp q)]) h
theorem ob_refs_in {k s tk md : Nat} {i : Int} (h : ob_off k i < ob_layN) (hs : s < ob_ns k) (hk : ob_sk k s = (tk + 1, md)) : (k, i, (s : Int)) ∈ ob_refs := by
  refine List.mem_flatMap.mpr ⟨(k, i), ob_off_mem h, ?_⟩
  by_cases q : k ≤ 8
  · have e1 : Nat.ble k 8 = true := Nat.ble_eq.mpr q
    have e2 : Nat.ble 9 k = false := by
      cases e : Nat.ble 9 k with
      | false => rfl
      | true => exact absurd (Nat.ble_eq.mp e) (by omega)
    unfold ob_sk at hk
    unfold ob_ns at hs
    rw [e1] at hk hs
    show (k, i, (s : Int)) ∈ cond (Nat.ble 9 k) _ _
    rw [e2]
    have hs : s < (ob_nth ob_ft k []).length := hs
    have hk : ((ob_ftq k s).1, (ob_ftq k s).2.1) = (tk + 1, md) := hk
    refine List.mem_map.mpr ⟨(ob_ftq k s, s), List.mem_filter.mpr ⟨?_, ?_⟩, rfl⟩
    · exact List.mem_zipIdx_iff_getElem?.mpr (ob_nth_get _ _ _ hs)
    · have e3 : (ob_ftq k s).1 = tk + 1 := congrArg Prod.fst hk
      show (!Nat.beq (ob_ftq k s).1 0) = true
      rw [e3]
      rfl
  · have e1 : Nat.ble k 8 = false := by
      cases e : Nat.ble k 8 with
      | false => rfl
      | true => exact absurd (Nat.ble_eq.mp e) q
    have e2 : Nat.ble 9 k = true := Nat.ble_eq.mpr (by omega)
    unfold ob_sk at hk
    unfold ob_ns at hs
    rw [e1] at hk hs
    show (k, i, (s : Int)) ∈ cond (Nat.ble 9 k) _ _
    rw [e2]
    have hk : ((ob_kq k).2.2.1, (ob_kq k).2.2.2) = (tk + 1, md) := hk
    have e3 : (ob_kq k).2.2.1 = tk + 1 := congrArg Prod.fst hk
    have e4 := ob_kq3 k (by rw [e3]; exact Nat.succ_ne_zero _)
    have hs : s < (ob_kq k).1.toNat := hs
    show (k, i, (s : Int)) ∈ (match ob_kq k with
      | (n, 3, _, _) => (List.range n.toNat).map fun (s : Nat) => (k, i, Int.ofNat s)
      | _ => [])
    generalize ob_kq k = Z at e4 hs
    obtain ⟨n, a, b, c⟩ := Z
    have e4 : a = 3 := e4
    subst e4
    exact List.mem_map.mpr ⟨s, List.mem_range.mpr hs, rfl⟩
theorem ob_full_in {C : ob_CI} (hf : ob_full C = true) : C.1 = ob_layN ∧ C.2.1 = ob_sltN ∧ ∀ q ∈ ob_refs, C.2.2.contains q = true := by
  unfold ob_full at hf
  rw [Bool.and_eq_true, Bool.and_eq_true] at hf
  exact ⟨Nat.eq_of_beq_eq_true hf.1.1, Nat.eq_of_beq_eq_true hf.1.2, List.all_eq_true.mp hf.2⟩
theorem ob_Rep_seal {w : ob_Wd} {m : ob_Mem} {C : ob_CI} {H : Heap} (h : ob_Rep w (m, some C) H) (hf : ob_full C = true) : ob_Rep w (m, none) H := by
  obtain ⟨f1, f2, f3⟩ := ob_full_in hf
  obtain ⟨r1, r2, r3, r4, r5, r6, r7⟩ := h
  have e : ob_nA (m, some C) = ob_layN := f1
  rw [e] at r1 r3 r6
  refine ⟨r1, Nat.le_refl _, ?_, r4, r5, ?_, ?_⟩
  · intro k i h'
    refine ob_Cel_d (r3 k i h') (fun s hs => ?_) rfl
    unfold ob_vl
    split
    · rfl
    · rename_i e
      have z : C.2.2.contains (k, i, (s : Int)) = true := f3 _ (ob_refs_in h' hs e)
      show cond true _ _ = cond (C.2.2.contains (k, i, (s : Int))) _ _
      rw [z]
  · intro k i s h' hs tk md hsk _
    exact r6 k i s h' hs tk md hsk (f3 _ (ob_refs_in h' hs hsk))
  · intro C' hC'
    cases hC'
def ob_KK (w : ob_Wd) (U : State) : Prop := va_K (ob_dC w, ob_dI w) ob_cl [] U ∧ (∀ k, 16 ≤ k → k < 57 → ArrOfT U (ob_dA w (ob_ai k)) (ob_aty k) ∧ va_RA U (ob_dA w (ob_ai k)) (ob_aty k)) ∧ (∀ q ∈ ob_MN, va_Nw (.methodLinkNest (ob_cn q.1) q.2.1 (ob_y q.2.2.1) "OrganBarrel") U) ∧ (∀ k, 16 ≤ k → k < 57 → (ob_kq k).2.1 = 3 → va_AO (ob_cn ((ob_kq k).2.2.1 - 1)) U)
theorem ob_KK_warm {w : ob_Wd} {s U : State} (hW : s.WarmedH U.vm) (h : ob_KK w s) : ob_KK w U :=
  ⟨va_K.moved hW.alike h.1, fun k h1 h2 => ⟨arrOfT_moved hW.alike (h.2.1 k h1 h2).1, (h.2.1 k h1 h2).2.moved hW.alike⟩, fun q hq => (h.2.2.1 q hq).warmM hW, fun k h1 h2 h3 => (h.2.2.2 k h1 h2 h3).moved hW.alike⟩
def ob_Cx (w : ob_Wd) (p : Program) (R : Room) (s : State) (m : MethodId) (args : Array Value) (meth : Method) (c : Code) (f : Nat) : Prop :=
  p.tables.exec = Jvm.exec ∧ c.code = ob_by f ∧ c.maxLocals = ob_mx f ∧ s.vm.findClass (ob_cn (ob_ow f)) = some m.cls ∧ (∀ x ∈ ob_gt, x.before args s = true) ∧ meth.locks = false ∧ meth.sig.returnType = ob_rt f ∧ (f ≠ 238 → meth.name = (ob_y f).name) ∧ ob_KK w s ∧ va_X (ob_b w) (ob_L w) (ob_xs w) s s.heap ∧ (ob_b w < ob_sz w ∧ ob_sz w ≤ s.heap.size) ∧ (ob_rk f ≤ R.frames ∧ 38 * ob_rk f ≤ R.locals)
def ob_Iv (w : ob_Wd) (s : State) (c0 s0 nL : Nat) (ls st : List ob_AV) (mm : ob_MM) (LS : Array Slot) (H : Heap) (locs : List Loc) : Prop :=
  ob_Rep w mm H ∧ (LS.size = nL ∧ lv_wf LS ∧ ls.length = nL ∧ ∀ k : Nat, (ob_nth ls k (0, 0)).1 ≠ 0 → LS[k]? = some (.val (ob_cv w (ob_nth ls k (0, 0)))) ∧ ob_okv (ob_nA mm) (ob_nth ls k (0, 0))) ∧ (∀ v ∈ st, ob_okv (ob_nA mm) v) ∧ (∀ q : Nat, q < ob_sz w → H[q]? = s.heap[q]?) ∧ (∀ q ∈ locs, ob_sz w ≤ q.base) ∧ c0 ≤ ob_nA mm ∧ s0 ≤ ob_nS mm
def ob_At (w : ob_Wd) (p : Program) (l : Launch) (e : Env) (R : Room) (s : State) (m : MethodId) (args : Array Value) (below : List Frame) (meth : Method) (c : Code) (Q : State → Prop) (c0 s0 nL : Nat) : ob_St → Prop
  | (_, pc, ls, st, mm) => ∀ (LS : Array Slot) (H : Heap) (locs : List Loc), ob_Iv w s c0 s0 nL ls st mm LS H locs → W p l e R s m args below meth c H locs (ob_nA mm - c0) (ob_nS mm - s0) Q (F0 m pc LS (st.map (ob_cv w)))
/-- the next state, where there is just one -/
def ob_nx (a : ob_Ac) (S : ob_St) : Prop := a = ob_go S ∨ ∃ d : ob_Dc, a = ob_gd d S ∧ d.1
theorem ob_stop_x {r : ob_Res} {S : ob_St} (h : ob_nx (ob_stop r) S) : False := by
  rcases h with h | ⟨d, h, -⟩ <;> cases h
theorem ob_go_x {T S : ob_St} (h : ob_nx (ob_go T) S) : S = T := by
  rcases h with h | ⟨d, h, -⟩
  · cases h
    rfl
  · cases h
theorem ob_gd_x {d : ob_Dc} {T S : ob_St} (h : ob_nx (ob_gd d T) S) : d.1 ∧ S = T := by
  rcases h with h | ⟨d', h, hd⟩
  · cases h
  · cases h
    exact ⟨hd, rfl⟩
theorem ob_br_x {d : ob_Dc} {T T' S : ob_St} (h : ob_nx (ob_br d T T') S) : False := by
  rcases h with h | ⟨d', h, hd⟩ <;> cases h
theorem ob_ca_x {T S : ob_St} {k : Int → ob_MM → ob_St} (h : ob_nx (ob_ca T k) S) : False := by
  rcases h with h | ⟨d', h, hd⟩ <;> cases h
theorem ob_sw_x {v : Int} {cs : List (Int × ob_St)} {T S : ob_St} (h : ob_nx (ob_sw v cs T) S) : False := by
  rcases h with h | ⟨d', h, hd⟩ <;> cases h
theorem ob_cnd_x {cd : ClassFile.Cond} {a b : Int} {T T' S : ob_St} (h : ob_nx (ob_cnd cd a b T T') S) : False := by
  cases cd <;> exact ob_br_x h
theorem ob_cond_x {b : Bool} {a : ob_Ac} {r : ob_Res} {S : ob_St} (h : ob_nx (cond b a (ob_stop r)) S) : b = true ∧ ob_nx a S := by
  cases b with
  | false => exact (ob_stop_x h).elim
  | true => exact ⟨rfl, h⟩
theorem ob_cond_y {b : Bool} {a : ob_Ac} {r : ob_Res} {S : ob_St} (h : ob_nx (cond b (ob_stop r) a) S) : b = false ∧ ob_nx a S := by
  cases b with
  | true => exact (ob_stop_x h).elim
  | false => exact ⟨rfl, h⟩
theorem ob_i1_x {st : List ob_AV} {K : Int → List ob_AV → ob_Ac} {S : ob_St} (h : ob_nx (ob_i1 st K) S) : ∃ a r, st = (1, a) :: r ∧ ob_nx (K a r) S := by
  unfold ob_i1 at h
  split at h
  · exact ⟨_, _, rfl, h⟩
  · exact (ob_stop_x h).elim
theorem ob_l1_x {st : List ob_AV} {K : Int → List ob_AV → ob_Ac} {S : ob_St} (h : ob_nx (ob_l1 st K) S) : ∃ a r, st = (2, a) :: r ∧ ob_nx (K a r) S := by
  unfold ob_l1 at h
  split at h
  · exact ⟨_, _, rfl, h⟩
  · exact (ob_stop_x h).elim
theorem ob_r1_x {st : List ob_AV} {K : Nat → Int → List ob_AV → ob_Ac} {S : ob_St} (h : ob_nx (ob_r1 st K) S) : ∃ t i r, st = (t + 3, i) :: r ∧ ob_nx (K t i r) S := by
  unfold ob_r1 at h
  split at h
  · exact ⟨_, _, _, rfl, h⟩
  · exact (ob_stop_x h).elim
theorem ob_v1_x {st : List ob_AV} {K : ob_AV → List ob_AV → ob_Ac} {S : ob_St} (h : ob_nx (ob_v1 st K) S) : ∃ v r, st = v :: r ∧ v.1 ≠ 2 ∧ ob_nx (K v r) S := by
  unfold ob_v1 at h
  split at h
  · exact (ob_stop_x h).elim
  · obtain ⟨h1, h2⟩ := ob_cond_y h
    refine ⟨_, _, rfl, fun q => ?_, h2⟩
    dsimp only at q
    rw [q] at h1
    cases h1
theorem ob_ldi_x {ls : List ob_AV} {k : Nat} {K : Int → ob_Ac} {S : ob_St} (h : ob_nx (ob_ldi ls k K) S) : ∃ a, ob_nth ls k (0, 0) = (1, a) ∧ ob_nx (K a) S := by
  unfold ob_ldi at h
  split at h
  · exact ⟨_, by assumption, h⟩
  · exact (ob_stop_x h).elim
theorem ob_ldl_x {ls : List ob_AV} {k : Nat} {K : Int → ob_Ac} {S : ob_St} (h : ob_nx (ob_ldl ls k K) S) : ∃ a, ob_nth ls k (0, 0) = (2, a) ∧ ob_nx (K a) S := by
  unfold ob_ldl at h
  split at h
  · exact ⟨_, by assumption, h⟩
  · exact (ob_stop_x h).elim
theorem ob_ldr_x {ls : List ob_AV} {k : Nat} {K : Nat → Int → ob_Ac} {S : ob_St} (h : ob_nx (ob_ldr ls k K) S) : ∃ t i, ob_nth ls k (0, 0) = (t + 3, i) ∧ ob_nx (K t i) S := by
  unfold ob_ldr at h
  split at h
  · exact ⟨_, _, by assumption, h⟩
  · exact (ob_stop_x h).elim
theorem ob_sto_x {ls : List ob_AV} {k : Nat} {v : ob_AV} {K : List ob_AV → ob_Ac} {S : ob_St} (h : ob_nx (ob_sto ls k v K) S) : (∀ j, j + 1 = k → (ob_nth ls j (0, 0)).1 ≠ 2) ∧ ob_nx (K (ob_upd ls k v)) S := by
  unfold ob_sto at h
  split at h
  · exact ⟨fun j hj => absurd hj (Nat.succ_ne_zero _), h⟩
  · split at h
    rename_i n x e
    obtain ⟨h1, h2⟩ := ob_cond_y h
    refine ⟨fun j hj => ?_, h2⟩
    have hj := Nat.succ.inj hj
    rw [hj, e]
    intro q
    have q : n = 2 := q
    rw [q] at h1
    cases h1
theorem ob_okd {f pc nx n : Nat} {aux : List Nat} {z : Int} {ins : Instr} (hok : ob_ok f pc (ins, nx, aux, z) = true) (hn : Nat.beq nx (pc + n) = true) : decode (ob_by f) pc = .ok (ins, n) ∧ nx = pc + n := by
  have e := Nat.eq_of_beq_eq_true hn
  have h : (decide (decode (ob_by f) pc = .ok (ins, nx - pc)) && Nat.blt pc nx && ob_okI f pc ins nx aux z) = true := hok
  rw [Bool.and_eq_true, Bool.and_eq_true] at h
  have h1 := of_decide_eq_true h.1.1
  rw [show nx - pc = n by omega] at h1
  exact ⟨h1, e⟩
theorem ob_okI_of {f pc nx : Nat} {aux : List Nat} {z : Int} {ins : Instr} (hok : ob_ok f pc (ins, nx, aux, z) = true) : ob_okI f pc ins nx aux z = true := by
  have h : (decide (decode (ob_by f) pc = .ok (ins, nx - pc)) && Nat.blt pc nx && ob_okI f pc ins nx aux z) = true := hok
  rw [Bool.and_eq_true, Bool.and_eq_true] at h
  exact h.2
theorem ob_okdl {f pc nx : Nat} {aux : List Nat} {z : Int} {ins : Instr} (hok : ob_ok f pc (ins, nx, aux, z) = true) : decode (ob_by f) pc = .ok (ins, nx - pc) := by
  have h : (decide (decode (ob_by f) pc = .ok (ins, nx - pc)) && Nat.blt pc nx && ob_okI f pc ins nx aux z) = true := hok
  rw [Bool.and_eq_true, Bool.and_eq_true] at h
  exact of_decide_eq_true h.1.1
theorem ob_Iv_st {w : ob_Wd} {s : State} {c0 s0 nL : Nat} {ls st st' : List ob_AV} {mm : ob_MM} {LS : Array Slot} {H : Heap} {locs : List Loc} (h : ob_Iv w s c0 s0 nL ls st mm LS H locs) (hs : ∀ v ∈ st', ob_okv (ob_nA mm) v) : ob_Iv w s c0 s0 nL ls st' mm LS H locs := ⟨h.1, h.2.1, hs, h.2.2.2⟩
theorem ob_al1 {n : Nat} {v : ob_AV} {r : List ob_AV} (h : ob_okv n v) (hr : ∀ x ∈ r, ob_okv n x) : ∀ x ∈ v :: r, ob_okv n x := List.forall_mem_cons.mpr ⟨h, hr⟩
theorem ob_cat {w : ob_Wd} : ∀ {v : ob_AV}, v.1 ≠ 2 → (ob_cv w v).category = 1
  | (0, _), _ => rfl
  | (1, _), _ => rfl
  | (2, _), h => absurd rfl h
  | (_ + 3, _), _ => rfl
theorem ob_cat2 {w : ob_Wd} : ∀ {v : ob_AV}, (ob_cv w v).category = 2 → v.1 = 2
  | (0, _), h => by cases h
  | (1, _), h => by cases h
  | (2, _), _ => rfl
  | (_ + 3, _), h => by cases h
/-- the locals that are known, as the kit's list -/
def ob_lv (w : ob_Wd) (ls : List ob_AV) : List (Nat × Value) := (List.range ls.length).filterMap fun k => cond (Nat.beq (ob_nth ls k (0, 0)).1 0) none (some (k, ob_cv w (ob_nth ls k (0, 0))))
theorem ob_lv_in {w : ob_Wd} {ls : List ob_AV} {k : Nat} (h : (ob_nth ls k (0, 0)).1 ≠ 0) : (k, ob_cv w (ob_nth ls k (0, 0))) ∈ ob_lv w ls := by
  have hk : k < ls.length := Nat.not_le.mp fun q => h (by rw [ob_nth_ge _ _ _ q])
  refine List.mem_filterMap.mpr ⟨k, List.mem_range.mpr hk, ?_⟩
  rw [show Nat.beq (ob_nth ls k (0, 0)).1 0 = false from by
    cases e : Nat.beq (ob_nth ls k (0, 0)).1 0 with
    | false => rfl
    | true => exact absurd (Nat.eq_of_beq_eq_true e) h]
  rfl
theorem ob_lv_has {w : ob_Wd} {ls : List ob_AV} {LS : Array Slot} {nL n : Nat} (h : LS.size = nL ∧ lv_wf LS ∧ ls.length = nL ∧ ∀ k : Nat, (ob_nth ls k (0, 0)).1 ≠ 0 → LS[k]? = some (.val (ob_cv w (ob_nth ls k (0, 0)))) ∧ ob_okv n (ob_nth ls k (0, 0))) : lv_has LS nL (ob_lv w ls) := by
  refine ⟨h.1, h.2.1, fun q hq => ?_⟩
  obtain ⟨k, -, hk⟩ := List.mem_filterMap.mp hq
  cases e : Nat.beq (ob_nth ls k (0, 0)).1 0 with
  | true => rw [e] at hk; cases hk
  | false =>
    rw [e] at hk
    cases hk
    exact (h.2.2.2 k (fun z => by rw [z] at e; cases e)).1
theorem ob_st1 {w : ob_Wd} {s : State} {c0 s0 nL : Nat} {ls st st' : List ob_AV} {mm : ob_MM} {LS LS' : Array Slot} {H : Heap} {locs : List Loc} {k : Nat} {v : ob_AV} (h : ob_Iv w s c0 s0 nL ls st mm LS H locs) (hk : k < nL) (hv : ob_okv (ob_nA mm) v) (hj : ∀ j, j + 1 = k → (ob_nth ls j (0, 0)).1 ≠ 2) (hs : ∀ x ∈ st', ob_okv (ob_nA mm) x)
    (hl : lv_has LS' nL ((k, ob_cv w v) :: (ob_lv w ls).filter (fun q => !(q.1 == k) && !(q.1 + 1 == k && q.2.category == 2)))) : ob_Iv w s c0 s0 nL (ob_upd ls k v) st' mm LS' H locs := by
  obtain ⟨h1, ⟨h2, h3, h4, h5⟩, h6, h7⟩ := h
  refine ⟨h1, ⟨hl.1, hl.2.1, by rw [ob_upd_len]; exact h4, fun j hne => ?_⟩, hs, h7⟩
  rw [ob_nth_upd _ _ _ _ _ (by rw [h4]; exact hk)] at hne ⊢
  by_cases c : j = k
  · rw [if_pos c]
    subst c
    exact ⟨hl.2.2 _ List.mem_cons_self, hv⟩
  · rw [if_neg c] at hne ⊢
    refine ⟨hl.2.2 (j, ob_cv w (ob_nth ls j (0, 0))) (List.mem_cons_of_mem _ (List.mem_filter.mpr ⟨ob_lv_in hne, ?_⟩)), (h5 j hne).2⟩
    have e1 : (j == k) = false := by simpa using c
    rw [e1]
    by_cases d : j + 1 = k
    · have e2 : ((ob_cv w (ob_nth ls j (0, 0))).category == 2) = false := by
        have := hj j d
        rw [ob_cat this]
        rfl
      rw [e2]
      simp
    · have e2 : (j + 1 == k) = false := by simpa using d
      rw [e2]
      rfl
theorem ob_st2 {w : ob_Wd} {s : State} {c0 s0 nL : Nat} {ls st st' : List ob_AV} {mm : ob_MM} {LS LS' : Array Slot} {H : Heap} {locs : List Loc} {k : Nat} {v : ob_AV} (h : ob_Iv w s c0 s0 nL ls st mm LS H locs) (hk : k + 1 < nL) (hv : ob_okv (ob_nA mm) v) (hj : ∀ j, j + 1 = k → (ob_nth ls j (0, 0)).1 ≠ 2) (hs : ∀ x ∈ st', ob_okv (ob_nA mm) x)
    (hl : lv_has LS' nL ((k, ob_cv w v) :: (ob_lv w ls).filter (fun q => !(q.1 == k) && (!(q.1 == k + 1) && !(q.1 + 1 == k && q.2.category == 2))))) : ob_Iv w s c0 s0 nL (ob_upd (ob_upd ls k v) (k + 1) (0, 0)) st' mm LS' H locs := by
  obtain ⟨h1, ⟨h2, h3, h4, h5⟩, h6, h7⟩ := h
  refine ⟨h1, ⟨hl.1, hl.2.1, by rw [ob_upd_len, ob_upd_len]; exact h4, fun j hne => ?_⟩, hs, h7⟩
  rw [ob_nth_upd _ _ _ _ _ (by rw [ob_upd_len, h4]; exact hk), ob_nth_upd _ _ _ _ _ (by rw [h4]; omega)] at hne ⊢
  by_cases c0 : j = k + 1
  · rw [if_pos c0] at hne
    exact absurd rfl hne
  · rw [if_neg c0] at hne ⊢
    by_cases c : j = k
    · rw [if_pos c]
      subst c
      exact ⟨hl.2.2 _ List.mem_cons_self, hv⟩
    · rw [if_neg c] at hne ⊢
      refine ⟨hl.2.2 (j, ob_cv w (ob_nth ls j (0, 0))) (List.mem_cons_of_mem _ (List.mem_filter.mpr ⟨ob_lv_in hne, ?_⟩)), (h5 j hne).2⟩
      have e1 : (j == k) = false := by simpa using c
      have e0 : (j == k + 1) = false := by simpa using c0
      rw [e1, e0]
      by_cases d : j + 1 = k
      · have e2 : ((ob_cv w (ob_nth ls j (0, 0))).category == 2) = false := by
          have := hj j d
          rw [ob_cat this]
          rfl
        rw [e2]
        simp
      · have e2 : (j + 1 == k) = false := by simpa using d
        rw [e2]
        rfl
end
section
section ob_Sim
variable {w : ob_Wd} {p : Program} {l : Launch} {e : Env} {R : Room} {s : State} {m : MethodId} {args : Array Value} {below : List Frame} {meth : Method} {c : Code} {Q : State → Prop} {c0 s0 f pc nx : Nat} {aux : List Nat} {z : Int} {ls st : List ob_AV} {mm : ob_MM} {S : ob_St}
set_option maxRecDepth 100000 in
theorem ob_s_aload {k : Nat} (X : ob_Cx w p R s m args meth c f) (hok : ob_ok f pc (.aload k, nx, aux, z) = true) (h : ob_nx (ob_ins (.aload k) nx aux z f ls st mm) S) (kk : ob_At w p l e R s m args below meth c Q c0 s0 (ob_mx f) S) : ob_At w p l e R s m args below meth c Q c0 s0 (ob_mx f) (f, pc, ls, st, mm) := by
  obtain ⟨t, i, hl, h91⟩ := ob_ldr_x h
  obtain rfl := ob_go_x h91
  obtain ⟨hd, rfl⟩ := ob_okd hok (n := 2) (ob_okI_of hok)
  intro LS H locs I
  have q := I.2.1.2.2.2 k (by rw [hl]; exact Nat.succ_ne_zero _)
  rw [hl] at q
  refine lv_aload X.1 X.2.1 hd q.1 ?_
  exact kk LS H locs (ob_Iv_st I (ob_al1 q.2 I.2.2.1))
set_option maxRecDepth 100000 in
theorem ob_s_aload_n {k : Fin 4} (X : ob_Cx w p R s m args meth c f) (hok : ob_ok f pc (.aload_n k, nx, aux, z) = true) (h : ob_nx (ob_ins (.aload_n k) nx aux z f ls st mm) S) (kk : ob_At w p l e R s m args below meth c Q c0 s0 (ob_mx f) S) : ob_At w p l e R s m args below meth c Q c0 s0 (ob_mx f) (f, pc, ls, st, mm) := by
  obtain ⟨t, i, hl, h91⟩ := ob_ldr_x h
  obtain rfl := ob_go_x h91
  obtain ⟨hd, rfl⟩ := ob_okd hok (n := 1) (ob_okI_of hok)
  intro LS H locs I
  have q := I.2.1.2.2.2 k.val (by rw [hl]; exact Nat.succ_ne_zero _)
  rw [hl] at q
  refine lv_aload_n X.1 X.2.1 hd rfl q.1 ?_
  exact kk LS H locs (ob_Iv_st I (ob_al1 q.2 I.2.2.1))
set_option maxRecDepth 100000 in
theorem ob_s_iload {k : Nat} (X : ob_Cx w p R s m args meth c f) (hok : ob_ok f pc (.iload k, nx, aux, z) = true) (h : ob_nx (ob_ins (.iload k) nx aux z f ls st mm) S) (kk : ob_At w p l e R s m args below meth c Q c0 s0 (ob_mx f) S) : ob_At w p l e R s m args below meth c Q c0 s0 (ob_mx f) (f, pc, ls, st, mm) := by
  obtain ⟨a, hl, h91⟩ := ob_ldi_x h
  obtain rfl := ob_go_x h91
  obtain ⟨hd, rfl⟩ := ob_okd hok (n := 2) (ob_okI_of hok)
  intro LS H locs I
  have q := I.2.1.2.2.2 k (by rw [hl]; exact Nat.succ_ne_zero _)
  rw [hl] at q
  refine lv_iload X.1 X.2.1 hd q.1 ?_
  exact kk LS H locs (ob_Iv_st I (ob_al1 q.2 I.2.2.1))
set_option maxRecDepth 100000 in
theorem ob_s_iload_n {k : Fin 4} (X : ob_Cx w p R s m args meth c f) (hok : ob_ok f pc (.iload_n k, nx, aux, z) = true) (h : ob_nx (ob_ins (.iload_n k) nx aux z f ls st mm) S) (kk : ob_At w p l e R s m args below meth c Q c0 s0 (ob_mx f) S) : ob_At w p l e R s m args below meth c Q c0 s0 (ob_mx f) (f, pc, ls, st, mm) := by
  obtain ⟨a, hl, h91⟩ := ob_ldi_x h
  obtain rfl := ob_go_x h91
  obtain ⟨hd, rfl⟩ := ob_okd hok (n := 1) (ob_okI_of hok)
  intro LS H locs I
  have q := I.2.1.2.2.2 k.val (by rw [hl]; exact Nat.succ_ne_zero _)
  rw [hl] at q
  refine lv_iload_n X.1 X.2.1 hd rfl q.1 ?_
  exact kk LS H locs (ob_Iv_st I (ob_al1 q.2 I.2.2.1))
set_option maxRecDepth 100000 in
theorem ob_s_lload {k : Nat} (X : ob_Cx w p R s m args meth c f) (hok : ob_ok f pc (.lload k, nx, aux, z) = true) (h : ob_nx (ob_ins (.lload k) nx aux z f ls st mm) S) (kk : ob_At w p l e R s m args below meth c Q c0 s0 (ob_mx f) S) : ob_At w p l e R s m args below meth c Q c0 s0 (ob_mx f) (f, pc, ls, st, mm) := by
  obtain ⟨a, hl, h91⟩ := ob_ldl_x h
  obtain rfl := ob_go_x h91
  obtain ⟨hd, rfl⟩ := ob_okd hok (n := 2) (ob_okI_of hok)
  intro LS H locs I
  have q := I.2.1.2.2.2 k (by rw [hl]; exact Nat.succ_ne_zero _)
  rw [hl] at q
  refine lv_lload X.1 X.2.1 hd q.1 ?_
  exact kk LS H locs (ob_Iv_st I (ob_al1 q.2 I.2.2.1))
set_option maxRecDepth 100000 in
theorem ob_s_lload_n {k : Fin 4} (X : ob_Cx w p R s m args meth c f) (hok : ob_ok f pc (.lload_n k, nx, aux, z) = true) (h : ob_nx (ob_ins (.lload_n k) nx aux z f ls st mm) S) (kk : ob_At w p l e R s m args below meth c Q c0 s0 (ob_mx f) S) : ob_At w p l e R s m args below meth c Q c0 s0 (ob_mx f) (f, pc, ls, st, mm) := by
  obtain ⟨a, hl, h91⟩ := ob_ldl_x h
  obtain rfl := ob_go_x h91
  obtain ⟨hd, rfl⟩ := ob_okd hok (n := 1) (ob_okI_of hok)
  intro LS H locs I
  have q := I.2.1.2.2.2 k.val (by rw [hl]; exact Nat.succ_ne_zero _)
  rw [hl] at q
  refine lv_lload_n X.1 X.2.1 hd rfl q.1 ?_
  exact kk LS H locs (ob_Iv_st I (ob_al1 q.2 I.2.2.1))
set_option maxRecDepth 100000 in
theorem ob_s_astore {k : Nat} (X : ob_Cx w p R s m args meth c f) (hok : ob_ok f pc (.astore k, nx, aux, z) = true) (h : ob_nx (ob_ins (.astore k) nx aux z f ls st mm) S) (kk : ob_At w p l e R s m args below meth c Q c0 s0 (ob_mx f) S) : ob_At w p l e R s m args below meth c Q c0 s0 (ob_mx f) (f, pc, ls, st, mm) := by
  obtain ⟨t, i, st, rfl, h91⟩ := ob_r1_x h
  obtain ⟨hj, h92⟩ := ob_sto_x h91
  obtain rfl := ob_go_x h92
  have g : (Nat.beq nx (pc + 2) && Nat.blt k (ob_mx f)) = true := ob_okI_of hok
  rw [Bool.and_eq_true] at g
  obtain ⟨hd, rfl⟩ := ob_okd hok g.1
  have hk : k < ob_mx f := Nat.le_of_ble_eq_true g.2
  intro LS H locs I
  refine lv_astore X.1 X.2.1 hd (ob_lv_has I.2.1) hk rfl (fun LS' hl => ?_)
  exact kk LS' H locs (ob_st1 I hk (I.2.2.1 _ List.mem_cons_self) hj (fun x hx => I.2.2.1 x (List.mem_cons_of_mem _ hx)) hl)
set_option maxRecDepth 100000 in
theorem ob_s_astore_n {k : Fin 4} (X : ob_Cx w p R s m args meth c f) (hok : ob_ok f pc (.astore_n k, nx, aux, z) = true) (h : ob_nx (ob_ins (.astore_n k) nx aux z f ls st mm) S) (kk : ob_At w p l e R s m args below meth c Q c0 s0 (ob_mx f) S) : ob_At w p l e R s m args below meth c Q c0 s0 (ob_mx f) (f, pc, ls, st, mm) := by
  obtain ⟨t, i, st, rfl, h91⟩ := ob_r1_x h
  obtain ⟨hj, h92⟩ := ob_sto_x h91
  obtain rfl := ob_go_x h92
  have g : (Nat.beq nx (pc + 1) && Nat.blt k.val (ob_mx f)) = true := ob_okI_of hok
  rw [Bool.and_eq_true] at g
  obtain ⟨hd, rfl⟩ := ob_okd hok g.1
  have hk : k.val < ob_mx f := Nat.le_of_ble_eq_true g.2
  intro LS H locs I
  refine lv_astore_n X.1 X.2.1 hd rfl (ob_lv_has I.2.1) hk rfl (fun LS' hl => ?_)
  exact kk LS' H locs (ob_st1 I hk (I.2.2.1 _ List.mem_cons_self) hj (fun x hx => I.2.2.1 x (List.mem_cons_of_mem _ hx)) hl)
set_option maxRecDepth 100000 in
theorem ob_s_istore {k : Nat} (X : ob_Cx w p R s m args meth c f) (hok : ob_ok f pc (.istore k, nx, aux, z) = true) (h : ob_nx (ob_ins (.istore k) nx aux z f ls st mm) S) (kk : ob_At w p l e R s m args below meth c Q c0 s0 (ob_mx f) S) : ob_At w p l e R s m args below meth c Q c0 s0 (ob_mx f) (f, pc, ls, st, mm) := by
  obtain ⟨a, st, rfl, h91⟩ := ob_i1_x h
  obtain ⟨hj, h92⟩ := ob_sto_x h91
  obtain rfl := ob_go_x h92
  have g : (Nat.beq nx (pc + 2) && Nat.blt k (ob_mx f)) = true := ob_okI_of hok
  rw [Bool.and_eq_true] at g
  obtain ⟨hd, rfl⟩ := ob_okd hok g.1
  have hk : k < ob_mx f := Nat.le_of_ble_eq_true g.2
  intro LS H locs I
  refine lv_istore X.1 X.2.1 hd (ob_lv_has I.2.1) hk rfl (fun LS' hl => ?_)
  exact kk LS' H locs (ob_st1 I hk (I.2.2.1 _ List.mem_cons_self) hj (fun x hx => I.2.2.1 x (List.mem_cons_of_mem _ hx)) hl)
theorem ob_seal_x {mm : ob_MM} {K : ob_MM → ob_Ac} {S : ob_St} (h : ob_nx (ob_seal mm K) S) : ∃ C, mm.2 = some C ∧ ob_full C = true ∧ ob_nx (K (mm.1, none)) S := by
  unfold ob_seal at h
  split at h
  · exact (ob_stop_x h).elim
  · obtain ⟨h1, h2⟩ := ob_cond_x h
    exact ⟨_, by assumption, h1, h2⟩
set_option maxRecDepth 100000 in
theorem ob_s_istore_n {k : Fin 4} (X : ob_Cx w p R s m args meth c f) (hok : ob_ok f pc (.istore_n k, nx, aux, z) = true) (h : ob_nx (ob_ins (.istore_n k) nx aux z f ls st mm) S) (kk : ob_At w p l e R s m args below meth c Q c0 s0 (ob_mx f) S) : ob_At w p l e R s m args below meth c Q c0 s0 (ob_mx f) (f, pc, ls, st, mm) := by
  obtain ⟨a, st, rfl, h91⟩ := ob_i1_x h
  obtain ⟨hj, h92⟩ := ob_sto_x h91
  have g : (Nat.beq nx (pc + 1) && Nat.blt k.val (ob_mx f)) = true := ob_okI_of hok
  rw [Bool.and_eq_true] at g
  obtain ⟨hd, rfl⟩ := ob_okd hok g.1
  have hk : k.val < ob_mx f := Nat.le_of_ble_eq_true g.2
  intro LS H locs I
  refine lv_istore_n X.1 X.2.1 hd rfl (ob_lv_has I.2.1) hk rfl (fun LS' hl => ?_)
  have I2 := ob_st1 I hk (I.2.2.1 _ List.mem_cons_self) hj (fun x hx => I.2.2.1 x (List.mem_cons_of_mem _ hx)) hl
  cases aux with
  | nil =>
    obtain rfl := ob_go_x h92
    exact kk LS' H locs I2
  | cons a0 as =>
    obtain ⟨C, hC, hf, h93⟩ := ob_seal_x h92
    obtain rfl := ob_go_x h93
    obtain ⟨m0, cc⟩ := mm
    have hC : cc = some C := hC
    subst hC
    obtain ⟨f1, f2, -⟩ := ob_full_in hf
    have e1 : ob_nA (m0, some C) = ob_nA (m0, none) := f1
    have e2 : ob_nS (m0, some C) = ob_nS (m0, none) := f2
    obtain ⟨i1, i2, i3, i4, i5, i6, i7⟩ := I2
    rw [e1] at i2 i3 i6
    rw [e2] at i7
    have K := kk LS' H locs ⟨ob_Rep_seal i1 hf, i2, i3, i4, i5, i6, i7⟩
    rw [e1, e2]
    exact K
set_option maxRecDepth 100000 in
theorem ob_s_lstore {k : Nat} (X : ob_Cx w p R s m args meth c f) (hok : ob_ok f pc (.lstore k, nx, aux, z) = true) (h : ob_nx (ob_ins (.lstore k) nx aux z f ls st mm) S) (kk : ob_At w p l e R s m args below meth c Q c0 s0 (ob_mx f) S) : ob_At w p l e R s m args below meth c Q c0 s0 (ob_mx f) (f, pc, ls, st, mm) := by
  obtain ⟨a, st, rfl, h91⟩ := ob_l1_x h
  obtain ⟨hj, h92⟩ := ob_sto_x h91
  obtain rfl := ob_go_x h92
  have g : (Nat.beq nx (pc + 2) && Nat.blt (k + 1) (ob_mx f)) = true := ob_okI_of hok
  rw [Bool.and_eq_true] at g
  obtain ⟨hd, rfl⟩ := ob_okd hok g.1
  have hk : k + 1 < ob_mx f := Nat.le_of_ble_eq_true g.2
  intro LS H locs I
  refine lv_lstore X.1 X.2.1 hd (ob_lv_has I.2.1) hk rfl (fun LS' hl => ?_)
  exact kk LS' H locs (ob_st2 I hk (I.2.2.1 _ List.mem_cons_self) hj (fun x hx => I.2.2.1 x (List.mem_cons_of_mem _ hx)) hl)
set_option maxRecDepth 100000 in
theorem ob_s_lstore_n {k : Fin 4} (X : ob_Cx w p R s m args meth c f) (hok : ob_ok f pc (.lstore_n k, nx, aux, z) = true) (h : ob_nx (ob_ins (.lstore_n k) nx aux z f ls st mm) S) (kk : ob_At w p l e R s m args below meth c Q c0 s0 (ob_mx f) S) : ob_At w p l e R s m args below meth c Q c0 s0 (ob_mx f) (f, pc, ls, st, mm) := by
  obtain ⟨a, st, rfl, h91⟩ := ob_l1_x h
  obtain ⟨hj, h92⟩ := ob_sto_x h91
  obtain rfl := ob_go_x h92
  have g : (Nat.beq nx (pc + 1) && Nat.blt (k.val + 1) (ob_mx f)) = true := ob_okI_of hok
  rw [Bool.and_eq_true] at g
  obtain ⟨hd, rfl⟩ := ob_okd hok g.1
  have hk : k.val + 1 < ob_mx f := Nat.le_of_ble_eq_true g.2
  intro LS H locs I
  refine lv_lstore_n X.1 X.2.1 hd rfl (ob_lv_has I.2.1) hk rfl (fun LS' hl => ?_)
  exact kk LS' H locs (ob_st2 I hk (I.2.2.1 _ List.mem_cons_self) hj (fun x hx => I.2.2.1 x (List.mem_cons_of_mem _ hx)) hl)
set_option maxRecDepth 100000 in
theorem ob_s_iinc {k : Nat} {n : Int} (X : ob_Cx w p R s m args meth c f) (hok : ob_ok f pc (.iinc k n, nx, aux, z) = true) (h : ob_nx (ob_ins (.iinc k n) nx aux z f ls st mm) S) (kk : ob_At w p l e R s m args below meth c Q c0 s0 (ob_mx f) S) : ob_At w p l e R s m args below meth c Q c0 s0 (ob_mx f) (f, pc, ls, st, mm) := by
  obtain ⟨a, hl, h91⟩ := ob_ldi_x h
  obtain rfl := ob_go_x h91
  have g : (Nat.beq nx (pc + 3) && Nat.blt k (ob_mx f) && decide (-128 ≤ n ∧ n < 128)) = true := ob_okI_of hok
  rw [Bool.and_eq_true, Bool.and_eq_true] at g
  obtain ⟨hd, rfl⟩ := ob_okd hok g.1.1
  have hk : k < ob_mx f := Nat.le_of_ble_eq_true g.1.2
  intro LS H locs I
  have hin := ob_lv_in (w := w) (ls := ls) (k := k) (by rw [hl]; exact Nat.succ_ne_zero _)
  rw [hl] at hin
  obtain ⟨j, hj⟩ := List.getElem?_of_mem hin
  have hprev : ∀ j, j + 1 = k → (ob_nth ls j (0, 0)).1 ≠ 2 := by
    intro j hj e2
    subst hj
    have q := (I.2.1.2.2.2 j (by rw [e2]; decide)).1
    have q2 := (I.2.1.2.2.2 (j + 1) (by rw [hl]; exact Nat.succ_ne_zero _)).1
    rw [hl] at q2
    obtain ⟨v, hv⟩ : ∃ v, ob_nth ls j (0, 0) = (2, v) := ⟨(ob_nth ls j (0, 0)).2, by rw [← e2]⟩
    rw [hv] at q
    have q3 := I.2.1.2.1.1 j _ q rfl
    rw [q2] at q3
    cases q3
  refine lv_iinc X.1 X.2.1 hd (ob_lv_has I.2.1) hj (ob_i_add a n).symm hk rfl (fun LS' hl' => ?_)
  exact kk LS' H locs (ob_st1 (v := (1, ob_wr (a + n))) I hk (ob_wr_r _) hprev I.2.2.1 hl')
set_option maxRecDepth 100000 in
theorem ob_s_iconst {n : Int} (X : ob_Cx w p R s m args meth c f) (hok : ob_ok f pc (.iconst n, nx, aux, z) = true) (h : ob_nx (ob_ins (.iconst n) nx aux z f ls st mm) S) (kk : ob_At w p l e R s m args below meth c Q c0 s0 (ob_mx f) S) : ob_At w p l e R s m args below meth c Q c0 s0 (ob_mx f) (f, pc, ls, st, mm) := by
  obtain rfl := ob_go_x h
  have g : (Nat.beq nx (pc + 1) && decide (-128 ≤ n ∧ n < 128)) = true := ob_okI_of hok
  rw [Bool.and_eq_true] at g
  obtain ⟨hd, rfl⟩ := ob_okd hok g.1
  have hn := of_decide_eq_true g.2
  intro LS H locs I
  refine lv_iconst X.1 X.2.1 hd rfl ?_
  exact kk LS H locs (ob_Iv_st I (ob_al1 (v := (1, n)) ⟨by omega, by omega⟩ I.2.2.1))
set_option maxRecDepth 100000 in
theorem ob_s_bipush {n : Int} (X : ob_Cx w p R s m args meth c f) (hok : ob_ok f pc (.bipush n, nx, aux, z) = true) (h : ob_nx (ob_ins (.bipush n) nx aux z f ls st mm) S) (kk : ob_At w p l e R s m args below meth c Q c0 s0 (ob_mx f) S) : ob_At w p l e R s m args below meth c Q c0 s0 (ob_mx f) (f, pc, ls, st, mm) := by
  obtain rfl := ob_go_x h
  have g : (Nat.beq nx (pc + 2) && decide (-128 ≤ n ∧ n < 128)) = true := ob_okI_of hok
  rw [Bool.and_eq_true] at g
  obtain ⟨hd, rfl⟩ := ob_okd hok g.1
  have hn := of_decide_eq_true g.2
  intro LS H locs I
  refine lv_bipush X.1 X.2.1 hd (ob_bip hn.1 hn.2) ?_
  exact kk LS H locs (ob_Iv_st I (ob_al1 (v := (1, n)) ⟨by omega, by omega⟩ I.2.2.1))
set_option maxRecDepth 100000 in
theorem ob_s_sipush {n : Int} (X : ob_Cx w p R s m args meth c f) (hok : ob_ok f pc (.sipush n, nx, aux, z) = true) (h : ob_nx (ob_ins (.sipush n) nx aux z f ls st mm) S) (kk : ob_At w p l e R s m args below meth c Q c0 s0 (ob_mx f) S) : ob_At w p l e R s m args below meth c Q c0 s0 (ob_mx f) (f, pc, ls, st, mm) := by
  obtain rfl := ob_go_x h
  have g : (Nat.beq nx (pc + 3) && decide (-32768 ≤ n ∧ n < 32768)) = true := ob_okI_of hok
  rw [Bool.and_eq_true] at g
  obtain ⟨hd, rfl⟩ := ob_okd hok g.1
  have hn := of_decide_eq_true g.2
  intro LS H locs I
  refine lv_sipush X.1 X.2.1 hd (ob_sip hn.1 hn.2) ?_
  exact kk LS H locs (ob_Iv_st I (ob_al1 (v := (1, n)) ⟨by omega, by omega⟩ I.2.2.1))
set_option maxRecDepth 100000 in
theorem ob_s_lconst {n : Fin 2} (X : ob_Cx w p R s m args meth c f) (hok : ob_ok f pc (.lconst n, nx, aux, z) = true) (h : ob_nx (ob_ins (.lconst n) nx aux z f ls st mm) S) (kk : ob_At w p l e R s m args below meth c Q c0 s0 (ob_mx f) S) : ob_At w p l e R s m args below meth c Q c0 s0 (ob_mx f) (f, pc, ls, st, mm) := by
  obtain rfl := ob_go_x h
  obtain ⟨hd, rfl⟩ := ob_okd hok (n := 1) (ob_okI_of hok)
  intro LS H locs I
  refine lv_lconst X.1 X.2.1 hd Int64.ofInt_eq_ofNat.symm ?_
  exact kk LS H locs (ob_Iv_st I (ob_al1 (v := (2, (n.val : Int))) (by have := n.isLt; exact ⟨by omega, by omega⟩) I.2.2.1))
set_option maxRecDepth 100000 in
theorem ob_s_iadd  (X : ob_Cx w p R s m args meth c f) (hok : ob_ok f pc (.iadd, nx, aux, z) = true) (h : ob_nx (ob_ins (.iadd) nx aux z f ls st mm) S) (kk : ob_At w p l e R s m args below meth c Q c0 s0 (ob_mx f) S) : ob_At w p l e R s m args below meth c Q c0 s0 (ob_mx f) (f, pc, ls, st, mm) := by
  obtain ⟨b, st, rfl, h91⟩ := ob_i1_x h
  obtain ⟨a, st, rfl, h92⟩ := ob_i1_x h91
  obtain rfl := ob_go_x h92
  obtain ⟨hd, rfl⟩ := ob_okd hok (n := 1) (ob_okI_of hok)
  intro LS H locs I
  refine lv_iadd X.1 X.2.1 hd ?_
  rw [← ob_i_add]
  exact kk LS H locs (ob_Iv_st I (ob_al1 (v := (1, ob_wr _)) (ob_wr_r _) (fun x hx => I.2.2.1 x (List.mem_cons_of_mem _ (List.mem_cons_of_mem _ hx)))))
set_option maxRecDepth 100000 in
theorem ob_s_isub  (X : ob_Cx w p R s m args meth c f) (hok : ob_ok f pc (.isub, nx, aux, z) = true) (h : ob_nx (ob_ins (.isub) nx aux z f ls st mm) S) (kk : ob_At w p l e R s m args below meth c Q c0 s0 (ob_mx f) S) : ob_At w p l e R s m args below meth c Q c0 s0 (ob_mx f) (f, pc, ls, st, mm) := by
  obtain ⟨b, st, rfl, h91⟩ := ob_i1_x h
  obtain ⟨a, st, rfl, h92⟩ := ob_i1_x h91
  obtain rfl := ob_go_x h92
  obtain ⟨hd, rfl⟩ := ob_okd hok (n := 1) (ob_okI_of hok)
  intro LS H locs I
  refine lv_isub X.1 X.2.1 hd ?_
  rw [← ob_i_sub]
  exact kk LS H locs (ob_Iv_st I (ob_al1 (v := (1, ob_wr _)) (ob_wr_r _) (fun x hx => I.2.2.1 x (List.mem_cons_of_mem _ (List.mem_cons_of_mem _ hx)))))
set_option maxRecDepth 100000 in
theorem ob_s_imul  (X : ob_Cx w p R s m args meth c f) (hok : ob_ok f pc (.imul, nx, aux, z) = true) (h : ob_nx (ob_ins (.imul) nx aux z f ls st mm) S) (kk : ob_At w p l e R s m args below meth c Q c0 s0 (ob_mx f) S) : ob_At w p l e R s m args below meth c Q c0 s0 (ob_mx f) (f, pc, ls, st, mm) := by
  obtain ⟨b, st, rfl, h91⟩ := ob_i1_x h
  obtain ⟨a, st, rfl, h92⟩ := ob_i1_x h91
  obtain rfl := ob_go_x h92
  obtain ⟨hd, rfl⟩ := ob_okd hok (n := 1) (ob_okI_of hok)
  intro LS H locs I
  refine lv_imul X.1 X.2.1 hd ?_
  rw [← ob_i_mul]
  exact kk LS H locs (ob_Iv_st I (ob_al1 (v := (1, ob_wr _)) (ob_wr_r _) (fun x hx => I.2.2.1 x (List.mem_cons_of_mem _ (List.mem_cons_of_mem _ hx)))))
set_option maxRecDepth 100000 in
theorem ob_s_iand  (X : ob_Cx w p R s m args meth c f) (hok : ob_ok f pc (.iand, nx, aux, z) = true) (h : ob_nx (ob_ins (.iand) nx aux z f ls st mm) S) (kk : ob_At w p l e R s m args below meth c Q c0 s0 (ob_mx f) S) : ob_At w p l e R s m args below meth c Q c0 s0 (ob_mx f) (f, pc, ls, st, mm) := by
  obtain ⟨b, st, rfl, h91⟩ := ob_i1_x h
  obtain ⟨a, st, rfl, h92⟩ := ob_i1_x h91
  obtain rfl := ob_go_x h92
  obtain ⟨hd, rfl⟩ := ob_okd hok (n := 1) (ob_okI_of hok)
  intro LS H locs I
  refine lv_iand X.1 X.2.1 hd ?_
  have K := kk LS H locs (ob_Iv_st I (ob_al1 (v := (1, ob_and a b)) (ob_i_r _) (fun x hx => I.2.2.1 x (List.mem_cons_of_mem _ (List.mem_cons_of_mem _ hx)))))
  have e9 : List.map (ob_cv w) ((1, ob_and a b) :: st) = Value.int (Int32.ofInt (ob_and a b)) :: List.map (ob_cv w) st := rfl
  rw [e9] at K
  unfold ob_and at K
  rw [Int32.ofInt_toInt] at K
  exact K
set_option maxRecDepth 100000 in
theorem ob_s_ior  (X : ob_Cx w p R s m args meth c f) (hok : ob_ok f pc (.ior, nx, aux, z) = true) (h : ob_nx (ob_ins (.ior) nx aux z f ls st mm) S) (kk : ob_At w p l e R s m args below meth c Q c0 s0 (ob_mx f) S) : ob_At w p l e R s m args below meth c Q c0 s0 (ob_mx f) (f, pc, ls, st, mm) := by
  obtain ⟨b, st, rfl, h91⟩ := ob_i1_x h
  obtain ⟨a, st, rfl, h92⟩ := ob_i1_x h91
  obtain rfl := ob_go_x h92
  obtain ⟨hd, rfl⟩ := ob_okd hok (n := 1) (ob_okI_of hok)
  intro LS H locs I
  refine lv_ior X.1 X.2.1 hd ?_
  have K := kk LS H locs (ob_Iv_st I (ob_al1 (v := (1, ob_or a b)) (ob_i_r _) (fun x hx => I.2.2.1 x (List.mem_cons_of_mem _ (List.mem_cons_of_mem _ hx)))))
  have e9 : List.map (ob_cv w) ((1, ob_or a b) :: st) = Value.int (Int32.ofInt (ob_or a b)) :: List.map (ob_cv w) st := rfl
  rw [e9] at K
  unfold ob_or at K
  rw [Int32.ofInt_toInt] at K
  exact K
set_option maxRecDepth 100000 in
theorem ob_s_ishl  (X : ob_Cx w p R s m args meth c f) (hok : ob_ok f pc (.ishl, nx, aux, z) = true) (h : ob_nx (ob_ins (.ishl) nx aux z f ls st mm) S) (kk : ob_At w p l e R s m args below meth c Q c0 s0 (ob_mx f) S) : ob_At w p l e R s m args below meth c Q c0 s0 (ob_mx f) (f, pc, ls, st, mm) := by
  obtain ⟨b, st, rfl, h91⟩ := ob_i1_x h
  obtain ⟨a, st, rfl, h92⟩ := ob_i1_x h91
  obtain rfl := ob_go_x h92
  obtain ⟨hd, rfl⟩ := ob_okd hok (n := 1) (ob_okI_of hok)
  intro LS H locs I
  refine lv_ishl X.1 X.2.1 hd ?_
  have K := kk LS H locs (ob_Iv_st I (ob_al1 (v := (1, ob_shl a b)) (ob_i_r _) (fun x hx => I.2.2.1 x (List.mem_cons_of_mem _ (List.mem_cons_of_mem _ hx)))))
  have e9 : List.map (ob_cv w) ((1, ob_shl a b) :: st) = Value.int (Int32.ofInt (ob_shl a b)) :: List.map (ob_cv w) st := rfl
  rw [e9] at K
  unfold ob_shl at K
  rw [Int32.ofInt_toInt] at K
  exact K
set_option maxRecDepth 100000 in
theorem ob_s_ishr  (X : ob_Cx w p R s m args meth c f) (hok : ob_ok f pc (.ishr, nx, aux, z) = true) (h : ob_nx (ob_ins (.ishr) nx aux z f ls st mm) S) (kk : ob_At w p l e R s m args below meth c Q c0 s0 (ob_mx f) S) : ob_At w p l e R s m args below meth c Q c0 s0 (ob_mx f) (f, pc, ls, st, mm) := by
  obtain ⟨b, st, rfl, h91⟩ := ob_i1_x h
  obtain ⟨a, st, rfl, h92⟩ := ob_i1_x h91
  obtain rfl := ob_go_x h92
  obtain ⟨hd, rfl⟩ := ob_okd hok (n := 1) (ob_okI_of hok)
  intro LS H locs I
  refine lv_ishr X.1 X.2.1 hd ?_
  have K := kk LS H locs (ob_Iv_st I (ob_al1 (v := (1, ob_shr a b)) (ob_i_r _) (fun x hx => I.2.2.1 x (List.mem_cons_of_mem _ (List.mem_cons_of_mem _ hx)))))
  have e9 : List.map (ob_cv w) ((1, ob_shr a b) :: st) = Value.int (Int32.ofInt (ob_shr a b)) :: List.map (ob_cv w) st := rfl
  rw [e9] at K
  unfold ob_shr at K
  rw [Int32.ofInt_toInt] at K
  exact K
set_option maxRecDepth 100000 in
theorem ob_s_idiv  (X : ob_Cx w p R s m args meth c f) (hok : ob_ok f pc (.idiv, nx, aux, z) = true) (h : ob_nx (ob_ins (.idiv) nx aux z f ls st mm) S) (kk : ob_At w p l e R s m args below meth c Q c0 s0 (ob_mx f) S) : ob_At w p l e R s m args below meth c Q c0 s0 (ob_mx f) (f, pc, ls, st, mm) := by
  obtain ⟨b, st, rfl, h91⟩ := ob_i1_x h
  obtain ⟨a, st, rfl, h92⟩ := ob_i1_x h91
  obtain ⟨hb0, rfl⟩ := ob_gd_x h92
  obtain ⟨hd, rfl⟩ := ob_okd hok (n := 1) (ob_okI_of hok)
  intro LS H locs I
  have hb : ob_r32 b := I.2.2.1 (1, b) List.mem_cons_self
  have ha : ob_r32 a := I.2.2.1 (1, a) (List.mem_cons_of_mem _ List.mem_cons_self)
  refine lv_idiv X.1 X.2.1 hd (fun q => hb0 ((ob_i_eq hb ob_r0).mp q)) ?_
  rw [← ob_i_div ha hb]
  exact kk LS H locs (ob_Iv_st I (ob_al1 (v := (1, ob_wr (Int.tdiv a b))) (ob_wr_r _) (fun x hx => I.2.2.1 x (List.mem_cons_of_mem _ (List.mem_cons_of_mem _ hx)))))
set_option maxRecDepth 100000 in
theorem ob_s_irem  (X : ob_Cx w p R s m args meth c f) (hok : ob_ok f pc (.irem, nx, aux, z) = true) (h : ob_nx (ob_ins (.irem) nx aux z f ls st mm) S) (kk : ob_At w p l e R s m args below meth c Q c0 s0 (ob_mx f) S) : ob_At w p l e R s m args below meth c Q c0 s0 (ob_mx f) (f, pc, ls, st, mm) := by
  obtain ⟨b, st, rfl, h91⟩ := ob_i1_x h
  obtain ⟨a, st, rfl, h92⟩ := ob_i1_x h91
  obtain ⟨hb0, rfl⟩ := ob_gd_x h92
  obtain ⟨hd, rfl⟩ := ob_okd hok (n := 1) (ob_okI_of hok)
  intro LS H locs I
  have hb : ob_r32 b := I.2.2.1 (1, b) List.mem_cons_self
  have ha : ob_r32 a := I.2.2.1 (1, a) (List.mem_cons_of_mem _ List.mem_cons_self)
  refine lv_irem X.1 X.2.1 hd (fun q => hb0 ((ob_i_eq hb ob_r0).mp q)) ?_
  rw [← ob_i_rem ha hb]
  exact kk LS H locs (ob_Iv_st I (ob_al1 (v := (1, Int.tmod a b)) (ob_tmod_r ha) (fun x hx => I.2.2.1 x (List.mem_cons_of_mem _ (List.mem_cons_of_mem _ hx)))))
set_option maxRecDepth 100000 in
theorem ob_s_i2l  (X : ob_Cx w p R s m args meth c f) (hok : ob_ok f pc (.i2l, nx, aux, z) = true) (h : ob_nx (ob_ins (.i2l) nx aux z f ls st mm) S) (kk : ob_At w p l e R s m args below meth c Q c0 s0 (ob_mx f) S) : ob_At w p l e R s m args below meth c Q c0 s0 (ob_mx f) (f, pc, ls, st, mm) := by
  obtain ⟨a, st, rfl, h91⟩ := ob_i1_x h
  obtain rfl := ob_go_x h91
  obtain ⟨hd, rfl⟩ := ob_okd hok (n := 1) (ob_okI_of hok)
  intro LS H locs I
  have ha : ob_r32 a := I.2.2.1 (1, a) List.mem_cons_self
  refine lv_i2l X.1 X.2.1 hd (ob_i_i2l ha) ?_
  exact kk LS H locs (ob_Iv_st I (ob_al1 (v := (2, a)) (by have h1 := ha.1; have h2 := ha.2; exact ⟨by omega, by omega⟩) (fun x hx => I.2.2.1 x (List.mem_cons_of_mem _ hx))))
set_option maxRecDepth 100000 in
theorem ob_s_i2b  (X : ob_Cx w p R s m args meth c f) (hok : ob_ok f pc (.i2b, nx, aux, z) = true) (h : ob_nx (ob_ins (.i2b) nx aux z f ls st mm) S) (kk : ob_At w p l e R s m args below meth c Q c0 s0 (ob_mx f) S) : ob_At w p l e R s m args below meth c Q c0 s0 (ob_mx f) (f, pc, ls, st, mm) := by
  obtain ⟨a, st, rfl, h91⟩ := ob_i1_x h
  obtain rfl := ob_go_x h91
  obtain ⟨hd, rfl⟩ := ob_okd hok (n := 1) (ob_okI_of hok)
  intro LS H locs I
  refine lv_i2b X.1 X.2.1 hd (ob_i_i2b a) ?_
  have h1 := Int.le_bmod (x := a) (m := 256) (by decide)
  have h2 := Int.bmod_lt (x := a) (m := 256) (by decide)
  exact kk LS H locs (ob_Iv_st I (ob_al1 (v := (1, Int.bmod a 256)) ⟨by omega, by omega⟩ (fun x hx => I.2.2.1 x (List.mem_cons_of_mem _ hx))))
set_option maxRecDepth 100000 in
theorem ob_s_ladd  (X : ob_Cx w p R s m args meth c f) (hok : ob_ok f pc (.ladd, nx, aux, z) = true) (h : ob_nx (ob_ins (.ladd) nx aux z f ls st mm) S) (kk : ob_At w p l e R s m args below meth c Q c0 s0 (ob_mx f) S) : ob_At w p l e R s m args below meth c Q c0 s0 (ob_mx f) (f, pc, ls, st, mm) := by
  obtain ⟨b, st, rfl, h91⟩ := ob_l1_x h
  obtain ⟨a, st, rfl, h92⟩ := ob_l1_x h91
  obtain rfl := ob_go_x h92
  obtain ⟨hd, rfl⟩ := ob_okd hok (n := 1) (ob_okI_of hok)
  intro LS H locs I
  refine lv_ladd X.1 X.2.1 hd ?_
  rw [← ob_l_add]
  exact kk LS H locs (ob_Iv_st I (ob_al1 (v := (2, ob_wl _)) (ob_wl_r _) (fun x hx => I.2.2.1 x (List.mem_cons_of_mem _ (List.mem_cons_of_mem _ hx)))))
set_option maxRecDepth 100000 in
theorem ob_s_lmul  (X : ob_Cx w p R s m args meth c f) (hok : ob_ok f pc (.lmul, nx, aux, z) = true) (h : ob_nx (ob_ins (.lmul) nx aux z f ls st mm) S) (kk : ob_At w p l e R s m args below meth c Q c0 s0 (ob_mx f) S) : ob_At w p l e R s m args below meth c Q c0 s0 (ob_mx f) (f, pc, ls, st, mm) := by
  obtain ⟨b, st, rfl, h91⟩ := ob_l1_x h
  obtain ⟨a, st, rfl, h92⟩ := ob_l1_x h91
  obtain rfl := ob_go_x h92
  obtain ⟨hd, rfl⟩ := ob_okd hok (n := 1) (ob_okI_of hok)
  intro LS H locs I
  refine lv_lmul X.1 X.2.1 hd ?_
  rw [← ob_l_mul]
  exact kk LS H locs (ob_Iv_st I (ob_al1 (v := (2, ob_wl _)) (ob_wl_r _) (fun x hx => I.2.2.1 x (List.mem_cons_of_mem _ (List.mem_cons_of_mem _ hx)))))
set_option maxRecDepth 100000 in
theorem ob_s_lcmp  (X : ob_Cx w p R s m args meth c f) (hok : ob_ok f pc (.lcmp, nx, aux, z) = true) (h : ob_nx (ob_ins (.lcmp) nx aux z f ls st mm) S) (kk : ob_At w p l e R s m args below meth c Q c0 s0 (ob_mx f) S) : ob_At w p l e R s m args below meth c Q c0 s0 (ob_mx f) (f, pc, ls, st, mm) := by
  obtain ⟨b, st, rfl, h91⟩ := ob_l1_x h
  obtain ⟨a, st, rfl, h92⟩ := ob_l1_x h91
  obtain rfl := ob_go_x h92
  obtain ⟨hd, rfl⟩ := ob_okd hok (n := 1) (ob_okI_of hok)
  intro LS H locs I
  have hb : ob_r64 b := I.2.2.1 (2, b) List.mem_cons_self
  have ha : ob_r64 a := I.2.2.1 (2, a) (List.mem_cons_of_mem _ List.mem_cons_self)
  refine W.lcmp X.1 X.2.1 hd ?_
  rw [ob_i_cmp ha hb]
  exact kk LS H locs (ob_Iv_st I (ob_al1 (v := (1, ob_cmp a b)) (ob_cmp_r _ _) (fun x hx => I.2.2.1 x (List.mem_cons_of_mem _ (List.mem_cons_of_mem _ hx)))))
set_option maxRecDepth 100000 in
theorem ob_s_dup  (X : ob_Cx w p R s m args meth c f) (hok : ob_ok f pc (.dup, nx, aux, z) = true) (h : ob_nx (ob_ins (.dup) nx aux z f ls st mm) S) (kk : ob_At w p l e R s m args below meth c Q c0 s0 (ob_mx f) S) : ob_At w p l e R s m args below meth c Q c0 s0 (ob_mx f) (f, pc, ls, st, mm) := by
  have h : ob_nx (ob_v1 st (fun v st => ob_go (f, nx, ls, v :: v :: st, mm))) S := h
  obtain ⟨v, st, rfl, hv, h91⟩ := ob_v1_x h
  obtain rfl := ob_go_x h91
  obtain ⟨hd, rfl⟩ := ob_okd hok (n := 1) (ob_okI_of hok)
  intro LS H locs I
  refine lv_dup X.1 X.2.1 hd (ob_cat hv) ?_
  exact kk LS H locs (ob_Iv_st I (ob_al1 (I.2.2.1 _ List.mem_cons_self) I.2.2.1))
set_option maxRecDepth 100000 in
theorem ob_s_dup2  (X : ob_Cx w p R s m args meth c f) (hok : ob_ok f pc (.dup2, nx, aux, z) = true) (h : ob_nx (ob_ins (.dup2) nx aux z f ls st mm) S) (kk : ob_At w p l e R s m args below meth c Q c0 s0 (ob_mx f) S) : ob_At w p l e R s m args below meth c Q c0 s0 (ob_mx f) (f, pc, ls, st, mm) := by
  have h : ob_nx (ob_v1 st (fun v st => ob_v1 st (fun w st => ob_go (f, nx, ls, v :: w :: v :: w :: st, mm)))) S := h
  obtain ⟨v, st, rfl, hv, h91⟩ := ob_v1_x h
  obtain ⟨v2, st, rfl, hv2, h92⟩ := ob_v1_x h91
  obtain rfl := ob_go_x h92
  obtain ⟨hd, rfl⟩ := ob_okd hok (n := 1) (ob_okI_of hok)
  intro LS H locs I
  refine lv_dup2_11 X.1 X.2.1 hd (ob_cat hv) (ob_cat hv2) ?_
  exact kk LS H locs (ob_Iv_st I (ob_al1 (I.2.2.1 _ List.mem_cons_self) (ob_al1 (I.2.2.1 _ (List.mem_cons_of_mem _ List.mem_cons_self)) I.2.2.1)))
set_option maxRecDepth 100000 in
theorem ob_s_pop  (X : ob_Cx w p R s m args meth c f) (hok : ob_ok f pc (.pop, nx, aux, z) = true) (h : ob_nx (ob_ins (.pop) nx aux z f ls st mm) S) (kk : ob_At w p l e R s m args below meth c Q c0 s0 (ob_mx f) S) : ob_At w p l e R s m args below meth c Q c0 s0 (ob_mx f) (f, pc, ls, st, mm) := by
  have h : ob_nx (ob_v1 st (fun _ st => ob_go (f, nx, ls, st, mm))) S := h
  obtain ⟨v, st, rfl, hv, h91⟩ := ob_v1_x h
  obtain rfl := ob_go_x h91
  obtain ⟨hd, rfl⟩ := ob_okd hok (n := 1) (ob_okI_of hok)
  intro LS H locs I
  refine lv_pop X.1 X.2.1 hd (ob_cat hv) ?_
  exact kk LS H locs (ob_Iv_st I (fun x hx => I.2.2.1 x (List.mem_cons_of_mem _ hx)))
set_option maxRecDepth 100000 in
theorem ob_s_goto {off : Int} (X : ob_Cx w p R s m args meth c f) (hok : ob_ok f pc (.goto off, nx, aux, z) = true) (h : ob_nx (ob_ins (.goto off) nx aux z f ls st mm) S) (kk : ob_At w p l e R s m args below meth c Q c0 s0 (ob_mx f) S) : ob_At w p l e R s m args below meth c Q c0 s0 (ob_mx f) (f, pc, ls, st, mm) := by
  obtain rfl := ob_go_x h
  have g : (Nat.beq nx (pc + 3) && decide ((pc : Int) + off = Int.ofNat (ob_nth aux 0 0))) = true := ob_okI_of hok
  rw [Bool.and_eq_true] at g
  obtain ⟨hd, rfl⟩ := ob_okd hok g.1
  intro LS H locs I
  refine lv_goto X.1 X.2.1 hd (of_decide_eq_true g.2) ?_
  exact kk LS H locs I
end ob_Sim
end
section
-- MEMORY: fields, arrays, allocation
theorem ob_w_in {i : Nat} {x : Cond} (h : lw_tbl[i]? = some x) (g : goodWord x = true) : x ∈ ob_gt := List.mem_filter.mpr ⟨List.mem_of_getElem? h, g⟩
theorem ob_beq {a b : Nat} (h : Nat.beq a b = true) : a = b := Nat.eq_of_beq_eq_true h
theorem ob_fl {o i c s : Nat} (h : ob_inFL o i c s = true) : Cond.fieldLink (ob_cn o) i (ob_TT c s).1 (ob_TT c s).2.1 (ob_TT c s).2.2.1 ∈ ob_gt := by
  obtain ⟨⟨a1, a2, a3, a4, a5⟩, hq, h2⟩ := List.any_eq_true.mp h
  simp only [Bool.and_eq_true] at h2
  obtain ⟨⟨⟨e1, e2⟩, e3⟩, e4⟩ := h2
  have hw := ob_FLk _ hq
  obtain rfl : a2 = i := ob_beq e1
  obtain rfl : a1 = o := ob_beq e2
  obtain rfl : a3 = c := ob_beq e3
  obtain rfl : a4 = s := ob_beq e4
  exact ob_w_in hw rfl
theorem ob_clk : ∀ t, t ≤ 8 → ob_cl[t]? = some (ob_cn t, ob_TT t, ob_ns t)
  | 0, _ => rfl
  | 1, _ => rfl
  | 2, _ => rfl
  | 3, _ => rfl
  | 4, _ => rfl
  | 5, _ => rfl
  | 6, _ => rfl
  | 7, _ => rfl
  | 8, _ => rfl
  | n + 9, h => absurd h (by omega)
theorem ob_nsk {t : Nat} (h : t ≤ 8) : ob_ns t = (ob_nth ob_ft t []).length := by
  unfold ob_ns
  rw [Nat.ble_eq.mpr h]
  rfl
theorem ob_nsa {t : Nat} (h : ¬ t ≤ 8) : ob_ns t = (ob_kq t).1.toNat := by
  unfold ob_ns
  rw [show Nat.ble t 8 = false from by
    cases e : Nat.ble t 8 with
    | false => rfl
    | true => exact absurd (Nat.ble_eq.mp e) h]
  rfl
theorem ob_ska {t : Nat} (h : ¬ t ≤ 8) (s : Nat) : ob_sk t s = ((ob_kq t).2.2.1, (ob_kq t).2.2.2) := by
  unfold ob_sk
  rw [show Nat.ble t 8 = false from by
    cases e : Nat.ble t 8 with
    | false => rfl
    | true => exact absurd (Nat.ble_eq.mp e) h]
  rfl
theorem ob_sko {t : Nat} (h : t ≤ 8) (s : Nat) : ob_sk t s = ((ob_ftq t s).1, (ob_ftq t s).2.1) := by
  unfold ob_sk
  rw [Nat.ble_eq.mpr h]
  rfl
theorem ob_kq9 : ∀ t, t ≤ 8 → (ob_kq t).2.1 = 9
  | 0, _ => rfl
  | 1, _ => rfl
  | 2, _ => rfl
  | 3, _ => rfl
  | 4, _ => rfl
  | 5, _ => rfl
  | 6, _ => rfl
  | 7, _ => rfl
  | 8, _ => rfl
  | n + 9, h => absurd h (by omega)
theorem ob_kq0 {t : Nat} (h : (ob_kq t).2.1 ≠ 3) : (ob_kq t).2.2.1 = 0 := Classical.byContradiction fun q => h (ob_kq3 t q)
theorem ob_lays9 {t : Nat} (h : t ≤ 8) : ∀ x ∈ u_ws (ob_cn t) (ob_TT t) (ob_ns t), x ∈ ob_gt := by
  rw [ob_nsk h]
  exact ob_laysk t (by omega)
theorem ob_nmk : ∀ t, t < 9 → ∀ a, a < (ob_nth ob_ft t []).length → ∀ b, b < (ob_nth ob_ft t []).length → a ≠ b → (ob_TT t a).2.1 ≠ (ob_TT t b).2.1 := by decide +kernel
def ob_tyq (t s : Nat) : FieldType := (parseFieldDescriptor (ob_TT t s).2.2.1).getD .int
theorem ob_tyk : ∀ t, t < 9 → ∀ a, a < (ob_nth ob_ft t []).length → parseFieldDescriptor (ob_TT t a).2.2.1 = some (ob_tyq t a) := by decide +kernel
theorem ob_tyd : ∀ t, t < 9 → ∀ a, a < (ob_nth ob_ft t []).length → defaultValue (ob_tyq t a) = cond (Nat.beq (ob_sk t a).1 0) (.int (Int32.ofInt 0)) .null := by decide +kernel
theorem ob_tyz : ∀ t, t < 9 → ∀ a, a < (ob_nth ob_ft t []).length → (Nat.beq (ob_sk t a).1 0 = true → ob_tyq t a = cond (decide ((ob_TT t a).2.2.1 = "Z")) .boolean .int) ∧ (Nat.beq (ob_sk t a).1 0 = false → narrow (ob_tyq t a) (.ref 0) = .ref 0 ∧ fits (ob_tyq t a) (.ref 0) = true) := by decide +kernel
theorem ob_finq : ∀ t, t < 9 → ∀ a, a < (ob_nth ob_ft t []).length → (ob_TT t a).1 = ob_cn t ∧ (ob_ftq t a).2.2 = cond (ob_TT t a).2.2.2 1 0 := by decide +kernel
theorem ob_no15 : ∀ t, t < 9 → ∀ a, a < (ob_nth ob_ft t []).length → (ob_sk t a).1 ≠ 16 := by decide +kernel
theorem ob_idx_all : ∀ q ∈ ob_lay, 0 ≤ q.2 ∧ q.2 < 1000 := by decide +kernel
theorem ob_idx_r {k : Nat} {i : Int} (h : ob_off k i < ob_layN) : ob_r32 i := by
  have q : 0 ≤ i ∧ i < 1000 := ob_idx_all _ (ob_off_mem h)
  exact ⟨by omega, by omega⟩
theorem ob_wP {w : ob_Wd} {t a : Nat} {H : Heap} {V : Nat → Value} (ht : t ≤ 8) (h : t_OB a (ob_dC w t) (ob_ns t) (ob_dI w t) H V) : va_P (ob_dC w, ob_dI w) ob_cl [(a, .inr (t, (List.range (ob_ns t)).map V))] H := by
  intro k q hq
  have hk : k < 1 := (List.getElem?_eq_some_iff.mp hq).1
  rw [show k = 0 by omega] at hq
  cases hq
  refine ⟨_, ob_clk t ht, h.to fun j hj => ?_⟩
  unfold vp_V
  rw [List.getD_eq_getElem?_getD, List.getElem?_map, List.getElem?_range hj]
  rfl
theorem ob_okFs {f i : Nat} {aux : List Nat} {z : Int} (h : ob_okF f i aux z = true) : ob_inFL (ob_ow f) i (ob_nth aux 0 0) (ob_nth aux 1 0) = true ∧ z = Int.ofNat (ob_nth aux 1 0) ∧ (ob_ftq (ob_nth aux 0 0) (ob_nth aux 1 0)).1 = ob_nth aux 2 0 ∧ (ob_ftq (ob_nth aux 0 0) (ob_nth aux 1 0)).2.1 = ob_nth aux 3 0 ∧ ob_nth aux 0 0 ≤ 8 ∧ ob_nth aux 1 0 < (ob_nth ob_ft (ob_nth aux 0 0) []).length := by
  unfold ob_okF at h
  simp only [Bool.and_eq_true] at h
  obtain ⟨⟨⟨⟨⟨h1, h2⟩, h3⟩, h4⟩, h5⟩, h6⟩ := h
  exact ⟨h1, of_decide_eq_true h2, ob_beq h3, ob_beq h4, Nat.ble_eq.mp h5, Nat.le_of_ble_eq_true h6⟩
theorem ob_pr_off {n t : Nat} {i : Int} (h : ob_pr n t i) (ht : t ≠ 15) : ob_off t i < n := h.elim (fun q => absurd q.1 ht) (fun q => q.2)
/-- a store into one slot of a cell -/
theorem ob_Rep_sto {w : ob_Wd} {mm mm' : ob_MM} {H H' : Heap} {t s : Nat} {i : Int} (h : ob_Rep w mm H) (hk : ob_off t i < ob_nA mm) (hsz : H'.size = H.size) (ho : ∀ q : Nat, q ≠ ob_sz w + ob_off t i → H'[q]? = H[q]?)
    (hc : (t ≤ 8 → t_OB (ob_sz w + ob_off t i) (ob_dC w t) (ob_ns t) (ob_dI w t) H' (updV (ob_vl w mm t i) s (ob_vl w mm' t i s))) ∧ (¬ t ≤ 8 → H'[ob_sz w + ob_off t i]? = some (arrV (ob_dA w (ob_ai t)) (ob_ns t) (updV (ob_vl w mm t i) s (ob_vl w mm' t i s)))))
    (hm : ∀ (k' : Nat) (i' s' : Int), ¬ (k' = t ∧ i' = i ∧ s' = (s : Int)) → mm'.1 k' i' s' = mm.1 k' i' s') (hi : ∀ (k' : Nat) (i' s' : Int), ¬ (k' = t ∧ i' = i ∧ s' = (s : Int)) → ob_ini mm'.2 k' i' s' = ob_ini mm.2 k' i' s') (hr : ob_r32 (mm'.1 t i s)) (hn : ob_nA mm' = ob_nA mm)
    (href : ∀ tk md, ob_sk t s = (tk + 1, md) → ob_ini mm'.2 t i (s : Int) = true → tk ≠ 15 ∧ ob_off tk (ob_tg mm'.1 md t i (s : Int)) < ob_nA mm)
    (hC : ∀ C', mm'.2 = some C' → ∃ C, mm.2 = some C ∧ C'.1 = C.1 ∧ ∀ q ∈ C'.2.2, q ∈ C.2.2 ∨ (q.1 = t ∧ q.2.1 = i)) : ob_Rep w mm' H' := by
  have hne : ∀ j : Nat, j ≠ s → ¬ (t = t ∧ i = i ∧ (j : Int) = (s : Int)) := fun j hj q => hj (by have := q.2.2; omega)
  have hv : ∀ j : Nat, updV (ob_vl w mm t i) s (ob_vl w mm' t i s) j = ob_vl w mm' t i j := by
    intro j
    unfold updV
    by_cases e : j = s
    · rw [if_pos e, e]
    · rw [if_neg e]
      exact (ob_vl_c (hm t i j (hne j e)) (hi t i j (hne j e))).symm
  refine ob_Rep_upd h hk hsz ho ⟨fun q => (hc.1 q).to (fun j _ => hv j), fun q => by rw [hc.2 q]; congr 2; exact funext hv⟩ (fun k' i' s' q => hm k' i' s' (fun z => q ⟨z.1, z.2.1⟩)) (fun k' i' s' q => hi k' i' s' (fun z => q ⟨z.1, z.2.1⟩)) (fun s' => ?_) hn (fun j hj tk md hsk hini => ?_) hC
  · by_cases e : s' = (s : Int)
    · rw [e]
      exact hr
    · rw [hm t i s' (fun q => e q.2.2)]
      exact h.2.2.2.1 t i s'
  · by_cases e : j = s
    · subst e
      exact href tk md hsk hini
    · rw [hi t i j (hne j e)] at hini
      rw [ob_tg_c (hm t i j (hne j e))]
      exact h.2.2.2.2.2.1 t i j hk hj tk md hsk hini
theorem ob_set_e (m : ob_Mem) (k : Nat) (i s x : Int) : ob_set m k i s x k i s = x := by
  unfold ob_set
  rw [if_pos ⟨rfl, rfl, rfl⟩]
theorem ob_set_n {m : ob_Mem} {k k' : Nat} {i s x i' s' : Int} (h : ¬ (k' = k ∧ i' = i ∧ s' = s)) : ob_set m k i s x k' i' s' = m k' i' s' := by
  unfold ob_set
  rw [if_neg h]
theorem ob_add_n {c : Option ob_CI} {k k' : Nat} {i s i' s' : Int} (h : ¬ (k' = k ∧ i' = i ∧ s' = s)) : ob_ini (ob_add c k i s) k' i' s' = ob_ini c k' i' s' := by
  cases c with
  | none => rfl
  | some C =>
    show List.contains ((k, i, s) :: C.2.2) (k', i', s') = C.2.2.contains (k', i', s')
    rw [List.contains_cons]
    rw [show ((k', i', s') == (k, i, s)) = false from by
      rw [beq_eq_false_iff_ne]
      intro q
      cases q
      exact h ⟨rfl, rfl, rfl⟩]
    rfl
theorem ob_add_nA (m m' : ob_Mem) (c : Option ob_CI) (k : Nat) (i s : Int) : ob_nA (m', ob_add c k i s) = ob_nA (m, c) ∧ ob_nS (m', ob_add c k i s) = ob_nS (m, c) := by
  cases c <;> exact ⟨rfl, rfl⟩
theorem ob_add_C {c : Option ob_CI} {k : Nat} {i s : Int} : ∀ C', ob_add c k i s = some C' → ∃ C, c = some C ∧ C'.1 = C.1 ∧ ∀ q ∈ C'.2.2, q ∈ C.2.2 ∨ (q.1 = k ∧ q.2.1 = i) := by
  intro C' h
  cases c with
  | none => cases h
  | some C =>
    cases h
    refine ⟨C, rfl, rfl, fun q hq => ?_⟩
    rcases List.mem_cons.mp hq with e | e
    · subst e
      exact Or.inr ⟨rfl, rfl⟩
    · exact Or.inl e
/-- Iv behind a store -/
theorem ob_Iv_m {w : ob_Wd} {s : State} {c0 s0 nL : Nat} {ls st st' : List ob_AV} {mm mm' : ob_MM} {LS : Array Slot} {H H' : Heap} {locs : List Loc} {k j : Nat} {i : Int} (h : ob_Iv w s c0 s0 nL ls st mm LS H locs) (hR : ob_Rep w mm' H') (hn : ob_nA mm' = ob_nA mm ∧ ob_nS mm' = ob_nS mm) (hs : ∀ v ∈ st', ob_okv (ob_nA mm) v) (ho : ∀ q : Nat, q ≠ ob_sz w + ob_off k i → H'[q]? = H[q]?) : ob_Iv w s c0 s0 nL ls st' mm' LS H' (locs ++ [⟨ob_sz w + ob_off k i, j⟩]) := by
  obtain ⟨h1, h2, h3, h4, h5, h6, h7⟩ := h
  refine ⟨hR, by rw [hn.1]; exact h2, by rw [hn.1]; exact hs, fun q hq => by rw [ho q (by omega)]; exact h4 q hq, fun q hq => ?_, by rw [hn.1]; exact h6, by rw [hn.2]; exact h7⟩
  rcases List.mem_append.mp hq with e | e
  · exact h5 q e
  · rw [List.mem_singleton.mp e]
    exact Nat.le_add_right _ _
theorem ob_Iv_w {w : ob_Wd} {s : State} {c0 s0 nL : Nat} {ls st st' : List ob_AV} {mm mm' : ob_MM} {LS : Array Slot} {H H' : Heap} {locs locs' : List Loc} {k : Nat} {i : Int} (h : ob_Iv w s c0 s0 nL ls st mm LS H locs) (hR : ob_Rep w mm' H') (hn : ob_nA mm' = ob_nA mm ∧ ob_nS mm' = ob_nS mm) (hs : ∀ v ∈ st', ob_okv (ob_nA mm) v) (ho : ∀ q : Nat, q ≠ ob_sz w + ob_off k i → H'[q]? = H[q]?) (hl : ∀ q ∈ locs', ob_sz w ≤ q.base) : ob_Iv w s c0 s0 nL ls st' mm' LS H' (locs ++ locs') := by
  obtain ⟨h1, h2, h3, h4, h5, h6, h7⟩ := h
  refine ⟨hR, by rw [hn.1]; exact h2, by rw [hn.1]; exact hs, fun q hq => by rw [ho q (by omega)]; exact h4 q hq, fun q hq => ?_, by rw [hn.1]; exact h6, by rw [hn.2]; exact h7⟩
  rcases List.mem_append.mp hq with e | e
  · exact h5 q e
  · exact hl q e
theorem ob_vl_i {w : ob_Wd} {mm : ob_MM} {k s md : Nat} {i : Int} (h : ob_sk k s = (0, md)) : ob_vl w mm k i s = .int (Int32.ofInt (mm.1 k i (s : Int))) := by
  unfold ob_vl
  rw [h]
theorem ob_vl_r {w : ob_Wd} {mm : ob_MM} {k s tk md : Nat} {i : Int} (h : ob_sk k s = (tk + 1, md)) (hi : ob_ini mm.2 k i (s : Int) = true) : ob_vl w mm k i s = .ref (ob_ad w tk (ob_tg mm.1 md k i (s : Int))) := by
  unfold ob_vl
  rw [h]
  show cond (ob_ini mm.2 k i (s : Int)) _ _ = _
  rw [hi]
  rfl
section ob_Sim2
variable {w : ob_Wd} {p : Program} {l : Launch} {e : Env} {R : Room} {s : State} {m : MethodId} {args : Array Value} {below : List Frame} {meth : Method} {c : Code} {Q : State → Prop} {c0 s0 f pc nx : Nat} {aux : List Nat} {z : Int} {ls st : List ob_AV} {mm : ob_MM} {S : ob_St}
variable {H : Heap} {locs : List Loc} {cells slots : Nat} {LS : Array Slot} {rest : List Value}
theorem ob_Wput {t k a idx : Nat} {V : Nat → Value} {v : Value} (X : ob_Cx w p R s m args meth c f) (ht : t ≤ 8) (hk : k < ob_ns t) (hP : t_OB a (ob_dC w t) (ob_ns t) (ob_dI w t) H V) (hl : ob_inFL (ob_ow f) idx t k = true) (hfin : (ob_TT t k).2.2.2 = false ∨ ((ob_TT t k).2.2.2 = true ∧ ob_ow f = t ∧ (ob_y f).name = "<init>")) (hn : narrow (ob_tyq t k) v = v) (hfit : fits (ob_tyq t k) v = true) (hdg : decode (ob_by f) pc = .ok (.putfield idx, 3))
    (kk : ∀ H1 : Heap, t_OB a (ob_dC w t) (ob_ns t) (ob_dI w t) H1 (updV V k v) → H1.size = H.size → (∀ q : Nat, q ≠ a → H1[q]? = H[q]?) → W p l e R s m args below meth c H1 (locs ++ [⟨a, ob_dI w t k⟩]) cells slots Q (F0 m (pc + 3) LS rest)) : W p l e R s m args below meth c H locs cells slots Q (F0 m pc LS (v :: .ref a :: rest)) := by
  obtain ⟨hx, hb, hml, hown, hts, hlocks, hret, hname, hKK, hX, hsz, hrm⟩ := X
  have hK := hKK.1
  have hc := ob_clk t ht
  have h9 : t < 9 := by omega
  have hN := ob_nsk ht
  have hty : ∀ k, k < ob_ns t → parseFieldDescriptor (ob_TT t k).2.2.1 = some (ob_tyq t k) := by rw [hN]; exact ob_tyk t h9
  have hap := va_apart (own := ob_cn (ob_ow f)) (D := (ob_dC w, ob_dI w)) hts (ob_lays9 ht) (ob_tyq t) hty (by rw [hN]; exact ob_nmk t h9) hK hc
  have hlink := hts _ (ob_fl hl)
  obtain ⟨cell, q1, q2, q3, q4⟩ := hP
  obtain ⟨hS, hfc, kC, hkC, hkind⟩ := hK.1 t _ hc
  obtain ⟨cf, kf, fi, fd, hi, hsl⟩ := hS k hk
  have hst := (u_facts hfc hkC (u_lays hts (ob_lays9 ht) hk) hi).1
  have hlay := hts _ (ob_lays9 ht _ (u_in_lay hk))
  rcases hfin with hfin | ⟨hfin, how, hin⟩
  · unfold u_lay at hlay
    rw [if_neg (by rw [hfin]; decide)] at hlay
    have h6 := u_store hfc hkC hkind hlay hi (hty k hk) hn hfit
    refine W.putK hx hb (f := fd) ⟨hown, hlink, ⟨_, _, _, hi⟩, hst⟩ (by rw [q2]; exact h6) q1 q3 (by rw [hsl]; exact k2_hasslot (q4 k hk)) rfl rfl hdg fun H' e1 e2 e3 => ?_
    rw [hsl] at e1 ⊢
    exact kk H' ⟨_, e1, q2, q3, t_set q4 hap hk v⟩ e2 e3
  · unfold u_lay at hlay
    rw [if_pos hfin] at hlay
    have hcf : m.cls = cf := by
      obtain ⟨_, _, c', _, _, _, -, -, hf', -, -, -, hown2, -⟩ := Cond.laysFinal_spec hlay
      have e1 : c' = cf := by have := hi.symm.trans hf'; simp at this; exact this.1.symm
      rw [(ob_finq t h9 k (by rw [← hN]; exact hk)).1, ← how] at hown2
      rw [← e1]; exact Option.some.inj (hown.symm.trans hown2)
    have h6 := u_fits hfc hkC hkind (Or.inr hlay) hi (hty k hk) hn hfit
    refine W.putFinK hx hb hown hlink hi hst hcf ((hname (fun q => by rw [q] at hin; exact absurd hin (by decide))).trans hin) (by rw [q2]; exact h6) q1 q3 (by rw [hsl]; exact k2_hasslot (q4 k hk)) rfl rfl hdg fun H' e1 e2 e3 => ?_
    rw [hsl] at e1 ⊢
    exact kk H' ⟨_, e1, q2, q3, t_set q4 hap hk v⟩ e2 e3
set_option maxRecDepth 100000 in
theorem ob_s_getfield {idx : Nat} (X : ob_Cx w p R s m args meth c f) (hok : ob_ok f pc (.getfield idx, nx, aux, z) = true) (h : ob_nx (ob_ins (.getfield idx) nx aux z f ls st mm) S) (kk : ob_At w p l e R s m args below meth c Q c0 s0 (ob_mx f) S) : ob_At w p l e R s m args below meth c Q c0 s0 (ob_mx f) (f, pc, ls, st, mm) := by
  obtain ⟨t, i, st, rfl, h91⟩ := ob_r1_x h
  obtain ⟨ht, h92⟩ := ob_cond_x h91
  have g : (Nat.beq nx (pc + 3) && ob_okF f idx aux z) = true := ob_okI_of hok
  rw [Bool.and_eq_true] at g
  obtain ⟨hd, rfl⟩ := ob_okd hok g.1
  obtain ⟨g1, g2, g3, g4, g5, g6⟩ := ob_okFs g.2
  rw [← ob_beq ht] at g1 g3 g4 g5 g6
  subst g2
  intro LS H locs I
  have hoff := ob_pr_off (I.2.2.1 (t + 3, i) List.mem_cons_self) (by omega)
  have hcel := (I.1.2.2.1 t i hoff).1 g5
  have hk : ob_nth aux 1 0 < ob_ns t := by rw [ob_nsk g5]; exact g6
  have hv : ((List.range (ob_ns t)).map (ob_vl w mm t i))[ob_nth aux 1 0]? = some (ob_vl w mm t i (ob_nth aux 1 0)) := by
    rw [List.getElem?_map, List.getElem?_range hk]
    rfl
  have had : ob_ad w t i = ob_sz w + ob_off t i := ob_ad_n (by omega)
  have hrest : ∀ v ∈ st, ob_okv (ob_nA mm) v := fun x hx => I.2.2.1 x (List.mem_cons_of_mem _ hx)
  show W p l e R s m args below meth c H locs _ _ Q (F0 m pc LS (Value.ref (ob_ad w t i) :: List.map (ob_cv w) st))
  rw [had]
  refine va_get (D := (ob_dC w, ob_dI w)) (ci := t) (C := ob_cn t) (T := ob_TT t) (N := ob_ns t) X.1 X.2.1 X.2.2.2.2.1 (ob_lays9 g5) X.2.2.2.1 X.2.2.2.2.2.2.2.2.1.1 (ob_wP g5 hcel) 0 rfl (ob_clk t g5) (ob_nth aux 1 0) hk (X.2.2.2.2.1 _ (ob_fl g1)) (fun _ h9 => h9) hv hd ?_
  have hsk := ob_sko g5 (ob_nth aux 1 0)
  rw [g3, g4] at hsk
  split at h92
  · rename_i e0
    rw [e0] at hsk
    rw [ob_vl_i hsk]
    obtain rfl := ob_go_x h92
    exact kk LS H locs (ob_Iv_st I (ob_al1 (v := (1, _)) (I.1.2.2.2.1 _ _ _) hrest))
  · rename_i tk e0
    obtain ⟨hini, h99⟩ := ob_cond_x h92
    obtain rfl := ob_go_x h99
    rw [e0] at hsk
    have hr := I.1.2.2.2.2.2.1 t i (ob_nth aux 1 0) hoff hk tk _ hsk hini
    rw [ob_vl_r hsk hini]
    exact kk LS H locs (ob_Iv_st I (ob_al1 (v := (tk + 3, _)) (Or.inr hr) hrest))
theorem ob_stat_x {c : Option ob_CI} {K : Unit → ob_Ac} {S : ob_St} (h : ob_nx (ob_stat c K) S) : ∃ C, c = some C ∧ ob_nx (K ()) S := by
  unfold ob_stat at h
  split at h
  · exact (ob_stop_x h).elim
  · exact ⟨_, rfl, h⟩
theorem ob_add_i {c : Option ob_CI} {k : Nat} {i s : Int} : ob_ini (ob_add c k i s) k i s = true := by
  cases c with
  | none => rfl
  | some C =>
    show List.contains ((k, i, s) :: C.2.2) (k, i, s) = true
    rw [List.contains_cons]
    simp
set_option maxRecDepth 100000 in
theorem ob_s_putfield {idx : Nat} (X : ob_Cx w p R s m args meth c f) (hok : ob_ok f pc (.putfield idx, nx, aux, z) = true) (h : ob_nx (ob_ins (.putfield idx) nx aux z f ls st mm) S) (kk : ob_At w p l e R s m args below meth c Q c0 s0 (ob_mx f) S) : ob_At w p l e R s m args below meth c Q c0 s0 (ob_mx f) (f, pc, ls, st, mm) := by
  have g0 := ob_okI_of hok
  have g0 : (Nat.beq nx (pc + 3) && ob_okF f idx aux z && Nat.beq (ob_nth aux 4 0) (cond (decide ((ob_TT (ob_nth aux 0 0) (ob_nth aux 1 0)).2.2.1 = "Z")) 1 0) && (cond (Nat.beq (ob_nth aux 3 0) 0) (Nat.beq (ob_ftq (ob_nth aux 0 0) (ob_nth aux 1 0)).2.2 0) (Nat.beq (ob_ftq (ob_nth aux 0 0) (ob_nth aux 1 0)).2.2 1 && Nat.beq (ob_ow f) (ob_nth aux 0 0) && decide ((ob_y f).name = "<init>"))) && (cond (Nat.beq (ob_nth aux 2 0) 0) (Nat.beq (ob_nth aux 3 0) 0) true)) = true := g0
  rw [Bool.and_eq_true, Bool.and_eq_true, Bool.and_eq_true, Bool.and_eq_true] at g0
  obtain ⟨⟨⟨⟨gn, gF⟩, gZ⟩, gf⟩, gm⟩ := g0
  obtain ⟨hd, rfl⟩ := ob_okd hok gn
  obtain ⟨g1, g2, g3, g4, g5, g6⟩ := ob_okFs gF
  subst g2
  have hsk := ob_sko g5 (ob_nth aux 1 0)
  rw [g3, g4] at hsk
  have hk : ob_nth aux 1 0 < ob_ns (ob_nth aux 0 0) := by rw [ob_nsk g5]; exact g6
  have h9 : ob_nth aux 0 0 < 9 := by omega
  have hfinq := (ob_finq _ h9 _ g6).2
  have h : ob_nx (match ob_nth aux 2 0 with
      | 0 => ob_i1 st fun x st => ob_r1 st fun t i st => cond (Nat.beq t (ob_nth aux 0 0)) (match ob_nth aux 4 0 with
        | 0 => ob_go (f, pc + 3, ls, st, (ob_set mm.1 t i (Int.ofNat (ob_nth aux 1 0)) x, mm.2))
        | _ => ob_gd ⟨x = 0 ∨ x = 1, inferInstance⟩ (f, pc + 3, ls, st, (ob_set mm.1 t i (Int.ofNat (ob_nth aux 1 0)) x, mm.2))) (ob_stop none)
      | tk + 1 => ob_r1 st fun t2 i2 st => ob_r1 st fun t i st => cond (Nat.beq t (ob_nth aux 0 0) && Nat.beq t2 tk) (match ob_nth aux 3 0 with
        | 0 => ob_go (f, pc + 3, ls, st, (ob_set mm.1 t i (Int.ofNat (ob_nth aux 1 0)) i2, ob_add mm.2 t i (Int.ofNat (ob_nth aux 1 0))))
        | md => ob_stat mm.2 fun _ => ob_gd ⟨i2 = ob_tg mm.1 md t i (Int.ofNat (ob_nth aux 1 0)), inferInstance⟩ (f, pc + 3, ls, st, (mm.1, ob_add mm.2 t i (Int.ofNat (ob_nth aux 1 0))))) (ob_stop none)) S := h
  generalize hk0 : ob_nth aux 0 0 = t0 at g1 g3 g4 g5 g6 hsk hk h9 hfinq gZ gf h
  generalize hk1 : ob_nth aux 1 0 = sl at g1 g3 g4 g6 hsk hk hfinq gZ gf h
  split at h
  · rename_i e0
    rw [e0] at hsk gm
    obtain ⟨x, st, rfl, h1⟩ := ob_i1_x h
    obtain ⟨t, i, st, rfl, h2⟩ := ob_r1_x h1
    obtain ⟨ht, h3⟩ := ob_cond_x h2
    obtain rfl := ob_beq ht
    have gm : Nat.beq (ob_nth aux 3 0) 0 = true := gm
    rw [gm] at gf
    have gf : Nat.beq (ob_ftq t sl).2.2 0 = true := gf
    have hfin : (ob_TT t sl).2.2.2 = false := by
      rw [hfinq] at gf
      cases e : (ob_TT t sl).2.2.2 with
      | false => rfl
      | true => rw [e] at gf; cases gf
    have htz := (ob_tyz t h9 sl g6).1 (by rw [hsk]; rfl)
    have hfit : S = (f, pc + 3, ls, st, (ob_set mm.1 t i (Int.ofNat sl) x, mm.2)) ∧ ((ob_TT t sl).2.2.1 = "Z" → x = 0 ∨ x = 1) := by
      split at h3
      · rename_i e4
        refine ⟨ob_go_x h3, fun q => ?_⟩
        rw [e4] at gZ
        rw [show decide ((ob_TT t sl).2.2.1 = "Z") = true from decide_eq_true q] at gZ
        cases gZ
      · obtain ⟨q1, q2⟩ := ob_gd_x h3
        exact ⟨q2, fun _ => q1⟩
    obtain ⟨rfl, hz⟩ := hfit
    intro LS H locs I
    have hx : ob_r32 x := I.2.2.1 (1, x) List.mem_cons_self
    have hoff := ob_pr_off (I.2.2.1 (t + 3, i) (List.mem_cons_of_mem _ List.mem_cons_self)) (by omega)
    have hcel := (I.1.2.2.1 t i hoff).1 g5
    have had : ob_ad w t i = ob_sz w + ob_off t i := ob_ad_n (by omega)
    have hnf : narrow (ob_tyq t sl) (.int (Int32.ofInt x)) = .int (Int32.ofInt x) ∧ fits (ob_tyq t sl) (.int (Int32.ofInt x)) = true := by
      rw [htz]
      by_cases q : (ob_TT t sl).2.2.1 = "Z"
      · rw [decide_eq_true q]
        rcases hz q with rfl | rfl <;> decide
      · rw [decide_eq_false q]
        exact ⟨rfl, rfl⟩
    show W p l e R s m args below meth c H locs _ _ Q (F0 m pc LS (Value.int (Int32.ofInt x) :: Value.ref (ob_ad w t i) :: List.map (ob_cv w) st))
    rw [had]
    refine ob_Wput X g5 hk hcel g1 (Or.inl hfin) hnf.1 hnf.2 hd fun H1 hc1 hs1 ho1 => ?_
    refine kk LS H1 _ (ob_Iv_m (mm' := (ob_set mm.1 t i (Int.ofNat sl) x, mm.2)) I ?_ ⟨rfl, rfl⟩ (fun v hv => I.2.2.1 v (List.mem_cons_of_mem _ (List.mem_cons_of_mem _ hv))) ho1)
    have hvl : ob_vl w (ob_set mm.1 t i (Int.ofNat sl) x, mm.2) t i sl = .int (Int32.ofInt x) := by
      rw [ob_vl_i hsk]
      show Value.int (Int32.ofInt (ob_set mm.1 t i (Int.ofNat sl) x t i (sl : Int))) = _
      rw [show ((sl : Nat) : Int) = Int.ofNat sl from rfl, ob_set_e]
    refine ob_Rep_sto (s := sl) I.1 hoff hs1 ho1 ⟨fun _ => by rw [hvl]; exact hc1, fun q => absurd g5 q⟩ (fun k' i' s' q => ob_set_n q) (fun _ _ _ _ => rfl) ?_ rfl (fun tk md q => by rw [hsk] at q; cases q) (fun C' hC' => ⟨C', hC', rfl, fun q hq => Or.inl hq⟩)
    show ob_r32 (ob_set mm.1 t i (Int.ofNat sl) x t i (sl : Int))
    rw [show ((sl : Nat) : Int) = Int.ofNat sl from rfl, ob_set_e]
    exact hx
  · rename_i tk e0
    rw [e0] at hsk
    obtain ⟨t2, i2, st, rfl, h1⟩ := ob_r1_x h
    obtain ⟨t, i, st, rfl, h2⟩ := ob_r1_x h1
    obtain ⟨ht, h3⟩ := ob_cond_x h2
    rw [Bool.and_eq_true] at ht
    obtain rfl := ob_beq ht.1
    obtain rfl := ob_beq ht.2
    have htz := (ob_tyz t h9 sl g6).2 (by rw [hsk]; rfl)
    have hnf : ∀ a : Nat, narrow (ob_tyq t sl) (.ref a) = .ref a ∧ fits (ob_tyq t sl) (.ref a) = true := by
      intro a
      revert htz
      cases ob_tyq t sl <;> simp [narrow, fits]
    have key : ∀ mm' : ob_MM, S = (f, pc + 3, ls, st, mm') → mm'.2 = ob_add mm.2 t i (Int.ofNat sl) → (∀ (k' : Nat) (i' s' : Int), ¬ (k' = t ∧ i' = i ∧ s' = (sl : Int)) → mm'.1 k' i' s' = mm.1 k' i' s') → (∀ n : Nat, ob_pr n t2 i2 → t2 ≠ 15 → n ≤ ob_layN → ob_r32 (mm.1 t i (sl : Int)) → ob_r32 (mm'.1 t i (sl : Int))) → i2 = ob_tg mm'.1 (ob_nth aux 3 0) t i (sl : Int) → ((ob_TT t sl).2.2.2 = false ∨ ((ob_TT t sl).2.2.2 = true ∧ ob_ow f = t ∧ (ob_y f).name = "<init>")) → ob_At w p l e R s m args below meth c Q c0 s0 (ob_mx f) (f, pc, ls, (t2 + 3, i2) :: (t + 3, i) :: st, mm) := by
      intro mm' hS hm2 hm1 hr hi2 hfin
      subst hS
      intro LS H locs I
      have hp2 := I.2.2.1 (t2 + 3, i2) List.mem_cons_self
      have ht2 : t2 ≠ 15 := by
        intro q
        subst q
        have := ob_no15 t h9 sl g6
        rw [hsk] at this
        exact this rfl
      have hoff2 := ob_pr_off hp2 ht2
      have hoff := ob_pr_off (I.2.2.1 (t + 3, i) (List.mem_cons_of_mem _ List.mem_cons_self)) (by omega)
      have hcel := (I.1.2.2.1 t i hoff).1 g5
      have had : ob_ad w t i = ob_sz w + ob_off t i := ob_ad_n (by omega)
      have hnA : ob_nA mm' = ob_nA mm ∧ ob_nS mm' = ob_nS mm := by
        have := ob_add_nA mm.1 mm'.1 mm.2 t i (Int.ofNat sl)
        rw [← hm2] at this
        exact this
      have hini : ob_ini mm'.2 t i (sl : Int) = true := by rw [hm2]; exact ob_add_i
      show W p l e R s m args below meth c H locs _ _ Q (F0 m pc LS (Value.ref (ob_ad w t2 i2) :: Value.ref (ob_ad w t i) :: List.map (ob_cv w) st))
      rw [had]
      refine ob_Wput X g5 hk hcel g1 hfin (hnf _).1 (hnf _).2 hd fun H1 hc1 hs1 ho1 => ?_
      have K := kk LS H1 _ (ob_Iv_m (j := ob_dI w t sl) (mm' := mm') I ?_ hnA (fun v hv => I.2.2.1 v (List.mem_cons_of_mem _ (List.mem_cons_of_mem _ hv))) ho1)
      · rw [hnA.1, hnA.2] at K
        exact K
      have hvl : ob_vl w mm' t i sl = .ref (ob_ad w t2 i2) := by
        rw [ob_vl_r hsk hini, ← hi2]
      refine ob_Rep_sto (s := sl) I.1 hoff hs1 ho1 ⟨fun _ => by rw [hvl]; exact hc1, fun q => absurd g5 q⟩ hm1 (fun k' i' s' q => by rw [hm2]; exact ob_add_n q) (hr _ hp2 ht2 I.1.2.1 (I.1.2.2.2.1 _ _ _)) hnA.1 (fun tk' md' q _ => by
        rw [hsk] at q
        cases q
        rw [← hi2]
        exact ⟨ht2, hoff2⟩) (by rw [hm2]; exact ob_add_C)
    split at h3
    · rename_i e3
      obtain hS := ob_go_x h3
      rw [e3] at gf
      have gf : Nat.beq (ob_ftq t sl).2.2 0 = true := gf
      have hfin : (ob_TT t sl).2.2.2 = false := by
        rw [hfinq] at gf
        cases e : (ob_TT t sl).2.2.2 with
        | false => rfl
        | true => rw [e] at gf; cases gf
      refine key _ hS rfl (fun k' i' s' q => ob_set_n q) (fun n hp ht2 hn _ => ?_) ?_ (Or.inl hfin)
      · show ob_r32 (ob_set mm.1 t i (Int.ofNat sl) i2 t i (sl : Int))
        rw [show ((sl : Nat) : Int) = Int.ofNat sl from rfl, ob_set_e]
        exact ob_idx_r (Nat.lt_of_lt_of_le (ob_pr_off hp ht2) hn)
      · rw [e3]
        show i2 = ob_set mm.1 t i (Int.ofNat sl) i2 t i (sl : Int)
        rw [show ((sl : Nat) : Int) = Int.ofNat sl from rfl, ob_set_e]
    · rename_i e3
      obtain ⟨C, hC, h4⟩ := ob_stat_x h3
      obtain ⟨hi2, hS⟩ := ob_gd_x h4
      rw [show Nat.beq (ob_nth aux 3 0) 0 = false from by
        cases e : Nat.beq (ob_nth aux 3 0) 0 with
        | false => rfl
        | true => exact absurd (ob_beq e) e3] at gf
      have gf : (Nat.beq (ob_ftq t sl).2.2 1 && Nat.beq (ob_ow f) t && decide ((ob_y f).name = "<init>")) = true := gf
      rw [Bool.and_eq_true, Bool.and_eq_true] at gf
      have hfin : (ob_TT t sl).2.2.2 = true := by
        have q := gf.1.1
        rw [hfinq] at q
        cases e : (ob_TT t sl).2.2.2 with
        | true => rfl
        | false => rw [e] at q; cases q
      exact key _ hS rfl (fun k' i' s' q => rfl) (fun n hp ht2 hn h5 => h5) hi2 (Or.inr ⟨hfin, ob_beq gf.1.2, of_decide_eq_true gf.2⟩)
end ob_Sim2
end
section
-- ARRAYS, ALLOCATION, LIBRARY CALLS
theorem ob_kt_r : ∀ q ∈ ob_kt, 0 ≤ q.1 ∧ q.1 < 2000 := by decide +kernel
theorem ob_kq_b (t : Nat) : 0 ≤ (ob_kq t).1 ∧ (ob_kq t).1 < 2000 := by
  by_cases q : t < ob_kt.length
  · exact ob_kt_r _ (List.mem_of_getElem? (ob_nth_get _ _ _ q))
  · unfold ob_kq
    rw [ob_nth_ge _ _ _ (Nat.not_lt.mp q)]
    decide
theorem ob_kq_r (t : Nat) : ob_r32 (ob_kq t).1 := by
  have := ob_kq_b t
  exact ⟨by omega, by omega⟩
theorem ob_kq_n (t : Nat) : (((ob_kq t).1.toNat : Nat) : Int) = (ob_kq t).1 := by
  have := ob_kq_b t
  omega
theorem ob_kq3r : ∀ t, 16 ≤ t → t < 57 → (ob_kq t).2.1 = 3 → ∃ tk, (ob_kq t).2.2.1 = tk + 1 := by
  intro t h1 h2 h3
  have : ∀ t, t < 57 → (ob_kq t).2.1 = 3 → (ob_kq t).2.2.1 ≠ 0 ∧ (ob_kq t).2.2.1 ≤ 9 := by decide +kernel
  exact ⟨(ob_kq t).2.2.1 - 1, by have := (this t h2 h3).1; omega⟩
theorem ob_kq3b {t : Nat} (h2 : t < 57) (h3 : (ob_kq t).2.1 = 3) : (ob_kq t).2.2.1 ≠ 0 ∧ (ob_kq t).2.2.1 ≤ 9 := by
  have : ∀ t, t < 57 → (ob_kq t).2.1 = 3 → (ob_kq t).2.2.1 ≠ 0 ∧ (ob_kq t).2.2.1 ≤ 9 := by decide +kernel
  exact this t h2 h3
theorem ob_narb {x : Int} (h1 : -128 ≤ x) (h2 : x < 128) : narrow .byte (.int (Int32.ofInt x)) = .int (Int32.ofInt x) := by
  have e : (Int32.ofInt x).toInt8.toInt32 = Int32.ofInt x := by
    rw [ob_i_i2b]
    congr 1
    exact Int.bmod_eq_of_le (by omega) (by omega)
  rw [← e]
  exact pk_nb _
section ob_Sim3
variable {w : ob_Wd} {p : Program} {l : Launch} {e : Env} {R : Room} {s : State} {m : MethodId} {args : Array Value} {below : List Frame} {meth : Method} {c : Code} {Q : State → Prop} {c0 s0 f pc nx nL : Nat} {aux : List Nat} {z : Int} {ls st : List ob_AV} {mm : ob_MM} {S : ob_St}
variable {H : Heap} {locs : List Loc} {cells slots : Nat} {LS : Array Slot} {rest : List Value}
theorem ob_arr {t : Nat} {i : Int} (X : ob_Cx w p R s m args meth c f) (hR : ob_Rep w mm H) (hp : ob_pr (ob_nA mm) t i) (h15 : t ≠ 15) (h9 : (ob_kq t).2.1 ≠ 9) : ob_off t i < ob_nA mm ∧ ¬ t ≤ 8 ∧ H[ob_sz w + ob_off t i]? = some (arrV (ob_dA w (ob_ai t)) (ob_ns t) (ob_vl w mm t i)) ∧ ArrOfT s (ob_dA w (ob_ai t)) (ob_aty t) ∧ va_RA s (ob_dA w (ob_ai t)) (ob_aty t) ∧ 16 ≤ t ∧ t < 57 := by
  have hoff := ob_pr_off hp h15
  have h8 : ¬ t ≤ 8 := fun q => h9 (ob_kq9 t q)
  have hk := (ob_lay_k _ (ob_off_mem (Nat.lt_of_lt_of_le hoff hR.2.1))).2.2
  have hk : 16 ≤ t ∧ t < 57 := hk.elim (fun q => absurd q h8) id
  have hK := X.2.2.2.2.2.2.2.2.1.2.1 t hk.1 hk.2
  exact ⟨hoff, h8, (hR.2.2.1 t i hoff).2 h8, hK.1, hK.2, hk⟩
theorem ob_ln_n {m : ob_Mem} {t : Nat} (h : t ≠ 15) : ob_ln m t = (ob_kq t).1 := by
  unfold ob_ln
  rw [show Nat.beq t 15 = false from by
    cases e : Nat.beq t 15 with
    | false => rfl
    | true => exact absurd (ob_beq e) h]
  rfl
theorem ob_aty_of {t : Nat} (h : (ob_kq t).2.1 = 0) : ob_aty t = .int := by
  unfold ob_aty
  rw [h]
  rfl
theorem ob_aty_z {t : Nat} (h : (ob_kq t).2.1 = 1) : ob_aty t = .boolean := by
  unfold ob_aty
  rw [h]
  rfl
theorem ob_aty_b {t : Nat} (h : (ob_kq t).2.1 = 2) : ob_aty t = .byte := by
  unfold ob_aty
  rw [h]
  rfl
theorem ob_aty_r {t : Nat} (h : (ob_kq t).2.1 = 3) : ob_aty t = .object (ob_cn ((ob_kq t).2.2.1 - 1)) := by
  unfold ob_aty
  rw [h]
  rfl
theorem ob_ix {t : Nat} {j : Int} (h8 : ¬ t ≤ 8) (h15 : t ≠ 15) {mem : ob_Mem} (h0 : 0 ≤ j) (h1 : j < ob_ln mem t) : j.toNat < ob_ns t ∧ j < (ob_ns t : Int) ∧ ((j.toNat : Nat) : Int) = j := by
  rw [ob_ln_n h15] at h1
  rw [ob_nsa h8]
  omega
set_option maxRecDepth 100000 in
theorem ob_s_iaload  (X : ob_Cx w p R s m args meth c f) (hok : ob_ok f pc (.iaload, nx, aux, z) = true) (h : ob_nx (ob_ins (.iaload) nx aux z f ls st mm) S) (kk : ob_At w p l e R s m args below meth c Q c0 s0 (ob_mx f) S) : ob_At w p l e R s m args below meth c Q c0 s0 (ob_mx f) (f, pc, ls, st, mm) := by
  obtain ⟨j, st, rfl, h91⟩ := ob_i1_x h
  obtain ⟨t, i, st, rfl, h92⟩ := ob_r1_x h91
  obtain ⟨hq0, h93⟩ := ob_cond_x h92
  obtain ⟨hin, rfl⟩ := ob_gd_x h93
  obtain ⟨hd, rfl⟩ := ob_okd hok (n := 1) (ob_okI_of hok)
  intro LS H locs I
  have hj : ob_r32 j := I.2.2.1 (1, j) List.mem_cons_self
  show W p l e R s m args below meth c H locs _ _ Q (F0 m pc LS (Value.int (Int32.ofInt j) :: Value.ref (ob_ad w t i) :: List.map (ob_cv w) st))
  by_cases h15 : t = 15
  · subst h15
    have hi : i = 0 := (I.2.2.1 (15 + 3, i) (List.mem_cons_of_mem _ List.mem_cons_self)).elim (fun q => q.2) (fun q => absurd rfl q.1)
    subst hi
    obtain ⟨scr, g1, g2, g3, g4, g5⟩ := X.2.2.2.2.2.2.2.2.2.1
    have hL : ob_ln mm.1 15 = (ob_L w : Int) := I.1.2.2.2.2.1.1
    have hin : 0 ≤ j ∧ j < ob_ln mm.1 15 := hin
    rw [hL] at hin
    have hjn : j.toNat < ob_L w := by omega
    have hval : mm.1 15 0 j = (ob_xs w j.toNat).toInt := by
      have q := I.1.2.2.2.2.1.2 j.toNat hjn
      rw [show ((j.toNat : Nat) : Int) = j by omega] at q
      exact q
    refine W.iald (v := .int (ob_xs w j.toNat)) X.1 X.2.1 (show H[ob_b w]? = some scr by rw [I.2.2.2.1 _ X.2.2.2.2.2.2.2.2.2.2.1.1]; exact g1) g2 g3 (by rw [g4]; exact ob_i_in hj hin.1 hin.2) (by rw [ob_i_nat hin.1 hj]; exact g5 _ hjn) rfl rfl hd ?_
    have K := kk LS H locs (ob_Iv_st I (ob_al1 (v := (1, _)) (I.1.2.2.2.1 15 0 j) (fun x hx => I.2.2.1 x (List.mem_cons_of_mem _ (List.mem_cons_of_mem _ hx)))))
    have e9 : List.map (ob_cv w) ((1, mm.1 15 0 j) :: st) = Value.int (Int32.ofInt (mm.1 15 0 j)) :: List.map (ob_cv w) st := rfl
    rw [e9, hval, Int32.ofInt_toInt] at K
    exact K
  · have hq : (ob_kq t).2.1 = 0 := ob_beq hq0
    obtain ⟨hoff, h8, hcel, hA, -, -⟩ := ob_arr X I.1 (I.2.2.1 (t + 3, i) (List.mem_cons_of_mem _ List.mem_cons_self)) h15 (by rw [hq]; decide)
    obtain ⟨x1, x2, x3⟩ := ob_ix h8 h15 hin.1 hin.2
    rw [ob_ad_n h15]
    have hv : ob_vl w mm t i j.toNat = .int (Int32.ofInt (mm.1 t i j)) := by
      have q := ob_vl_i (w := w) (mm := mm) (i := i) (k := t) (s := j.toNat) (md := (ob_kq t).2.2.2) (by rw [ob_ska h8, ob_kq0 (by rw [hq]; decide)])
      rw [x3] at q
      exact q
    have hA := hA (ob_ns t) (ob_vl w mm t i)
    rw [ob_aty_of hq] at hA
    refine W.iald (v := .int (Int32.ofInt (mm.1 t i j))) X.1 X.2.1 hcel hA (fun q => by cases q) (by rw [arrV_size]; exact ob_i_in hj hin.1 x2) (by rw [ob_i_nat hin.1 hj, arrV_read _ _ x1, hv]) rfl rfl hd ?_
    exact kk LS H locs (ob_Iv_st I (ob_al1 (v := (1, _)) (I.1.2.2.2.1 _ _ _) (fun x hx => I.2.2.1 x (List.mem_cons_of_mem _ (List.mem_cons_of_mem _ hx)))))
set_option maxRecDepth 100000 in
theorem ob_s_baload  (X : ob_Cx w p R s m args meth c f) (hok : ob_ok f pc (.baload, nx, aux, z) = true) (h : ob_nx (ob_ins (.baload) nx aux z f ls st mm) S) (kk : ob_At w p l e R s m args below meth c Q c0 s0 (ob_mx f) S) : ob_At w p l e R s m args below meth c Q c0 s0 (ob_mx f) (f, pc, ls, st, mm) := by
  obtain ⟨j, st, rfl, h91⟩ := ob_i1_x h
  obtain ⟨t, i, st, rfl, h92⟩ := ob_r1_x h91
  obtain ⟨hq0, h93⟩ := ob_cond_x h92
  obtain ⟨hin, rfl⟩ := ob_gd_x h93
  obtain ⟨hd, rfl⟩ := ob_okd hok (n := 1) (ob_okI_of hok)
  intro LS H locs I
  have hj : ob_r32 j := I.2.2.1 (1, j) List.mem_cons_self
  show W p l e R s m args below meth c H locs _ _ Q (F0 m pc LS (Value.int (Int32.ofInt j) :: Value.ref (ob_ad w t i) :: List.map (ob_cv w) st))
  rw [Bool.or_eq_true] at hq0
  have h15 : t ≠ 15 := by
    intro q
    subst q
    rcases hq0 with q | q <;> exact absurd q (by decide)
  rcases hq0 with hq0 | hq0
  · have hq : (ob_kq t).2.1 = 1 := ob_beq hq0
    obtain ⟨hoff, h8, hcel, hA, -, -⟩ := ob_arr X I.1 (I.2.2.1 (t + 3, i) (List.mem_cons_of_mem _ List.mem_cons_self)) h15 (by rw [hq]; decide)
    obtain ⟨x1, x2, x3⟩ := ob_ix h8 h15 hin.1 hin.2
    rw [ob_ad_n h15]
    have hv : ob_vl w mm t i j.toNat = .int (Int32.ofInt (mm.1 t i j)) := by
      have q := ob_vl_i (w := w) (mm := mm) (i := i) (k := t) (s := j.toNat) (md := (ob_kq t).2.2.2) (by rw [ob_ska h8, ob_kq0 (by rw [hq]; decide)])
      rw [x3] at q
      exact q
    have hA := hA (ob_ns t) (ob_vl w mm t i)
    rw [ob_aty_z hq] at hA
    refine W.zald (v := .int (Int32.ofInt (mm.1 t i j))) X.1 X.2.1 hcel hA (fun q => by cases q) (by rw [arrV_size]; exact ob_i_in hj hin.1 x2) (by rw [ob_i_nat hin.1 hj, arrV_read _ _ x1, hv]) rfl rfl hd ?_
    exact kk LS H locs (ob_Iv_st I (ob_al1 (v := (1, _)) (I.1.2.2.2.1 _ _ _) (fun x hx => I.2.2.1 x (List.mem_cons_of_mem _ (List.mem_cons_of_mem _ hx)))))
  · have hq : (ob_kq t).2.1 = 2 := ob_beq hq0
    obtain ⟨hoff, h8, hcel, hA, -, -⟩ := ob_arr X I.1 (I.2.2.1 (t + 3, i) (List.mem_cons_of_mem _ List.mem_cons_self)) h15 (by rw [hq]; decide)
    obtain ⟨x1, x2, x3⟩ := ob_ix h8 h15 hin.1 hin.2
    rw [ob_ad_n h15]
    have hv : ob_vl w mm t i j.toNat = .int (Int32.ofInt (mm.1 t i j)) := by
      have q := ob_vl_i (w := w) (mm := mm) (i := i) (k := t) (s := j.toNat) (md := (ob_kq t).2.2.2) (by rw [ob_ska h8, ob_kq0 (by rw [hq]; decide)])
      rw [x3] at q
      exact q
    have hA := hA (ob_ns t) (ob_vl w mm t i)
    rw [ob_aty_b hq] at hA
    refine W.bald (v := .int (Int32.ofInt (mm.1 t i j))) X.1 X.2.1 hcel hA (fun q => by cases q) (by rw [arrV_size]; exact ob_i_in hj hin.1 x2) (by rw [ob_i_nat hin.1 hj, arrV_read _ _ x1, hv]) rfl rfl hd ?_
    exact kk LS H locs (ob_Iv_st I (ob_al1 (v := (1, _)) (I.1.2.2.2.1 _ _ _) (fun x hx => I.2.2.1 x (List.mem_cons_of_mem _ (List.mem_cons_of_mem _ hx)))))
set_option maxRecDepth 100000 in
theorem ob_s_aaload  (X : ob_Cx w p R s m args meth c f) (hok : ob_ok f pc (.aaload, nx, aux, z) = true) (h : ob_nx (ob_ins (.aaload) nx aux z f ls st mm) S) (kk : ob_At w p l e R s m args below meth c Q c0 s0 (ob_mx f) S) : ob_At w p l e R s m args below meth c Q c0 s0 (ob_mx f) (f, pc, ls, st, mm) := by
  obtain ⟨j, st, rfl, h91⟩ := ob_i1_x h
  obtain ⟨t, i, st, rfl, h92⟩ := ob_r1_x h91
  obtain ⟨hq0, h93⟩ := ob_cond_x h92
  obtain ⟨hin, rfl⟩ := ob_gd_x h93
  obtain ⟨hd, rfl⟩ := ob_okd hok (n := 1) (ob_okI_of hok)
  intro LS H locs I
  have hj : ob_r32 j := I.2.2.1 (1, j) List.mem_cons_self
  show W p l e R s m args below meth c H locs _ _ Q (F0 m pc LS (Value.int (Int32.ofInt j) :: Value.ref (ob_ad w t i) :: List.map (ob_cv w) st))
  rw [Bool.and_eq_true] at hq0
  have hq : (ob_kq t).2.1 = 3 := ob_beq hq0.1
  have h15 : t ≠ 15 := by
    intro q
    subst q
    exact absurd hq (by decide)
  obtain ⟨hoff, h8, hcel, hA, -, hr16⟩ := ob_arr X I.1 (I.2.2.1 (t + 3, i) (List.mem_cons_of_mem _ List.mem_cons_self)) h15 (by rw [hq]; decide)
  obtain ⟨x1, x2, x3⟩ := ob_ix h8 h15 hin.1 hin.2
  rw [ob_ad_n h15]
  obtain ⟨tk, htk⟩ : ∃ tk, (ob_kq t).2.2.1 = tk + 1 := ob_kq3r t hr16.1 hr16.2 hq
  have hsk : ob_sk t j.toNat = (tk + 1, (ob_kq t).2.2.2) := by rw [ob_ska h8, htk]
  have hv : ob_vl w mm t i j.toNat = .ref (ob_ad w tk (ob_tg mm.1 (ob_kq t).2.2.2 t i j)) := by
    have q := ob_vl_r (w := w) (mm := mm) (i := i) hsk (by rw [x3]; exact hq0.2)
    rw [x3] at q
    exact q
  have hA := hA (ob_ns t) (ob_vl w mm t i)
  rw [ob_aty_r hq] at hA
  refine W.aald (v := .ref (ob_ad w tk (ob_tg mm.1 (ob_kq t).2.2.2 t i j))) X.1 X.2.1 hcel hA rfl (fun q => by cases q) (by rw [arrV_size]; exact ob_i_in hj hin.1 x2) (by rw [ob_i_nat hin.1 hj, arrV_read _ _ x1, hv]) rfl rfl hd ?_
  have hr := I.1.2.2.2.2.2.1 t i j.toNat hoff x1 tk _ hsk (by rw [x3]; exact hq0.2)
  rw [x3] at hr
  have K := kk LS H locs
  rw [show (ob_kq t).2.2.1 + 2 = tk + 3 by omega] at K
  exact K (ob_Iv_st I (ob_al1 (v := (tk + 3, _)) (Or.inr hr) (fun x hx => I.2.2.1 x (List.mem_cons_of_mem _ (List.mem_cons_of_mem _ hx)))))
set_option maxRecDepth 100000 in
theorem ob_s_arraylength  (X : ob_Cx w p R s m args meth c f) (hok : ob_ok f pc (.arraylength, nx, aux, z) = true) (h : ob_nx (ob_ins (.arraylength) nx aux z f ls st mm) S) (kk : ob_At w p l e R s m args below meth c Q c0 s0 (ob_mx f) S) : ob_At w p l e R s m args below meth c Q c0 s0 (ob_mx f) (f, pc, ls, st, mm) := by
  obtain ⟨t, i, st, rfl, h91⟩ := ob_r1_x h
  obtain ⟨hq0, h92⟩ := ob_cond_x h91
  obtain rfl := ob_go_x h92
  obtain ⟨hd, rfl⟩ := ob_okd hok (n := 1) (ob_okI_of hok)
  intro LS H locs I
  show W p l e R s m args below meth c H locs _ _ Q (F0 m pc LS (Value.ref (ob_ad w t i) :: List.map (ob_cv w) st))
  have hr32 : ob_r32 (ob_ln mm.1 t) := by
    by_cases h15 : t = 15
    · subst h15
      exact I.1.2.2.2.1 14 0 0
    · rw [ob_ln_n h15]
      exact ob_kq_r t
  by_cases h15 : t = 15
  · subst h15
    have hi : i = 0 := (I.2.2.1 (15 + 3, i) List.mem_cons_self).elim (fun q => q.2) (fun q => absurd rfl q.1)
    subst hi
    obtain ⟨scr, g1, g2, g3, g4, g5⟩ := X.2.2.2.2.2.2.2.2.2.1
    have hL : ob_ln mm.1 15 = (ob_L w : Int) := I.1.2.2.2.2.1.1
    refine W.alen (n := Int32.ofInt (ob_ln mm.1 15)) X.1 X.2.1 (show H[ob_b w]? = some scr by rw [I.2.2.2.1 _ X.2.2.2.2.2.2.2.2.2.2.1.1]; exact g1) g2 (by rw [g4, hL, Int32.ofInt_eq_ofNat]) rfl rfl hd ?_
    exact kk LS H locs (ob_Iv_st I (ob_al1 (v := (1, _)) hr32 (fun x hx => I.2.2.1 x (List.mem_cons_of_mem _ hx))))
  · obtain ⟨hoff, h8, hcel, hA, -, hr16⟩ := ob_arr X I.1 (I.2.2.1 (t + 3, i) List.mem_cons_self) h15 (fun q => by rw [q] at hq0; cases hq0)
    rw [ob_ad_n h15]
    refine W.alen (n := Int32.ofInt (ob_ln mm.1 t)) X.1 X.2.1 hcel (hA (ob_ns t) (ob_vl w mm t i)) (by rw [arrV_size, ob_ln_n h15, ob_nsa h8, ← ob_kq_n t, Int32.ofInt_eq_ofNat, ← ob_kq_n t]; rfl) rfl rfl hd ?_
    exact kk LS H locs (ob_Iv_st I (ob_al1 (v := (1, _)) hr32 (fun x hx => I.2.2.1 x (List.mem_cons_of_mem _ hx))))
set_option maxRecDepth 100000 in
theorem ob_s_iastore  (X : ob_Cx w p R s m args meth c f) (hok : ob_ok f pc (.iastore, nx, aux, z) = true) (h : ob_nx (ob_ins (.iastore) nx aux z f ls st mm) S) (kk : ob_At w p l e R s m args below meth c Q c0 s0 (ob_mx f) S) : ob_At w p l e R s m args below meth c Q c0 s0 (ob_mx f) (f, pc, ls, st, mm) := by
  obtain ⟨x, st, rfl, h91⟩ := ob_i1_x h
  obtain ⟨j, st, rfl, h92⟩ := ob_i1_x h91
  obtain ⟨t, i, st, rfl, h93⟩ := ob_r1_x h92
  obtain ⟨hq0, h94⟩ := ob_cond_x h93
  obtain ⟨hin, rfl⟩ := ob_gd_x h94
  rw [Bool.and_eq_true] at hq0
  have hq : (ob_kq t).2.1 = 0 := ob_beq hq0.1
  have h15 : t ≠ 15 := fun q => by rw [q] at hq0; exact absurd hq0.2 (by decide)
  obtain ⟨hd, rfl⟩ := ob_okd hok (n := 1) (ob_okI_of hok)
  intro LS H locs I
  have hx : ob_r32 x := I.2.2.1 (1, x) List.mem_cons_self
  have hj : ob_r32 j := I.2.2.1 (1, j) (List.mem_cons_of_mem _ List.mem_cons_self)
  show W p l e R s m args below meth c H locs _ _ Q (F0 m pc LS (Value.int (Int32.ofInt x) :: Value.int (Int32.ofInt j) :: Value.ref (ob_ad w t i) :: List.map (ob_cv w) st))
  obtain ⟨hoff, h8, hcel, hA, -, -⟩ := ob_arr X I.1 (I.2.2.1 (t + 3, i) (List.mem_cons_of_mem _ (List.mem_cons_of_mem _ List.mem_cons_self))) h15 (by rw [hq]; decide)
  obtain ⟨x1, x2, x3⟩ := ob_ix h8 h15 hin.1 hin.2
  rw [ob_ad_n h15]
  have hA := hA (ob_ns t) (ob_vl w mm t i)
  rw [ob_aty_of hq] at hA
  refine W.iast X.1 X.2.1 hcel hA (fun q => by cases q) (by rw [arrV_size]; exact ob_i_in hj hin.1 x2) rfl rfl hd fun H1 e1 e2 e3 => ?_
  rw [ob_i_nat hin.1 hj, arrV_store] at e1
  rw [ob_i_nat hin.1 hj]
  have hsk : ob_sk t j.toNat = (0, (ob_kq t).2.2.2) := by rw [ob_ska h8, ob_kq0 (by rw [hq]; decide)]
  have hvl : ob_vl w (ob_set mm.1 t i j x, mm.2) t i j.toNat = .int (Int32.ofInt x) := by
    rw [ob_vl_i hsk, x3]
    show Value.int (Int32.ofInt (ob_set mm.1 t i j x t i j)) = _
    rw [ob_set_e]
  
  refine kk LS H1 _ (ob_Iv_m (mm' := (ob_set mm.1 t i j x, mm.2)) I ?_ ⟨rfl, rfl⟩ (fun v hv => I.2.2.1 v (List.mem_cons_of_mem _ (List.mem_cons_of_mem _ (List.mem_cons_of_mem _ hv)))) e3)
  refine ob_Rep_sto (s := j.toNat) I.1 hoff e2 e3 ⟨fun q => absurd q h8, fun _ => by rw [hvl]; exact e1⟩ (fun k' i' s' q => ob_set_n (by rw [x3] at q; exact q)) (fun _ _ _ _ => rfl) ?_ rfl (fun tk md q => by rw [hsk] at q; cases q) (fun C' hC' => ⟨C', hC', rfl, fun q hq => Or.inl hq⟩)
  rw [x3]
  show ob_r32 (ob_set mm.1 t i j x t i j)
  rw [ob_set_e]
  exact hx
set_option maxRecDepth 100000 in
theorem ob_s_bastore  (X : ob_Cx w p R s m args meth c f) (hok : ob_ok f pc (.bastore, nx, aux, z) = true) (h : ob_nx (ob_ins (.bastore) nx aux z f ls st mm) S) (kk : ob_At w p l e R s m args below meth c Q c0 s0 (ob_mx f) S) : ob_At w p l e R s m args below meth c Q c0 s0 (ob_mx f) (f, pc, ls, st, mm) := by
  obtain ⟨x, st, rfl, h91⟩ := ob_i1_x h
  obtain ⟨j, st, rfl, h92⟩ := ob_i1_x h91
  obtain ⟨t, i, st, rfl, h93⟩ := ob_r1_x h92
  split at h93
  · rename_i hq
    obtain ⟨⟨hin, hin2⟩, rfl⟩ := ob_gd_x h93
    have h15 : t ≠ 15 := fun q => by rw [q] at hq; exact absurd hq (by decide)
    obtain ⟨hd, rfl⟩ := ob_okd hok (n := 1) (ob_okI_of hok)
    intro LS H locs I
    have hx : ob_r32 x := I.2.2.1 (1, x) List.mem_cons_self
    have hj : ob_r32 j := I.2.2.1 (1, j) (List.mem_cons_of_mem _ List.mem_cons_self)
    show W p l e R s m args below meth c H locs _ _ Q (F0 m pc LS (Value.int (Int32.ofInt x) :: Value.int (Int32.ofInt j) :: Value.ref (ob_ad w t i) :: List.map (ob_cv w) st))
    obtain ⟨hoff, h8, hcel, hA, -, -⟩ := ob_arr X I.1 (I.2.2.1 (t + 3, i) (List.mem_cons_of_mem _ (List.mem_cons_of_mem _ List.mem_cons_self))) h15 (by rw [hq]; decide)
    obtain ⟨x1, x2, x3⟩ := ob_ix h8 h15 hin.1 hin.2
    rw [ob_ad_n h15]
    have hA := hA (ob_ns t) (ob_vl w mm t i)
    rw [ob_aty_z hq] at hA
    refine W.zast X.1 X.2.1 hcel hA (fun q => by cases q) (by rw [arrV_size]; exact ob_i_in hj hin.1 x2) rfl rfl hd fun H1 e1 e2 e3 => ?_
    rw [ob_i_nat hin.1 hj, arrV_store] at e1
    rw [ob_i_nat hin.1 hj]
    have hsk : ob_sk t j.toNat = (0, (ob_kq t).2.2.2) := by rw [ob_ska h8, ob_kq0 (by rw [hq]; decide)]
    have hvl : ob_vl w (ob_set mm.1 t i j x, mm.2) t i j.toNat = .int (Int32.ofInt x) := by
      rw [ob_vl_i hsk, x3]
      show Value.int (Int32.ofInt (ob_set mm.1 t i j x t i j)) = _
      rw [ob_set_e]
    have hnar : narrow .boolean (.int (Int32.ofInt x)) = .int (Int32.ofInt x) := by rcases hin2 with rfl | rfl <;> decide
    rw [hnar] at e1
    refine kk LS H1 _ (ob_Iv_m (mm' := (ob_set mm.1 t i j x, mm.2)) I ?_ ⟨rfl, rfl⟩ (fun v hv => I.2.2.1 v (List.mem_cons_of_mem _ (List.mem_cons_of_mem _ (List.mem_cons_of_mem _ hv)))) e3)
    refine ob_Rep_sto (s := j.toNat) I.1 hoff e2 e3 ⟨fun q => absurd q h8, fun _ => by rw [hvl]; exact e1⟩ (fun k' i' s' q => ob_set_n (by rw [x3] at q; exact q)) (fun _ _ _ _ => rfl) ?_ rfl (fun tk md q => by rw [hsk] at q; cases q) (fun C' hC' => ⟨C', hC', rfl, fun q hq => Or.inl hq⟩)
    rw [x3]
    show ob_r32 (ob_set mm.1 t i j x t i j)
    rw [ob_set_e]
    exact hx
  · rename_i hq
    obtain ⟨⟨hin, hin2⟩, rfl⟩ := ob_gd_x h93
    have h15 : t ≠ 15 := fun q => by rw [q] at hq; exact absurd hq (by decide)
    obtain ⟨hd, rfl⟩ := ob_okd hok (n := 1) (ob_okI_of hok)
    intro LS H locs I
    have hx : ob_r32 x := I.2.2.1 (1, x) List.mem_cons_self
    have hj : ob_r32 j := I.2.2.1 (1, j) (List.mem_cons_of_mem _ List.mem_cons_self)
    show W p l e R s m args below meth c H locs _ _ Q (F0 m pc LS (Value.int (Int32.ofInt x) :: Value.int (Int32.ofInt j) :: Value.ref (ob_ad w t i) :: List.map (ob_cv w) st))
    obtain ⟨hoff, h8, hcel, hA, -, -⟩ := ob_arr X I.1 (I.2.2.1 (t + 3, i) (List.mem_cons_of_mem _ (List.mem_cons_of_mem _ List.mem_cons_self))) h15 (by rw [hq]; decide)
    obtain ⟨x1, x2, x3⟩ := ob_ix h8 h15 hin.1 hin.2
    rw [ob_ad_n h15]
    have hA := hA (ob_ns t) (ob_vl w mm t i)
    rw [ob_aty_b hq] at hA
    refine W.bast X.1 X.2.1 hcel hA (fun q => by cases q) (by rw [arrV_size]; exact ob_i_in hj hin.1 x2) rfl rfl hd fun H1 e1 e2 e3 => ?_
    rw [ob_i_nat hin.1 hj, arrV_store] at e1
    rw [ob_i_nat hin.1 hj]
    have hsk : ob_sk t j.toNat = (0, (ob_kq t).2.2.2) := by rw [ob_ska h8, ob_kq0 (by rw [hq]; decide)]
    have hvl : ob_vl w (ob_set mm.1 t i j x, mm.2) t i j.toNat = .int (Int32.ofInt x) := by
      rw [ob_vl_i hsk, x3]
      show Value.int (Int32.ofInt (ob_set mm.1 t i j x t i j)) = _
      rw [ob_set_e]
    have hnar : narrow .byte (.int (Int32.ofInt x)) = .int (Int32.ofInt x) := ob_narb hin2.1 hin2.2
    rw [hnar] at e1
    refine kk LS H1 _ (ob_Iv_m (mm' := (ob_set mm.1 t i j x, mm.2)) I ?_ ⟨rfl, rfl⟩ (fun v hv => I.2.2.1 v (List.mem_cons_of_mem _ (List.mem_cons_of_mem _ (List.mem_cons_of_mem _ hv)))) e3)
    refine ob_Rep_sto (s := j.toNat) I.1 hoff e2 e3 ⟨fun q => absurd q h8, fun _ => by rw [hvl]; exact e1⟩ (fun k' i' s' q => ob_set_n (by rw [x3] at q; exact q)) (fun _ _ _ _ => rfl) ?_ rfl (fun tk md q => by rw [hsk] at q; cases q) (fun C' hC' => ⟨C', hC', rfl, fun q hq => Or.inl hq⟩)
    rw [x3]
    show ob_r32 (ob_set mm.1 t i j x t i j)
    rw [ob_set_e]
    exact hx
  · exact (ob_stop_x h93).elim
end ob_Sim3
end
section
-- CONSTANTS, ALLOCATION, REFERENCES IN ARRAYS, LIBRARY CALLS
set_option maxRecDepth 100000 in
theorem ob_ac_i : Cond.arrayClass .int ∈ ob_gt := ob_w_in (i := 183) rfl rfl
set_option maxRecDepth 100000 in
theorem ob_ac_z : Cond.arrayClass .boolean ∈ ob_gt := ob_w_in (i := 298) rfl rfl
set_option maxRecDepth 100000 in
theorem ob_ac_b : Cond.arrayClass .byte ∈ ob_gt := ob_w_in (i := 392) rfl rfl
set_option maxRecDepth 100000 in
theorem ob_sp_a1 : Cond.native arraycopyName ∈ ob_gt := ob_w_in (i := 441) rfl rfl
set_option maxRecDepth 100000 in
theorem ob_sp_a2 : Cond.static arraycopyName ∈ ob_gt := ob_w_in (i := 440) rfl rfl
set_option maxRecDepth 100000 in
theorem ob_sp_a3 : Cond.initialized "java/lang/System" ∈ ob_gt := ob_w_in (i := 120) rfl rfl
set_option maxRecDepth 100000 in
theorem ob_sp_m0 : Cond.initialized "java/lang/Math" ∈ ob_gt := ob_w_in (i := 121) rfl rfl
set_option maxRecDepth 100000 in
theorem ob_sp_o1 : Cond.instanceMethod objectInit ∈ ob_gt := ob_w_in (i := 128) rfl rfl
set_option maxRecDepth 100000 in
theorem ob_sp_o2 : Cond.code objectInit ⟨#[0xb1]⟩ 1 none ∈ ob_gt := ob_w_in (i := 129) rfl rfl
set_option maxRecDepth 100000 in
theorem ob_sp_min1 : Cond.static Lib.Math.min.name ∈ ob_gt := ob_w_in (i := 608) rfl rfl
set_option maxRecDepth 100000 in
theorem ob_sp_min2 : Cond.code Lib.Math.min.name Lib.Math.min.code 2 (some .int) ∈ ob_gt := ob_w_in (i := 609) rfl rfl
set_option maxRecDepth 100000 in
theorem ob_sp_max1 : Cond.static Lib.Math.max.name ∈ ob_gt := ob_w_in (i := 790) rfl rfl
set_option maxRecDepth 100000 in
theorem ob_sp_max2 : Cond.code Lib.Math.max.name Lib.Math.max.code 2 (some .int) ∈ ob_gt := ob_w_in (i := 791) rfl rfl
set_option maxRecDepth 100000 in
theorem ob_sp_abs1 : Cond.static Lib.Math.abs.name ∈ ob_gt := ob_w_in (i := 628) rfl rfl
set_option maxRecDepth 100000 in
theorem ob_sp_abs2 : Cond.code Lib.Math.abs.name Lib.Math.abs.code 1 (some .int) ∈ ob_gt := ob_w_in (i := 629) rfl rfl
theorem ob_in4s {L : List (Nat × Nat × Nat × Nat)} {a i g : Nat} (h : ob_in4 L a i g = true) : ∃ p, (a, i, g, p) ∈ L := by
  obtain ⟨⟨a1, a2, a3, a4⟩, hq, h2⟩ := List.any_eq_true.mp h
  simp only [Bool.and_eq_true] at h2
  obtain ⟨⟨e1, e2⟩, e3⟩ := h2
  obtain rfl : a2 = i := ob_beq e1
  obtain rfl : a1 = a := ob_beq e2
  obtain rfl : a3 = g := ob_beq e3
  exact ⟨a4, hq⟩
theorem ob_spl {a i g : Nat} (h : ob_in4 ob_SP a i g = true) : Cond.methodLink (ob_cn a) i (ob_spn g) ∈ ob_gt := by
  obtain ⟨p, hp⟩ := ob_in4s h
  exact ob_w_in (ob_SPk _ hp) rfl
theorem ob_ckl {a i g : Nat} (h : ob_in4 ob_CK a i g = true) : Cond.classLink (ob_cn a) i (ob_cn g) ∈ ob_gt := by
  obtain ⟨p, hp⟩ := ob_in4s h
  exact ob_w_in (ob_CKk _ hp) rfl
theorem ob_isl {t : Nat} (h : t < 9) : Cond.instantiable (ob_cn t) (ob_nth ob_ft t []).length ∈ ob_gt := by
  obtain ⟨⟨a1, a2, a3⟩, hq, h2⟩ := List.any_eq_true.mp (ob_ISa t h)
  obtain rfl : a1 = t := ob_beq h2
  have q := ob_ISk _ hq
  have q2 : a2 = (ob_nth ob_ft a1 []).length := q.2
  rw [← q2]
  exact ob_w_in q.1 rfl
theorem ob_inl {t : Nat} (h : t < 11) : Cond.initialized (ob_cn t) ∈ ob_gt := by
  obtain ⟨⟨a1, a2⟩, hq, h2⟩ := List.any_eq_true.mp (ob_INa t h)
  obtain rfl : a1 = t := ob_beq h2
  exact ob_w_in (ob_INk _ hq) rfl
theorem ob_col {a i v t : Nat} (h : ob_inCO a i v t = true) : cond (Nat.beq t 0) (Cond.constant (ob_cn a) i (Int32.ofInt (Int.ofNat v))) (Cond.constantLong (ob_cn a) i (Int64.ofInt (Int.ofNat v))) ∈ ob_gt := by
  obtain ⟨⟨a1, a2, a3, a4, a5⟩, hq, h2⟩ := List.any_eq_true.mp h
  simp only [Bool.and_eq_true] at h2
  obtain ⟨⟨⟨e1, e2⟩, e3⟩, e4⟩ := h2
  obtain rfl : a2 = i := ob_beq e1
  obtain rfl : a1 = a := ob_beq e2
  obtain rfl : a3 = v := ob_beq e3
  obtain rfl : a5 = t := ob_beq e4
  refine ob_w_in (ob_COk _ hq) ?_
  show goodWord (cond (Nat.beq a5 0) _ _) = true
  cases Nat.beq a5 0 <;> rfl
theorem ob_new_x {k n f nx : Nat} {ls st : List ob_AV} {mm : ob_MM} {S : ob_St} (h : ob_nx (ob_new k f nx ls st n mm) S) : ∃ (m0 : ob_Mem) (C : ob_CI) (i : Int), mm = (m0, some C) ∧ ob_nth ob_lay C.1 (99, 0) = (k, i) ∧ S = (f, nx, ls, (k + 3, i) :: st, (m0, some (C.1 + 1, C.2.1 + n, C.2.2))) := by
  obtain ⟨m0, cc⟩ := mm
  unfold ob_new at h
  cases cc with
  | none => exact (ob_stop_x h).elim
  | some C =>
    obtain ⟨h1, h2⟩ := ob_cond_x h
    refine ⟨m0, C, (ob_nth ob_lay C.1 (99, 0)).2, rfl, ?_, ob_go_x h2⟩
    rw [← ob_beq h1]
theorem ob_new_o {a k : Nat} {i : Int} (h : ob_nth ob_lay a (99, 0) = (k, i)) (hk : k < 99) : a < ob_layN ∧ ob_off k i = a := by
  have ha : a < ob_layN := by
    rw [← ob_lay_len]
    refine Nat.not_le.mp fun q => ?_
    rw [ob_nth_ge _ _ _ q] at h
    cases h
    exact absurd hk (by decide)
  have q := ob_off_nth ha
  rw [h] at q
  exact ⟨ha, q⟩
theorem ob_Iv_new {w : ob_Wd} {s : State} {c0 s0 nL k n : Nat} {ls st st' : List ob_AV} {m0 : ob_Mem} {C : ob_CI} {i : Int} {LS : Array Slot} {H H' : Heap} {locs : List Loc} (h : ob_Iv w s c0 s0 nL ls st (m0, some C) LS H locs) (hk : k ≠ 15) (ho : ob_off k i = C.1) (hR : ob_Rep w (m0, some (C.1 + 1, C.2.1 + n, C.2.2)) H') (hs : ∀ v ∈ st', ob_okv C.1 v) (hH : ∀ q : Nat, q < H.size → H'[q]? = H[q]?) : ob_Iv w s c0 s0 nL ls ((k + 3, i) :: st') (m0, some (C.1 + 1, C.2.1 + n, C.2.2)) LS H' locs := by
  obtain ⟨h1, ⟨a1, a2, a3, a4⟩, h3, h4, h5, h6, h7⟩ := h
  have hz : H.size = ob_sz w + C.1 := h1.1
  refine ⟨hR, ⟨a1, a2, a3, fun j hj => ⟨(a4 j hj).1, ob_okv_le (Nat.le_succ _) (a4 j hj).2⟩⟩, ob_al1 (v := (k + 3, i)) (Or.inr ⟨hk, by rw [ho]; exact Nat.lt_succ_self _⟩) (fun v hv => ob_okv_le (Nat.le_succ _) (hs v hv)), fun q hq => by rw [hH q (by omega)]; exact h4 q hq, h5, Nat.le_trans h6 (Nat.le_succ _), Nat.le_trans h7 (Nat.le_add_right _ _)⟩
theorem ob_repV {cA : ClassId} {N : Nat} {v : Value} : ({ cls := cA, slots := Array.replicate N v, vm := .none } : Cell) = arrV cA N (fun _ => v) := by
  unfold arrV
  congr 1
  apply Array.ext
  · simp
  · intro i h1 h2
    simp
theorem ob_kq99 (t : Nat) : (ob_kq t).2.1 ≤ 9 := by
  have : ∀ q ∈ ob_kt, q.2.1 ≤ 9 := by decide +kernel
  by_cases q : t < ob_kt.length
  · exact this _ (List.mem_of_getElem? (ob_nth_get _ _ _ q))
  · unfold ob_kq
    rw [ob_nth_ge _ _ _ (Nat.not_lt.mp q)]
    decide
def ob_atc (a : ArrayType) : Nat := match a with
  | .int => 0
  | .boolean => 1
  | .byte => 2
  | _ => 99
theorem ob_atc_e {f pc nx : Nat} {aux : List Nat} {z : Int} {a : ArrayType} : ob_okI f pc (.newarray a) nx aux z = (Nat.beq nx (pc + 2) && Nat.ble 16 (ob_nth aux 0 0) && Nat.beq (ob_kq (ob_nth aux 0 0)).2.1 (ob_atc a)) := by
  cases a <;> rfl
section ob_Sim4
variable {w : ob_Wd} {p : Program} {l : Launch} {e : Env} {R : Room} {s : State} {m : MethodId} {args : Array Value} {below : List Frame} {meth : Method} {c : Code} {Q : State → Prop} {c0 s0 f pc nx nL : Nat} {aux : List Nat} {z : Int} {ls st : List ob_AV} {mm : ob_MM} {S : ob_St}
variable {H : Heap} {locs : List Loc} {cells slots : Nat} {LS : Array Slot} {rest : List Value}
set_option maxRecDepth 100000 in
theorem ob_s_ldc {idx : Nat} (X : ob_Cx w p R s m args meth c f) (hok : ob_ok f pc (.ldc idx, nx, aux, z) = true) (h : ob_nx (ob_ins (.ldc idx) nx aux z f ls st mm) S) (kk : ob_At w p l e R s m args below meth c Q c0 s0 (ob_mx f) S) : ob_At w p l e R s m args below meth c Q c0 s0 (ob_mx f) (f, pc, ls, st, mm) := by
  obtain rfl := ob_go_x h
  have g : (Nat.beq nx (pc + 2) && ob_inCO (ob_ow f) idx z.toNat 0 && decide (0 ≤ z ∧ z < 2147483648)) = true := ob_okI_of hok
  rw [Bool.and_eq_true, Bool.and_eq_true] at g
  obtain ⟨hd, rfl⟩ := ob_okd hok g.1.1
  have hz := of_decide_eq_true g.2
  have hw : Cond.constant (ob_cn (ob_ow f)) idx (Int32.ofInt (Int.ofNat z.toNat)) ∈ ob_gt := ob_col g.1.2
  rw [show Int.ofNat z.toNat = z by have : ((z.toNat : Nat) : Int) = z := by omega
                                    exact this] at hw
  intro LS H locs I
  refine lv_ldc X.1 X.2.1 X.2.2.2.1 (X.2.2.2.2.1 _ hw) hd ?_
  exact kk LS H locs (ob_Iv_st I (ob_al1 (v := (1, z)) ⟨by omega, by omega⟩ I.2.2.1))
set_option maxRecDepth 100000 in
theorem ob_s_ldc2_w {idx : Nat} (X : ob_Cx w p R s m args meth c f) (hok : ob_ok f pc (.ldc2_w idx, nx, aux, z) = true) (h : ob_nx (ob_ins (.ldc2_w idx) nx aux z f ls st mm) S) (kk : ob_At w p l e R s m args below meth c Q c0 s0 (ob_mx f) S) : ob_At w p l e R s m args below meth c Q c0 s0 (ob_mx f) (f, pc, ls, st, mm) := by
  obtain rfl := ob_go_x h
  have g : (Nat.beq nx (pc + 3) && ob_inCO (ob_ow f) idx z.toNat 1 && decide (0 ≤ z ∧ z < 2147483648)) = true := ob_okI_of hok
  rw [Bool.and_eq_true, Bool.and_eq_true] at g
  obtain ⟨hd, rfl⟩ := ob_okd hok g.1.1
  have hz := of_decide_eq_true g.2
  have hw : Cond.constantLong (ob_cn (ob_ow f)) idx (Int64.ofInt (Int.ofNat z.toNat)) ∈ ob_gt := ob_col g.1.2
  rw [show Int.ofNat z.toNat = z by have : ((z.toNat : Nat) : Int) = z := by omega
                                    exact this] at hw
  intro LS H locs I
  refine lv_ldc2 X.1 X.2.1 X.2.2.2.1 (X.2.2.2.2.1 _ hw) hd ?_
  exact kk LS H locs (ob_Iv_st I (ob_al1 (v := (2, z)) ⟨by omega, by omega⟩ I.2.2.1))
set_option maxRecDepth 100000 in
theorem ob_s_new {idx : Nat} (X : ob_Cx w p R s m args meth c f) (hok : ob_ok f pc (.new idx, nx, aux, z) = true) (h : ob_nx (ob_ins (.new idx) nx aux z f ls st mm) S) (kk : ob_At w p l e R s m args below meth c Q c0 s0 (ob_mx f) S) (hb1 : ob_nA S.2.2.2.2 ≤ R.cells + c0) (hb2 : ob_nS S.2.2.2.2 ≤ R.slots + s0) : ob_At w p l e R s m args below meth c Q c0 s0 (ob_mx f) (f, pc, ls, st, mm) := by
  obtain ⟨m0, C, i, rfl, hl, rfl⟩ := ob_new_x h
  have g : (Nat.beq nx (pc + 3) && ob_in4 ob_CK (ob_ow f) idx (ob_nth aux 0 0) && Nat.ble (ob_nth aux 0 0) 8) = true := ob_okI_of hok
  rw [Bool.and_eq_true, Bool.and_eq_true] at g
  obtain ⟨hd, rfl⟩ := ob_okd hok g.1.1
  have h8 : ob_nth aux 0 0 ≤ 8 := Nat.ble_eq.mp g.2
  have hck := ob_ckl g.1.2
  generalize ob_nth aux 0 0 = k at *
  obtain ⟨hlt, ho⟩ := ob_new_o hl (by omega)
  intro LS H locs I
  have hc0 : c0 ≤ C.1 := I.2.2.2.2.2.1
  have hs0 : s0 ≤ C.2.1 := I.2.2.2.2.2.2
  have hb1 : C.1 + 1 ≤ R.cells + c0 := hb1
  have hb2 : C.2.1 + (ob_nth ob_ft k []).length ≤ R.slots + s0 := hb2
  have hz : H.size = ob_sz w + C.1 := I.1.1
  have hKn := X.2.2.2.2.2.2.2.2.1.1.1 k _ (ob_clk k h8)
  show W p l e R s m args below meth c H locs (C.1 - c0) (C.2.1 - s0) Q (F0 m pc LS (List.map (ob_cv w) st))
  refine W.newcK X.1 X.2.1 X.2.2.2.1 (X.2.2.2.2.1 _ hck) (X.2.2.2.2.1 _ (ob_isl (by omega))) (X.2.2.2.2.1 _ (ob_inl (by omega))) rfl hd (by omega) (by omega) hKn.2.1 rfl fun H1 kC hkC e1 z1 o1 => ?_
  refine W.cs (cells' := C.1 + 1 - c0) (slots' := C.2.1 + (ob_nth ob_ft k []).length - s0) (by omega) (by omega) ?_
  have K := kk LS H1 locs (ob_Iv_new I (by omega) ho ?_ I.2.2.1 o1)
  · have e9 : List.map (ob_cv w) ((k + 3, i) :: st) = Value.ref (ob_ad w k i) :: List.map (ob_cv w) st := rfl
    rw [e9, ob_ad_n (by omega), ho, ← hz] at K
    exact K
  refine ob_Rep_new I.1 hlt ho z1 o1 ⟨fun _ => ?_, fun q => absurd h8 q⟩
  rw [ho, ← hz]
  have hN := ob_nsk h8
  refine (u_born (ob_tyq k) X.2.2.2.2.1 (ob_lays9 h8) hKn hkC e1 (by rw [hN]; exact ob_tyk k (by omega))).to fun j hj => ?_
  rw [ob_vl_new I.1 ho hlt]
  exact ob_tyd k (by omega) j (by rw [← hN]; exact hj)
set_option maxRecDepth 100000 in
theorem ob_s_newarray {a : ArrayType} (X : ob_Cx w p R s m args meth c f) (hok : ob_ok f pc (.newarray a, nx, aux, z) = true) (h : ob_nx (ob_ins (.newarray a) nx aux z f ls st mm) S) (kk : ob_At w p l e R s m args below meth c Q c0 s0 (ob_mx f) S) (hb1 : ob_nA S.2.2.2.2 ≤ R.cells + c0) (hb2 : ob_nS S.2.2.2.2 ≤ R.slots + s0) : ob_At w p l e R s m args below meth c Q c0 s0 (ob_mx f) (f, pc, ls, st, mm) := by
  obtain ⟨n, st, rfl, h91⟩ := ob_i1_x h
  obtain ⟨hn, h92⟩ := ob_cond_x h91
  obtain ⟨m0, C, i, rfl, hl, rfl⟩ := ob_new_x h92
  have g := ob_okI_of hok
  rw [ob_atc_e] at g
  rw [Bool.and_eq_true, Bool.and_eq_true] at g
  obtain ⟨hd, rfl⟩ := ob_okd hok g.1.1
  have h16 : 16 ≤ ob_nth aux 0 0 := Nat.ble_eq.mp g.1.2
  have hn := of_decide_eq_true hn
  generalize ob_nth aux 0 0 = k at *
  have hk57 : k < 99 := by
    refine Nat.not_le.mp fun q => ?_
    have e1 := ob_beq g.2
    unfold ob_kq at e1
    rw [ob_nth_ge _ _ _ (Nat.le_trans (by decide) q)] at e1
    cases a <;> cases e1
  obtain ⟨hlt, ho⟩ := ob_new_o hl hk57
  have hk57 : 16 ≤ k ∧ k < 57 := by
    have := (ob_lay_k _ (ob_off_mem (k := k) (i := i) (by rw [ho]; exact hlt))).2.2
    exact this.elim (fun q => absurd q (by omega)) id
  intro LS H locs I
  have hc0 : c0 ≤ C.1 := I.2.2.2.2.2.1
  have hs0 : s0 ≤ C.2.1 := I.2.2.2.2.2.2
  have hb1 : C.1 + 1 ≤ R.cells + c0 := hb1
  have hb2 : C.2.1 + n.toNat ≤ R.slots + s0 := hb2
  have hz : H.size = ob_sz w + C.1 := I.1.1
  have hkb := ob_kq_b k
  have hn32 : ob_r32 n := I.2.2.1 (1, n) List.mem_cons_self
  have hK := X.2.2.2.2.2.2.2.2.1.2.1 k hk57.1 hk57.2
  have hns : ob_ns k = n.toNat := by rw [ob_nsa (by omega), hn]
  have key : ∀ ty : FieldType, newarray.typeOf a = ty → ob_aty k = ty → (ob_kq k).2.1 ≠ 3 → defaultValue ty = .int (Int32.ofInt 0) → componentBytes ty ≤ 8 → Cond.arrayClass ty ∈ ob_gt → (∀ cA : ClassId, va_RA s cA ty → s.vm.findClass ("[" ++ ty.toString) = some cA) → W p l e R s m args below meth c H locs (C.1 - c0) (C.2.1 - s0) Q (F0 m pc LS (Value.int (Int32.ofInt n) :: List.map (ob_cv w) st)) := by
    intro ty hty haty h3 hdef hcb hac hra
    have hn0 : ¬ Int32.ofInt n < 0 := fun q => by have := (ob_i_lt hn32 ob_r0).mp q; omega
    have hnn : (Int32.ofInt n).toNatClampNeg = n.toNat := ob_i_nat (by omega) hn32
    refine W.newa X.1 X.2.1 (atype := a) (by rw [hty]; exact X.2.2.2.2.1 _ hac) rfl hd rfl hn0 (by rw [hnn, hty]; exact Nat.le_trans (Nat.mul_le_mul (show n.toNat ≤ 2000 by omega) hcb) (by decide)) (by omega) (by rw [hnn]; omega) fun cA kA comp f1 f2 f3 => ?_
    have hcA : cA = ob_dA w (ob_ai k) := by
      rw [hty] at f1
      have q := hra _ (by rw [← haty]; exact hK.2)
      exact Option.some.inj (f1.symm.trans q)
    subst hcA
    rw [hnn, hty, hdef]
    rw [ob_repV]
    refine W.cs (cells' := C.1 + 1 - c0) (slots' := C.2.1 + n.toNat - s0) (by omega) (by omega) ?_
    have o1 : ∀ q : Nat, q < H.size → (H.push (arrV (ob_dA w (ob_ai k)) n.toNat fun _ => Value.int (Int32.ofInt 0)))[q]? = H[q]? := fun q hq => by rw [Array.getElem?_push_lt hq, Array.getElem?_eq_getElem hq]
    have K := kk LS (H.push (arrV (ob_dA w (ob_ai k)) n.toNat fun _ => Value.int (Int32.ofInt 0))) locs (ob_Iv_new I (by omega) ho ?_ (fun v hv => I.2.2.1 v (List.mem_cons_of_mem _ hv)) o1)
    · have e9 : List.map (ob_cv w) ((k + 3, i) :: st) = Value.ref (ob_ad w k i) :: List.map (ob_cv w) st := rfl
      rw [e9, ob_ad_n (by omega), ho, ← hz] at K
      exact K
    refine ob_Rep_new I.1 hlt ho (by rw [Array.size_push]) o1 ⟨fun q => absurd q (by omega), fun _ => ?_⟩
    rw [ho, ← hz, Array.getElem?_push_size, hns]
    congr 1
    refine ob_arrV_c fun j hj => ?_
    rw [ob_vl_new I.1 ho hlt, ob_ska (by omega), ob_kq0 h3]
    rfl
  show W p l e R s m args below meth c H locs (C.1 - c0) (C.2.1 - s0) Q (F0 m pc LS (Value.int (Int32.ofInt n) :: List.map (ob_cv w) st))
  have g2 := ob_beq g.2
  cases a with
  | int => exact key .int rfl (ob_aty_of g2) (by rw [g2]; decide) rfl (by decide) ob_ac_i (fun _ q => q)
  | boolean => exact key .boolean rfl (ob_aty_z g2) (by rw [g2]; decide) rfl (by decide) ob_ac_z (fun _ q => q)
  | byte => exact key .byte rfl (ob_aty_b g2) (by rw [g2]; decide) rfl (by decide) ob_ac_b (fun _ q => q)
  | _ =>
    have g2 : (ob_kq k).2.1 = 99 := g2
    exact absurd g2 (by have := ob_kq99 k; omega)
set_option maxRecDepth 100000 in
theorem ob_s_anewarray {idx : Nat} (X : ob_Cx w p R s m args meth c f) (hok : ob_ok f pc (.anewarray idx, nx, aux, z) = true) (h : ob_nx (ob_ins (.anewarray idx) nx aux z f ls st mm) S) (kk : ob_At w p l e R s m args below meth c Q c0 s0 (ob_mx f) S) (hb1 : ob_nA S.2.2.2.2 ≤ R.cells + c0) (hb2 : ob_nS S.2.2.2.2 ≤ R.slots + s0) : ob_At w p l e R s m args below meth c Q c0 s0 (ob_mx f) (f, pc, ls, st, mm) := by
  obtain ⟨n, st, rfl, h91⟩ := ob_i1_x h
  obtain ⟨hn, h92⟩ := ob_cond_x h91
  obtain ⟨m0, C, i, rfl, hl, rfl⟩ := ob_new_x h92
  have g : (Nat.beq nx (pc + 3) && Nat.ble 16 (ob_nth aux 0 0) && ob_in4 ob_CK (ob_ow f) idx (ob_nth aux 1 0) && Nat.beq (ob_kq (ob_nth aux 0 0)).2.1 3 && Nat.beq (ob_kq (ob_nth aux 0 0)).2.2.1 (ob_nth aux 1 0 + 1)) = true := ob_okI_of hok
  rw [Bool.and_eq_true, Bool.and_eq_true, Bool.and_eq_true, Bool.and_eq_true] at g
  obtain ⟨⟨⟨⟨g1, g2⟩, g3⟩, g4⟩, g5⟩ := g
  obtain ⟨hd, rfl⟩ := ob_okd hok g1
  have h16 : 16 ≤ ob_nth aux 0 0 := Nat.ble_eq.mp g2
  have hck := ob_ckl g3
  have hn := of_decide_eq_true hn
  have g4 := ob_beq g4
  have g5 := ob_beq g5
  generalize ob_nth aux 0 0 = k at *
  generalize ob_nth aux 1 0 = t2 at *
  have hk57 : k < 99 := by
    refine Nat.not_le.mp fun q => ?_
    unfold ob_kq at g4
    rw [ob_nth_ge _ _ _ (Nat.le_trans (by decide) q)] at g4
    cases g4
  obtain ⟨hlt, ho⟩ := ob_new_o hl hk57
  have hk57 : 16 ≤ k ∧ k < 57 := by
    have := (ob_lay_k _ (ob_off_mem (k := k) (i := i) (by rw [ho]; exact hlt))).2.2
    exact this.elim (fun q => absurd q (by omega)) id
  intro LS H locs I
  have hc0 : c0 ≤ C.1 := I.2.2.2.2.2.1
  have hs0 : s0 ≤ C.2.1 := I.2.2.2.2.2.2
  have hb1 : C.1 + 1 ≤ R.cells + c0 := hb1
  have hb2 : C.2.1 + n.toNat ≤ R.slots + s0 := hb2
  have hz : H.size = ob_sz w + C.1 := I.1.1
  have hkb := ob_kq_b k
  have hn32 : ob_r32 n := I.2.2.1 (1, n) List.mem_cons_self
  have hK := X.2.2.2.2.2.2.2.2.1.2.1 k hk57.1 hk57.2
  have hAO := X.2.2.2.2.2.2.2.2.1.2.2.2 k hk57.1 hk57.2 g4
  rw [ob_aty_r g4, g5] at hK
  rw [g5] at hAO
  have hns : ob_ns k = n.toNat := by rw [ob_nsa (by omega), hn]
  have hn0 : ¬ Int32.ofInt n < 0 := fun q => by have := (ob_i_lt hn32 ob_r0).mp q; omega
  have hnn : (Int32.ofInt n).toNatClampNeg = n.toNat := ob_i_nat (by omega) hn32
  show W p l e R s m args below meth c H locs (C.1 - c0) (C.2.1 - s0) Q (F0 m pc LS (Value.int (Int32.ofInt n) :: List.map (ob_cv w) st))
  refine W.anew X.1 X.2.1 X.2.2.2.1 (C := ob_cn t2) (X.2.2.2.2.1 _ hck) (va_AO.use hAO) rfl hd rfl hn0 (by rw [hnn]; omega) (by omega) (by rw [hnn]; omega) fun cA kA comp f1 f2 f3 f4 => ?_
  have hcA : cA = ob_dA w (ob_ai k) := by
    obtain ⟨kA', comp', r1, r2, r3, r4⟩ := hK.2
    exact Option.some.inj (f1.symm.trans r4)
  subst hcA
  rw [hnn, ob_repV]
  refine W.cs (cells' := C.1 + 1 - c0) (slots' := C.2.1 + n.toNat - s0) (by omega) (by omega) ?_
  have o1 : ∀ q : Nat, q < H.size → (H.push (arrV (ob_dA w (ob_ai k)) n.toNat fun _ => Value.null))[q]? = H[q]? := fun q hq => by rw [Array.getElem?_push_lt hq, Array.getElem?_eq_getElem hq]
  have K := kk LS (H.push (arrV (ob_dA w (ob_ai k)) n.toNat fun _ => Value.null)) locs (ob_Iv_new I (by omega) ho ?_ (fun v hv => I.2.2.1 v (List.mem_cons_of_mem _ hv)) o1)
  · have e9 : List.map (ob_cv w) ((k + 3, i) :: st) = Value.ref (ob_ad w k i) :: List.map (ob_cv w) st := rfl
    rw [e9, ob_ad_n (by omega), ho, ← hz] at K
    exact K
  refine ob_Rep_new I.1 hlt ho (by rw [Array.size_push]) o1 ⟨fun q => absurd q (by omega), fun _ => ?_⟩
  rw [ho, ← hz, Array.getElem?_push_size, hns]
  congr 1
  refine ob_arrV_c fun j hj => ?_
  rw [ob_vl_new I.1 ho hlt, ob_ska (by omega), g5]
  rfl
end ob_Sim4
end
section
-- REFERENCES INTO ARRAYS, LIBRARY CALLS
theorem ob_wk_sum {w : ob_Wd} : ∀ (n : Nat) (r : List ob_AV), ob_wk n r = true → ((r.map (ob_cv w)).map fun v => v.category).sum ≤ n
  | n, [], _ => Nat.zero_le n
  | 0, _ :: _, h => by cases h
  | n + 1, (t, x) :: r, h => by
    have h : cond (Nat.beq t 2) (cond (Nat.beq n 0) false (ob_wk (n - 1) r)) (ob_wk n r) = true := h
    show (ob_cv w (t, x)).category + ((r.map (ob_cv w)).map fun v => v.category).sum ≤ n + 1
    cases e : Nat.beq t 2 with
    | true =>
      rw [e] at h
      cases e2 : Nat.beq n 0 with
      | true =>
        rw [e2] at h
        cases h
      | false =>
        rw [e2] at h
        have q := ob_wk_sum (w := w) (n - 1) r h
        have c2 := lv_cat (ob_cv w (t, x))
        have hn : n ≠ 0 := fun z => by rw [z] at e2; cases e2
        omega
    | false =>
      rw [e] at h
      have q := ob_wk_sum (w := w) n r h
      have c1 : (ob_cv w (t, x)).category = 1 := ob_cat (fun z => by
        have z : t = 2 := z
        rw [z] at e
        cases e)
      omega
theorem ob_i_max {a b : Int} (ha : ob_r32 a) (hb : ob_r32 b) : (if Int32.ofInt a < Int32.ofInt b then Int32.ofInt b else Int32.ofInt a) = Int32.ofInt (max a b) := by
  by_cases h : a < b
  · rw [if_pos ((ob_i_lt ha hb).mpr h), show max a b = b by omega]
  · rw [if_neg (fun q => h ((ob_i_lt ha hb).mp q)), show max a b = a by omega]
theorem ob_i_abs {a : Int} (ha : ob_r32 a) : (if 0 ≤ Int32.ofInt a then Int32.ofInt a else 0 - Int32.ofInt a) = Int32.ofInt (ob_abs a) := by
  unfold ob_abs
  by_cases h : a < 0
  · rw [if_pos h, if_neg (fun q => by have := (ob_i_le ob_r0 ha).mp q; omega), ob_i_wr, ← ob_i_0, ← Int32.ofInt_sub, Int.zero_sub]
  · rw [if_neg h, if_pos (show 0 ≤ Int32.ofInt a from (ob_i_le ob_r0 ha).mpr (by omega))]
section ob_Sim5
variable {w : ob_Wd} {p : Program} {l : Launch} {e : Env} {R : Room} {s : State} {m : MethodId} {args : Array Value} {below : List Frame} {meth : Method} {c : Code} {Q : State → Prop} {c0 s0 f pc nx nL : Nat} {aux : List Nat} {z : Int} {ls st : List ob_AV} {mm : ob_MM} {S : ob_St}
variable {H : Heap} {locs : List Loc} {cells slots : Nat} {LS : Array Slot} {rest : List Value}
set_option maxRecDepth 100000 in
theorem ob_s_aastore  (X : ob_Cx w p R s m args meth c f) (hok : ob_ok f pc (.aastore, nx, aux, z) = true) (h : ob_nx (ob_ins (.aastore) nx aux z f ls st mm) S) (kk : ob_At w p l e R s m args below meth c Q c0 s0 (ob_mx f) S) : ob_At w p l e R s m args below meth c Q c0 s0 (ob_mx f) (f, pc, ls, st, mm) := by
  obtain ⟨t2, i2, st, rfl, h91⟩ := ob_r1_x h
  obtain ⟨j, st, rfl, h92⟩ := ob_i1_x h91
  obtain ⟨t, i, st, rfl, h93⟩ := ob_r1_x h92
  obtain ⟨hq0, h94⟩ := ob_cond_x h93
  rw [Bool.and_eq_true] at hq0
  have hq : (ob_kq t).2.1 = 3 := ob_beq hq0.1
  have hq2 : t2 + 1 = (ob_kq t).2.2.1 := ob_beq hq0.2
  have h15 : t ≠ 15 := by
    intro q
    subst q
    exact absurd hq (by decide)
  obtain ⟨hd, rfl⟩ := ob_okd hok (n := 1) (ob_okI_of hok)
  have key : ∀ mm' : ob_MM, S = (f, pc + 1, ls, st, mm') → (0 ≤ j ∧ j < ob_ln mm.1 t) → mm'.2 = ob_add mm.2 t i j → (∀ (k' : Nat) (i' s' : Int), ¬ (k' = t ∧ i' = i ∧ s' = j) → mm'.1 k' i' s' = mm.1 k' i' s') → (∀ n : Nat, ob_pr n t2 i2 → t2 ≠ 15 → n ≤ ob_layN → ob_r32 (mm.1 t i j) → ob_r32 (mm'.1 t i j)) → i2 = ob_tg mm'.1 (ob_kq t).2.2.2 t i j → ob_At w p l e R s m args below meth c Q c0 s0 (ob_mx f) (f, pc, ls, (t2 + 3, i2) :: (1, j) :: (t + 3, i) :: st, mm) := by
    intro mm' hS hin hm2 hm1 hr hi2
    subst hS
    intro LS H locs I
    have hj : ob_r32 j := I.2.2.1 (1, j) (List.mem_cons_of_mem _ List.mem_cons_self)
    obtain ⟨hoff, h8, hcel, hA, hRA, hr16⟩ := ob_arr X I.1 (I.2.2.1 (t + 3, i) (List.mem_cons_of_mem _ (List.mem_cons_of_mem _ List.mem_cons_self))) h15 (by rw [hq]; decide)
    obtain ⟨x1, x2, x3⟩ := ob_ix h8 h15 hin.1 hin.2
    have h28 : t2 ≤ 8 := by have := (ob_kq3b hr16.2 hq).2; omega
    have hp2 := I.2.2.1 (t2 + 3, i2) List.mem_cons_self
    have hoff2 := ob_pr_off hp2 (by omega)
    rw [ob_aty_r hq, ← hq2] at hRA
    obtain ⟨kA, comp, k1, k2, k3, -⟩ := hRA
    have hcls := (X.2.2.2.2.2.2.2.2.1.1.1 t2 _ (ob_clk t2 h28)).2
    have hcomp : comp = ob_dC w t2 := Option.some.inj (k3.symm.trans hcls.1)
    subst hcomp
    obtain ⟨kC, hkC, -⟩ := id hcls.2
    obtain ⟨cellV, g1, g2, g3, -⟩ := (I.1.2.2.1 t2 i2 hoff2).1 h28
    show W p l e R s m args below meth c H locs _ _ Q (F0 m pc LS (Value.ref (ob_ad w t2 i2) :: Value.int (Int32.ofInt j) :: Value.ref (ob_ad w t i) :: List.map (ob_cv w) st))
    rw [ob_ad_n h15, ob_ad_n (show t2 ≠ 15 by omega)]
    refine W.aast X.1 X.2.1 hcel (fun q h => by cases h) (fun h => by cases h) k1 k2 rfl hkC ⟨fun q => by have := (ob_i_lt hj ob_r0).mp q; omega, by rw [arrV_size, ob_i_nat hin.1 hj]; exact x1⟩ g1 (fun q h => by rw [g3] at h; cases h) (by rw [g2]; exact hkC) (by rw [g2]; exact va_assign hcls) rfl rfl hd fun H1 e1 e2 e3 => ?_
    rw [ob_i_nat hin.1 hj, arrV_store] at e1
    rw [ob_i_nat hin.1 hj]
    have hnA : ob_nA mm' = ob_nA mm ∧ ob_nS mm' = ob_nS mm := by
      have := ob_add_nA mm.1 mm'.1 mm.2 t i j
      rw [← hm2] at this
      exact this
    have hini : ob_ini mm'.2 t i j = true := by rw [hm2]; exact ob_add_i
    have hsk : ob_sk t j.toNat = (t2 + 1, (ob_kq t).2.2.2) := by rw [ob_ska h8, ← hq2]
    have hvl : ob_vl w mm' t i j.toNat = .ref (ob_sz w + ob_off t2 i2) := by
      rw [ob_vl_r hsk (by rw [x3]; exact hini), x3, ← hi2, ob_ad_n (show t2 ≠ 15 by omega)]
    have K := kk LS H1 _ (ob_Iv_m (j := j.toNat) (mm' := mm') I ?_ hnA (fun v hv => I.2.2.1 v (List.mem_cons_of_mem _ (List.mem_cons_of_mem _ (List.mem_cons_of_mem _ hv)))) e3)
    · rw [hnA.1, hnA.2] at K
      exact K
    refine ob_Rep_sto (s := j.toNat) I.1 hoff e2 e3 ⟨fun q => absurd q h8, fun _ => by rw [hvl]; exact e1⟩ (fun k' i' s' q => hm1 k' i' s' (by rw [x3] at q; exact q)) (fun k' i' s' q => by rw [hm2]; exact ob_add_n (by rw [x3] at q; exact q)) (by rw [x3]; exact hr _ hp2 (by omega) I.1.2.1 (I.1.2.2.2.1 _ _ _)) hnA.1 (fun tk' md' q _ => by
      rw [hsk] at q
      cases q
      rw [x3, ← hi2]
      exact ⟨by omega, hoff2⟩) (by rw [hm2]; exact ob_add_C)
  split at h94
  · rename_i e3
    obtain ⟨hin, hS⟩ := ob_gd_x h94
    refine key _ hS hin rfl (fun k' i' s' q => ob_set_n q) (fun n hp ht2 hn _ => ?_) ?_
    · show ob_r32 (ob_set mm.1 t i j i2 t i j)
      rw [ob_set_e]
      exact ob_idx_r (Nat.lt_of_lt_of_le (ob_pr_off hp ht2) hn)
    · rw [e3]
      show i2 = ob_set mm.1 t i j i2 t i j
      rw [ob_set_e]
  · rename_i e3
    obtain ⟨C, hC, h4⟩ := ob_stat_x h94
    obtain ⟨⟨hin, hi2⟩, hS⟩ := ob_gd_x h4
    exact key _ hS hin rfl (fun k' i' s' q => rfl) (fun n hp ht2 hn h5 => h5) hi2
set_option maxRecDepth 100000 in
theorem ob_s_objInit {idx : Nat} (X : ob_Cx w p R s m args meth c f) (hok : ob_ok f pc (.invokespecial idx, nx, [0], z) = true) (h : ob_nx (ob_ins (.invokespecial idx) nx [0] z f ls st mm) S) (kk : ob_At w p l e R s m args below meth c Q c0 s0 (ob_mx f) S) : ob_At w p l e R s m args below meth c Q c0 s0 (ob_mx f) (f, pc, ls, st, mm) := by
  obtain ⟨t, i, st, rfl, h91⟩ := ob_r1_x h
  obtain ⟨hw, h92⟩ := ob_cond_x h91
  obtain rfl := ob_go_x h92
  have g : (Nat.beq nx (pc + 3) && (ob_in4 ob_SP (ob_ow f) idx 0 && Nat.ble 1 (ob_rk f))) = true := ob_okI_of hok
  rw [Bool.and_eq_true, Bool.and_eq_true] at g
  obtain ⟨hd, rfl⟩ := ob_okd hok g.1
  have hrk : 1 ≤ ob_rk f := Nat.ble_eq.mp g.2.2
  intro LS H locs I
  have hws := ob_wk_sum (w := w) 8 st hw
  have hR := X.2.2.2.2.2.2.2.2.2.2.2
  refine W.objInit X.1 X.2.1 X.2.2.2.1 (X.2.2.2.2.1 _ (ob_spl g.2.1)) (X.2.2.2.2.1 _ ob_sp_o1) (X.2.2.2.2.1 _ ob_sp_o2) rfl (by rw [X.2.2.1]; exact I.2.1.1) rfl hd (by omega) (by show 2 * 0 + _ + 12 ≤ _; omega) ?_
  exact kk LS H locs (ob_Iv_st I (fun v hv => I.2.2.1 v (List.mem_cons_of_mem _ hv)))
set_option maxRecDepth 100000 in
theorem ob_s_min {idx : Nat} (X : ob_Cx w p R s m args meth c f) (hok : ob_ok f pc (.invokestatic idx, nx, [2], z) = true) (h : ob_nx (ob_ins (.invokestatic idx) nx [2] z f ls st mm) S) (kk : ob_At w p l e R s m args below meth c Q c0 s0 (ob_mx f) S) (hb1 : ob_nA S.2.2.2.2 ≤ R.cells + c0) (hb2 : ob_nS S.2.2.2.2 ≤ R.slots + s0) : ob_At w p l e R s m args below meth c Q c0 s0 (ob_mx f) (f, pc, ls, st, mm) := by
  obtain ⟨b, st, rfl, h91⟩ := ob_i1_x h
  obtain ⟨a, st, rfl, h92⟩ := ob_i1_x h91
  obtain ⟨hw, h93⟩ := ob_cond_x h92
  obtain rfl := ob_go_x h93
  have g : (Nat.beq nx (pc + 3) && (ob_in4 ob_SP (ob_ow f) idx 2 && Nat.ble 1 (ob_rk f))) = true := ob_okI_of hok
  rw [Bool.and_eq_true, Bool.and_eq_true] at g
  obtain ⟨hd, rfl⟩ := ob_okd hok g.1
  have hrk : 1 ≤ ob_rk f := Nat.ble_eq.mp g.2.2
  intro LS H locs I
  have hws := ob_wk_sum (w := w) 8 st hw
  have hR := X.2.2.2.2.2.2.2.2.2.2.2
  have hb : ob_r32 b := I.2.2.1 (1, b) List.mem_cons_self
  have ha : ob_r32 a := I.2.2.1 (1, a) (List.mem_cons_of_mem _ List.mem_cons_self)
  have hb1 : ob_nA mm ≤ R.cells + c0 := hb1
  have hb2 : ob_nS mm ≤ R.slots + s0 := hb2
  refine va_mmin X.1 X.2.1 (by rw [X.2.2.1]; exact I.2.1.1.symm) X.2.2.2.1 (X.2.2.2.2.1 _ (ob_spl g.2.1)) (X.2.2.2.2.1 _ ob_sp_min1) (X.2.2.2.2.1 _ ob_sp_m0) (X.2.2.2.2.1 _ ob_sp_min2) (by omega) (by omega) (by omega) (by omega) hd ?_
  rw [ob_i_min ha hb]
  exact kk LS H locs (ob_Iv_st I (ob_al1 (v := (1, min a b)) (ob_min_r ha hb) (fun x hx => I.2.2.1 x (List.mem_cons_of_mem _ (List.mem_cons_of_mem _ hx)))))
set_option maxRecDepth 100000 in
theorem ob_s_max {idx : Nat} (X : ob_Cx w p R s m args meth c f) (hok : ob_ok f pc (.invokestatic idx, nx, [3], z) = true) (h : ob_nx (ob_ins (.invokestatic idx) nx [3] z f ls st mm) S) (kk : ob_At w p l e R s m args below meth c Q c0 s0 (ob_mx f) S) (hb1 : ob_nA S.2.2.2.2 ≤ R.cells + c0) (hb2 : ob_nS S.2.2.2.2 ≤ R.slots + s0) : ob_At w p l e R s m args below meth c Q c0 s0 (ob_mx f) (f, pc, ls, st, mm) := by
  obtain ⟨b, st, rfl, h91⟩ := ob_i1_x h
  obtain ⟨a, st, rfl, h92⟩ := ob_i1_x h91
  obtain ⟨hw, h93⟩ := ob_cond_x h92
  obtain rfl := ob_go_x h93
  have g : (Nat.beq nx (pc + 3) && (ob_in4 ob_SP (ob_ow f) idx 3 && Nat.ble 1 (ob_rk f))) = true := ob_okI_of hok
  rw [Bool.and_eq_true, Bool.and_eq_true] at g
  obtain ⟨hd, rfl⟩ := ob_okd hok g.1
  have hrk : 1 ≤ ob_rk f := Nat.ble_eq.mp g.2.2
  intro LS H locs I
  have hws := ob_wk_sum (w := w) 8 st hw
  have hR := X.2.2.2.2.2.2.2.2.2.2.2
  have hb : ob_r32 b := I.2.2.1 (1, b) List.mem_cons_self
  have ha : ob_r32 a := I.2.2.1 (1, a) (List.mem_cons_of_mem _ List.mem_cons_self)
  have hb1 : ob_nA mm ≤ R.cells + c0 := hb1
  have hb2 : ob_nS mm ≤ R.slots + s0 := hb2
  refine va_mmax X.1 X.2.1 (by rw [X.2.2.1]; exact I.2.1.1.symm) X.2.2.2.1 (X.2.2.2.2.1 _ (ob_spl g.2.1)) (X.2.2.2.2.1 _ ob_sp_max1) (X.2.2.2.2.1 _ ob_sp_m0) (X.2.2.2.2.1 _ ob_sp_max2) (by omega) (by omega) (by omega) (by omega) hd ?_
  rw [ob_i_max ha hb]
  exact kk LS H locs (ob_Iv_st I (ob_al1 (v := (1, max a b)) (ob_max_r ha hb) (fun x hx => I.2.2.1 x (List.mem_cons_of_mem _ (List.mem_cons_of_mem _ hx)))))
set_option maxRecDepth 100000 in
theorem ob_s_abs {idx : Nat} (X : ob_Cx w p R s m args meth c f) (hok : ob_ok f pc (.invokestatic idx, nx, [4], z) = true) (h : ob_nx (ob_ins (.invokestatic idx) nx [4] z f ls st mm) S) (kk : ob_At w p l e R s m args below meth c Q c0 s0 (ob_mx f) S) (hb1 : ob_nA S.2.2.2.2 ≤ R.cells + c0) (hb2 : ob_nS S.2.2.2.2 ≤ R.slots + s0) : ob_At w p l e R s m args below meth c Q c0 s0 (ob_mx f) (f, pc, ls, st, mm) := by
  obtain ⟨a, st, rfl, h92⟩ := ob_i1_x h
  obtain ⟨hw, h93⟩ := ob_cond_x h92
  obtain rfl := ob_go_x h93
  have g : (Nat.beq nx (pc + 3) && (ob_in4 ob_SP (ob_ow f) idx 4 && Nat.ble 1 (ob_rk f))) = true := ob_okI_of hok
  rw [Bool.and_eq_true, Bool.and_eq_true] at g
  obtain ⟨hd, rfl⟩ := ob_okd hok g.1
  have hrk : 1 ≤ ob_rk f := Nat.ble_eq.mp g.2.2
  intro LS H locs I
  have hws := ob_wk_sum (w := w) 8 st hw
  have hR := X.2.2.2.2.2.2.2.2.2.2.2
  have ha : ob_r32 a := I.2.2.1 (1, a) List.mem_cons_self
  have hb1 : ob_nA mm ≤ R.cells + c0 := hb1
  have hb2 : ob_nS mm ≤ R.slots + s0 := hb2
  refine va_mabs X.1 X.2.1 (by rw [X.2.2.1]; exact I.2.1.1.symm) X.2.2.2.1 (X.2.2.2.2.1 _ (ob_spl g.2.1)) (X.2.2.2.2.1 _ ob_sp_abs1) (X.2.2.2.2.1 _ ob_sp_m0) (X.2.2.2.2.1 _ ob_sp_abs2) (by omega) (by omega) (by omega) (by omega) hd ?_
  rw [ob_i_abs ha]
  exact kk LS H locs (ob_Iv_st I (ob_al1 (v := (1, ob_abs a)) (ob_abs_r ha) (fun x hx => I.2.2.1 x (List.mem_cons_of_mem _ hx))))
/-- System.arraycopy of numbers -/
theorem ob_Wcopy {idx a0 a : Nat} {d0 d1 : ClassId} {n0 n1 : Nat} {g0 g1 : Nat → Int32} {sp dp n : Int32} (X : ob_Cx w p R s m args meth c f) (hml : LS.size = ob_mx f) (hl : ob_in4 ob_SP (ob_ow f) idx 1 = true) (hc0 : H[a0]? = some (arrV d0 n0 (fun j => .int (g0 j)))) (hc1 : H[a]? = some (arrV d1 n1 (fun j => .int (g1 j)))) (hA0 : ArrOfT s d0 .int) (hA1 : ArrOfT s d1 .int)
    (h1 : ¬ sp < 0) (h2 : ¬ dp < 0) (h3 : ¬ n < 0) (h4 : sp.toNatClampNeg + n.toNatClampNeg ≤ n0) (h5 : dp.toNatClampNeg + n.toNatClampNeg ≤ n1)
    (hframes : 1 ≤ R.frames) (hlocals : (rest.map fun v => v.category).sum + (nativeFrameWords "java/lang/System" "arraycopy" 5 + 11) ≤ R.locals) (hdg : decode (ob_by f) pc = .ok (.invokestatic idx, 3))
    (kk : ∀ (H1 : Heap) (L : List Loc), H1[a]? = some (arrV d1 n1 (fun j => .int (va_cpy g0 g1 sp.toNatClampNeg dp.toNatClampNeg n.toNatClampNeg j))) → H1.size = H.size → (∀ q : Nat, q ≠ a → H1[q]? = H[q]?) → (∀ q ∈ L, q.base = a) → W p l e R s m args below meth c H1 (locs ++ L) cells slots Q (F0 m (pc + 3) LS rest)) : W p l e R s m args below meth c H locs cells slots Q (F0 m pc LS (.int n :: .int dp :: .ref a :: .int sp :: .ref a0 :: rest)) := by
  obtain ⟨hx, hb, hmx, hown, hts, -⟩ := X
  have nn : ∀ z : Int32, ¬ z < 0 → z.toInt = (z.toNatClampNeg : Int) := by
    intro z hz
    have hz0 : (0 : Int) ≤ z.toInt := by
      have := Int32.not_lt.mp hz
      simpa using Int32.le_iff_toInt_le.mp this
    show z.toInt = ((z.toInt.toNat : Nat) : Int)
    omega
  intro T hT X
  obtain ⟨-, k0, hk0, cm0, hkk0⟩ := hA0 n0 (fun j => .int (g0 j))
  obtain ⟨-, k1, hk1, cm1, hkk1⟩ := hA1 n1 (fun j => .int (g1 j))
  obtain ⟨vm', X', step⟩ := X.arraycopy hx hown (hts _ (ob_spl hl)) (hts _ ob_sp_a1) (hts _ ob_sp_a2) (hts _ ob_sp_a3) (src := a0) (dst := a) (cs := arrV d0 n0 (fun j => .int (g0 j))) (cd := arrV d1 n1 (fun j => .int (g1 j))) (srcPos := sp) (destPos := dp) (n := n) (by rw [hT]; exact hc0) (by rw [hT]; exact hc1)
    (fun _ h => by cases h) (fun _ h => by cases h) (fun h => by cases h) (fun h => by cases h) hk0 hk1 hkk0 hkk1 (by rfl) h1 h2 h3
    (by rw [nn sp h1, nn n h3]; show ¬ _ > ((arrV d0 n0 (fun j => .int (g0 j))).slots.size : Int); rw [arrV_size]; omega)
    (by rw [nn dp h2, nn n h3]; show ¬ _ > ((arrV d1 n1 (fun j => .int (g1 j))).slots.size : Int); rw [arrV_size]; omega)
    (fun vm₁ _ i hi => by
      have e : (arrV d0 n0 (fun j => Value.int (g0 j))).slots.getD (sp.toNatClampNeg + i) .null = .int (g0 (sp.toNatClampNeg + i)) := by
        rw [Array.getD_eq_getD_getElem?, arrV_read _ _ (by omega)]
        rfl
      refine ⟨?_, ?_⟩
      · rw [e]
        rfl
      · rw [e]
        exact trivial)
    (g := F0 m pc LS (.int n :: .int dp :: .ref a :: .int sp :: .ref a0 :: rest)) rfl (by rw [hmx]; exact hml) (rest := rest) rfl (by rw [hb]; exact hdg) hframes (by show 2 * 0 + _ + _ ≤ _; omega)
  have e1 : copied (arrV d0 n0 (fun j => Value.int (g0 j))) (arrV d1 n1 (fun j => Value.int (g1 j))) sp dp n = arrV d1 n1 (fun j => .int (va_cpy g0 g1 sp.toNatClampNeg dp.toNatClampNeg n.toNatClampNeg j)) := va_copied (fun z => .int z) d0 d1 g0 g1 h4
  rw [e1] at X' step
  have hlt : a < H.size := (Array.getElem?_eq_some_iff.mp hc1).1
  have hheap : ((T.setVm vm').setCell a (arrV d1 n1 (fun j => .int (va_cpy g0 g1 sp.toNatClampNeg dp.toNatClampNeg n.toNatClampNeg j)))).heap = H.setIfInBounds a (arrV d1 n1 (fun j => .int (va_cpy g0 g1 sp.toNatClampNeg dp.toNatClampNeg n.toNatClampNeg j))) := by rw [← hT]; rfl
  obtain ⟨t, a1, b1⟩ := kk _ _ (by simp [Array.getElem?_setIfInBounds, hlt]) (by simp) (fun q hq => by simp [Array.getElem?_setIfInBounds, Ne.symm hq]) (fun q hq => by
      obtain ⟨z, -, hz⟩ := List.mem_map.mp hq
      rw [← hz]) _ hheap X'
  exact ⟨t, step t a1, b1⟩
set_option maxRecDepth 100000 in
theorem ob_s_copy {idx : Nat} (X : ob_Cx w p R s m args meth c f) (hok : ob_ok f pc (.invokestatic idx, nx, [1], z) = true) (h : ob_nx (ob_ins (.invokestatic idx) nx [1] z f ls st mm) S) (kk : ob_At w p l e R s m args below meth c Q c0 s0 (ob_mx f) S) : ob_At w p l e R s m args below meth c Q c0 s0 (ob_mx f) (f, pc, ls, st, mm) := by
  obtain ⟨n, st, rfl, h91⟩ := ob_i1_x h
  obtain ⟨p2, st, rfl, h92⟩ := ob_i1_x h91
  obtain ⟨t2, i2, st, rfl, h93⟩ := ob_r1_x h92
  obtain ⟨pp, st, rfl, h94⟩ := ob_i1_x h93
  obtain ⟨t, i, st, rfl, h95⟩ := ob_r1_x h94
  obtain ⟨hq, h96⟩ := ob_cond_x h95
  obtain ⟨⟨⟨n0, n1, n2⟩, n3, n4⟩, rfl⟩ := ob_gd_x h96
  simp only [Bool.and_eq_true] at hq
  obtain ⟨⟨⟨⟨q1, q2⟩, q3⟩, q4⟩, hw⟩ := hq
  have q1 := ob_beq q1
  have q2 := ob_beq q2
  have h15 : t ≠ 15 := fun q => by rw [q] at q3; cases q3
  have h215 : t2 ≠ 15 := fun q => by rw [q] at q4; cases q4
  have g : (Nat.beq nx (pc + 3) && (ob_in4 ob_SP (ob_ow f) idx 1 && Nat.ble 1 (ob_rk f))) = true := ob_okI_of hok
  rw [Bool.and_eq_true, Bool.and_eq_true] at g
  obtain ⟨hd, rfl⟩ := ob_okd hok g.1
  have hrk : 1 ≤ ob_rk f := Nat.ble_eq.mp g.2.2
  intro LS H locs I
  have hws := ob_wk_sum (w := w) 8 st hw
  have hR := X.2.2.2.2.2.2.2.2.2.2.2
  have hn : ob_r32 n := I.2.2.1 (1, n) List.mem_cons_self
  have hp2 : ob_r32 p2 := I.2.2.1 (1, p2) (List.mem_cons_of_mem _ List.mem_cons_self)
  have hpp : ob_r32 pp := I.2.2.1 (1, pp) (List.mem_cons_of_mem _ (List.mem_cons_of_mem _ (List.mem_cons_of_mem _ List.mem_cons_self)))
  obtain ⟨hoff, h8, hcel, hA, -, -⟩ := ob_arr X I.1 (I.2.2.1 (t + 3, i) (List.mem_cons_of_mem _ (List.mem_cons_of_mem _ (List.mem_cons_of_mem _ (List.mem_cons_of_mem _ List.mem_cons_self))))) h15 (by rw [q1]; decide)
  obtain ⟨hoff2, h82, hcel2, hA2, -, -⟩ := ob_arr X I.1 (I.2.2.1 (t2 + 3, i2) (List.mem_cons_of_mem _ (List.mem_cons_of_mem _ List.mem_cons_self))) h215 (by rw [q2]; decide)
  have n3 : pp + n ≤ ob_ln mm.1 t := n3
  have n4 : p2 + n ≤ ob_ln mm.1 t2 := n4
  rw [ob_ln_n h15] at n3
  rw [ob_ln_n h215] at n4
  have hvv : ∀ (mm : ob_MM) (t : Nat) (i : Int), ¬ t ≤ 8 → (ob_kq t).2.1 = 0 → ob_vl w mm t i = fun (j : Nat) => Value.int (Int32.ofInt (mm.1 t i (j : Int))) := by
    intro mm t i h8 q
    funext j
    exact ob_vl_i (md := (ob_kq t).2.2.2) (by rw [ob_ska h8, ob_kq0 (by rw [q]; decide)])
  rw [hvv mm t i h8 q1] at hcel
  rw [hvv mm t2 i2 h82 q2] at hcel2
  rw [ob_aty_of q1] at hA
  rw [ob_aty_of q2] at hA2
  have hnf : nativeFrameWords "java/lang/System" "arraycopy" 5 ≤ 10 := by decide
  have e1 := ob_i_nat n1 hpp
  have e2 := ob_i_nat n2 hp2
  have e3 := ob_i_nat n0 hn
  have neg : ∀ x : Int, ob_r32 x → 0 ≤ x → ¬ Int32.ofInt x < 0 := fun x hx h0 q => by have := (ob_i_lt hx ob_r0).mp q; omega
  show W p l e R s m args below meth c H locs _ _ Q (F0 m pc LS (Value.int (Int32.ofInt n) :: Value.int (Int32.ofInt p2) :: Value.ref (ob_ad w t2 i2) :: Value.int (Int32.ofInt pp) :: Value.ref (ob_ad w t i) :: List.map (ob_cv w) st))
  rw [ob_ad_n h15, ob_ad_n h215]
  refine ob_Wcopy (g0 := fun j => Int32.ofInt (mm.1 t i (j : Int))) (g1 := fun j => Int32.ofInt (mm.1 t2 i2 (j : Int))) X I.2.1.1 g.2.1 hcel hcel2 hA hA2 (neg _ hpp n1) (neg _ hp2 n2) (neg _ hn n0) (by rw [e1, e3, ob_nsa h8]; omega) (by rw [e2, e3, ob_nsa h82]; omega) (by omega) (by omega) hd fun H1 L c1 c2 c3 c4 => ?_
  refine kk LS H1 _ (ob_Iv_w (mm' := (ob_cpy mm.1 t i pp t2 i2 p2 n, mm.2)) I ?_ ⟨rfl, rfl⟩ (fun v hv => I.2.2.1 v (List.mem_cons_of_mem _ (List.mem_cons_of_mem _ (List.mem_cons_of_mem _ (List.mem_cons_of_mem _ (List.mem_cons_of_mem _ hv)))))) c3 (fun q hq => by rw [c4 q hq]; exact Nat.le_add_right _ _))
  refine ob_Rep_upd I.1 hoff2 c2 c3 ⟨fun q => absurd q h82, fun _ => ?_⟩ (fun k' i' s' q => ?_) (fun _ _ _ _ => rfl) (fun s' => ?_) rfl (fun s' hs' tk md q => ?_) (fun C' hC' => ⟨C', hC', rfl, fun q hq => Or.inl hq⟩)
  · rw [c1, hvv _ t2 i2 h82 q2]
    congr 1
    congr 1
    funext j
    show Value.int (va_cpy _ _ _ _ _ j) = Value.int (Int32.ofInt (ob_cpy mm.1 t i pp t2 i2 p2 n t2 i2 (j : Int)))
    unfold va_cpy ob_cpy
    rw [e1, e2, e3]
    by_cases c : p2 ≤ (j : Int) ∧ (j : Int) < p2 + n
    · rw [if_pos (by omega), if_pos ⟨rfl, rfl, c.1, c.2⟩]
      show Value.int (Int32.ofInt (mm.1 t i ((pp.toNat + (j - p2.toNat) : Nat) : Int))) = _
      rw [show ((pp.toNat + (j - p2.toNat) : Nat) : Int) = pp + ((j : Int) - p2) by omega]
    · rw [if_neg (by omega), if_neg (fun q => c ⟨q.2.2.1, q.2.2.2⟩)]
  · show ob_cpy mm.1 t i pp t2 i2 p2 n k' i' s' = mm.1 k' i' s'
    unfold ob_cpy
    rw [if_neg (fun z => q ⟨z.1, z.2.1⟩)]
  · show ob_r32 (ob_cpy mm.1 t i pp t2 i2 p2 n t2 i2 s')
    unfold ob_cpy
    split
    · exact I.1.2.2.2.1 _ _ _
    · exact I.1.2.2.2.1 _ _ _
  · rw [ob_ska h82, ob_kq0 (by rw [q2]; decide)] at q
    cases q
end ob_Sim5
end
section
-- THE CHECKS PUT TOGETHER; WHAT AN INSTRUCTION DOES TO THE COUNTS; ONE STEP
theorem ob_ckR_e {f : Nat} : ∀ (r : List (Option ob_Ent)) (pc k : Nat) (e : ob_Ent), ob_ckR f pc r = true → ob_nth r k none = some e → ob_ok f (pc + k) e = true
  | [], _, _, _, _, h => by cases h
  | none :: _, _, 0, _, _, h => by cases h
  | some x :: _, pc, 0, e, hc, h => by
    cases h
    have hc : (ob_ok f pc x && ob_ckR f (pc + 1) _) = true := hc
    rw [Bool.and_eq_true] at hc
    exact hc.1
  | none :: l, pc, k + 1, e, hc, h => by
    have q := ob_ckR_e l (pc + 1) k e hc h
    rw [show pc + 1 + k = pc + (k + 1) by omega] at q
    exact q
  | some x :: l, pc, k + 1, e, hc, h => by
    have hc : (ob_ok f pc x && ob_ckR f (pc + 1) l) = true := hc
    rw [Bool.and_eq_true] at hc
    have q := ob_ckR_e l (pc + 1) k e hc.2 h
    rw [show pc + 1 + k = pc + (k + 1) by omega] at q
    exact q
theorem ob_ckC_e {f : Nat} : ∀ (c : List (List (Option ob_Ent))) (pc a : Nat), ob_ckC f pc c = true → ob_ckR f (pc + 16 * a) (ob_nth c a []) = true
  | [], _, _, _ => rfl
  | r :: l, pc, 0, h => by
    have h : ((Nat.beq r.length 16 || l.isEmpty) && ob_ckR f pc r && ob_ckC f (pc + 16) l) = true := h
    rw [Bool.and_eq_true, Bool.and_eq_true] at h
    exact h.1.2
  | r :: l, pc, a + 1, h => by
    have h : ((Nat.beq r.length 16 || l.isEmpty) && ob_ckR f pc r && ob_ckC f (pc + 16) l) = true := h
    rw [Bool.and_eq_true, Bool.and_eq_true] at h
    have q := ob_ckC_e l (pc + 16) a h.2
    rw [show pc + 16 + 16 * a = pc + 16 * (a + 1) by omega] at q
    exact q
theorem ob_ckAll {f : Nat} (h : f < 240) (h2 : f ≠ 238) : ob_ckF f = true := by
  by_cases c0 : f < 16
  · exact List.all_eq_true.mp ob_ck0 f (List.mem_range'_1.mpr ⟨by omega, by omega⟩)
  by_cases c1 : f < 32
  · exact List.all_eq_true.mp ob_ck1 f (List.mem_range'_1.mpr ⟨by omega, by omega⟩)
  by_cases c2 : f < 48
  · exact List.all_eq_true.mp ob_ck2 f (List.mem_range'_1.mpr ⟨by omega, by omega⟩)
  by_cases c3 : f < 64
  · exact List.all_eq_true.mp ob_ck3 f (List.mem_range'_1.mpr ⟨by omega, by omega⟩)
  by_cases c4 : f < 80
  · exact List.all_eq_true.mp ob_ck4 f (List.mem_range'_1.mpr ⟨by omega, by omega⟩)
  by_cases c5 : f < 96
  · exact List.all_eq_true.mp ob_ck5 f (List.mem_range'_1.mpr ⟨by omega, by omega⟩)
  by_cases c6 : f < 112
  · exact List.all_eq_true.mp ob_ck6 f (List.mem_range'_1.mpr ⟨by omega, by omega⟩)
  by_cases c7 : f < 128
  · exact List.all_eq_true.mp ob_ck7 f (List.mem_range'_1.mpr ⟨by omega, by omega⟩)
  by_cases c8 : f < 144
  · exact List.all_eq_true.mp ob_ck8 f (List.mem_range'_1.mpr ⟨by omega, by omega⟩)
  by_cases c9 : f < 160
  · exact List.all_eq_true.mp ob_ck9 f (List.mem_range'_1.mpr ⟨by omega, by omega⟩)
  by_cases c10 : f < 176
  · exact List.all_eq_true.mp ob_ck10 f (List.mem_range'_1.mpr ⟨by omega, by omega⟩)
  by_cases c11 : f < 192
  · exact List.all_eq_true.mp ob_ck11 f (List.mem_range'_1.mpr ⟨by omega, by omega⟩)
  by_cases c12 : f < 208
  · exact List.all_eq_true.mp ob_ck12 f (List.mem_range'_1.mpr ⟨by omega, by omega⟩)
  by_cases c13 : f < 224
  · exact List.all_eq_true.mp ob_ck13 f (List.mem_range'_1.mpr ⟨by omega, by omega⟩)
  by_cases c14 : f < 238
  · exact List.all_eq_true.mp ob_ck14 f (List.mem_range'_1.mpr ⟨by omega, by omega⟩)
  obtain rfl : f = 239 := by omega
  exact ob_ck15
theorem ob_clAll {a : Nat} : ob_ckR 238 (16 * a) (ob_nth ob_c_L_law a []) = true := by
  by_cases c0 : a < 8
  · exact List.all_eq_true.mp ob_cl0 a (List.mem_range'_1.mpr ⟨by omega, by omega⟩)
  by_cases c1 : a < 16
  · exact List.all_eq_true.mp ob_cl1 a (List.mem_range'_1.mpr ⟨by omega, by omega⟩)
  by_cases c2 : a < 24
  · exact List.all_eq_true.mp ob_cl2 a (List.mem_range'_1.mpr ⟨by omega, by omega⟩)
  by_cases c3 : a < 32
  · exact List.all_eq_true.mp ob_cl3 a (List.mem_range'_1.mpr ⟨by omega, by omega⟩)
  by_cases c4 : a < 40
  · exact List.all_eq_true.mp ob_cl4 a (List.mem_range'_1.mpr ⟨by omega, by omega⟩)
  by_cases c5 : a < 48
  · exact List.all_eq_true.mp ob_cl5 a (List.mem_range'_1.mpr ⟨by omega, by omega⟩)
  by_cases c6 : a < 56
  · exact List.all_eq_true.mp ob_cl6 a (List.mem_range'_1.mpr ⟨by omega, by omega⟩)
  by_cases c7 : a < 63
  · exact List.all_eq_true.mp ob_cl7 a (List.mem_range'_1.mpr ⟨by omega, by omega⟩)
  have hl : ob_c_L_law.length = 63 := by decide +kernel
  rw [ob_nth_ge _ _ _ (by rw [hl]; omega)]
  rfl
theorem ob_allok {f pc : Nat} {x : ob_Ent} (h : ob_code f pc = some x) : ob_ok f pc x = true ∧ f < 240 := by
  have hf : f < 240 := by
    refine Nat.not_le.mp fun q => ?_
    have hl : ob_codes.length = 15 := by decide +kernel
    unfold ob_code at h
    rw [ob_nth_ge _ ob_codes (f / 16) (by rw [hl]; omega)] at h
    cases h
  refine ⟨?_, hf⟩
  unfold ob_code at h
  have e : 16 * (pc / 16) + pc % 16 = pc := by omega
  by_cases q : f = 238
  · subst q
    have z := ob_ckR_e _ (16 * (pc / 16)) (pc % 16) x (ob_clAll (a := pc / 16)) h
    rw [e] at z
    exact z
  · have z := ob_ckC_e _ 0 (pc / 16) (ob_ckAll hf q)
    rw [Nat.zero_add] at z
    have z := ob_ckR_e _ _ (pc % 16) x z h
    rw [e] at z
    exact z
def ob_mle (a b : ob_MM) : Prop := ob_nA a ≤ ob_nA b ∧ ob_nS a ≤ ob_nS b
theorem ob_mle_r (a : ob_MM) : ob_mle a a := ⟨Nat.le_refl _, Nat.le_refl _⟩
theorem ob_mle_t {a b c : ob_MM} (h : ob_mle a b) (h2 : ob_mle b c) : ob_mle a c := ⟨Nat.le_trans h.1 h2.1, Nat.le_trans h.2 h2.2⟩
theorem ob_mle_s (m m' : ob_Mem) (c : Option ob_CI) : ob_mle (m, c) (m', c) := ⟨Nat.le_refl _, Nat.le_refl _⟩
theorem ob_mle_a (m m' : ob_Mem) (c : Option ob_CI) (k : Nat) (i s : Int) : ob_mle (m, c) (m', ob_add c k i s) := ⟨Nat.le_of_eq (ob_add_nA m m' c k i s).1.symm, Nat.le_of_eq (ob_add_nA m m' c k i s).2.symm⟩
def ob_mo (mm : ob_MM) (a : ob_Ac) : Prop := match a with
  | .inl none => True
  | .inl (some r) => ob_mle mm r.2
  | .inr (.inl S) => ob_mle mm S.2.2.2.2
  | .inr (.inr (.inl q)) => ob_mle mm q.2.1.2.2.2.2 ∧ ob_mle mm q.2.2.2.2.2.2
  | .inr (.inr (.inr (.inl q))) => ob_mle mm q.2.2.2.2.2
  | .inr (.inr (.inr (.inr (.inl q)))) => ob_mle mm q.1.2.2.2.2 ∧ ∀ v mm', ob_mle mm' (q.2 v mm').2.2.2.2
  | .inr (.inr (.inr (.inr (.inr q)))) => (∀ x ∈ q.2.1, ob_mle mm x.2.2.2.2.2) ∧ ob_mle mm q.2.2.2.2.2.2
section ob_Mo
variable {mm : ob_MM} {st ls : List ob_AV}
theorem ob_mo_i1 {K : Int → List ob_AV → ob_Ac} (h : ∀ a r, ob_mo mm (K a r)) : ob_mo mm (ob_i1 st K) := by
  unfold ob_i1
  split
  · exact h _ _
  · trivial
theorem ob_mo_l1 {K : Int → List ob_AV → ob_Ac} (h : ∀ a r, ob_mo mm (K a r)) : ob_mo mm (ob_l1 st K) := by
  unfold ob_l1
  split
  · exact h _ _
  · trivial
theorem ob_mo_r1 {K : Nat → Int → List ob_AV → ob_Ac} (h : ∀ t a r, ob_mo mm (K t a r)) : ob_mo mm (ob_r1 st K) := by
  unfold ob_r1
  split
  · exact h _ _ _
  · trivial
theorem ob_mo_v1 {K : ob_AV → List ob_AV → ob_Ac} (h : ∀ a r, ob_mo mm (K a r)) : ob_mo mm (ob_v1 st K) := by
  unfold ob_v1
  split
  · trivial
  · cases Nat.beq _ 2
    · exact h _ _
    · trivial
theorem ob_mo_ldi {k : Nat} {K : Int → ob_Ac} (h : ∀ a, ob_mo mm (K a)) : ob_mo mm (ob_ldi ls k K) := by
  unfold ob_ldi
  split
  · exact h _
  · trivial
theorem ob_mo_ldl {k : Nat} {K : Int → ob_Ac} (h : ∀ a, ob_mo mm (K a)) : ob_mo mm (ob_ldl ls k K) := by
  unfold ob_ldl
  split
  · exact h _
  · trivial
theorem ob_mo_ldr {k : Nat} {K : Nat → Int → ob_Ac} (h : ∀ t a, ob_mo mm (K t a)) : ob_mo mm (ob_ldr ls k K) := by
  unfold ob_ldr
  split
  · exact h _ _
  · trivial
theorem ob_mo_sto {k : Nat} {v : ob_AV} {K : List ob_AV → ob_Ac} (h : ∀ a, ob_mo mm (K a)) : ob_mo mm (ob_sto ls k v K) := by
  unfold ob_sto
  split
  · exact h _
  · split
    cases Nat.beq _ 2
    · exact h _
    · trivial
theorem ob_mo_cond {b : Bool} {a a' : ob_Ac} (h : ob_mo mm a) (h' : ob_mo mm a') : ob_mo mm (cond b a a') := by
  cases b
  · exact h'
  · exact h
theorem ob_mo_cnd {cd : ClassFile.Cond} {a b : Int} {S S' : ob_St} (h : ob_mle mm S.2.2.2.2) (h' : ob_mle mm S'.2.2.2.2) : ob_mo mm (ob_cnd cd a b S S') := by
  cases cd <;> first | exact ⟨h, h'⟩ | exact ⟨h', h⟩
theorem ob_mo_seal {K : ob_MM → ob_Ac} (h : ∀ mm', ob_mle mm mm' → ob_mo mm (K mm')) : ob_mo mm (ob_seal mm K) := by
  unfold ob_seal
  split
  · trivial
  · rename_i C e
    cases q : ob_full C with
    | false => trivial
    | true =>
      obtain ⟨f1, f2, -⟩ := ob_full_in q
      refine h _ ⟨?_, ?_⟩
      · unfold ob_nA
        rw [e]
        exact Nat.le_of_eq f1
      · unfold ob_nS
        rw [e]
        exact Nat.le_of_eq f2
theorem ob_mo_stat {c : Option ob_CI} {K : Unit → ob_Ac} (h : ob_mo mm (K ())) : ob_mo mm (ob_stat c K) := by
  unfold ob_stat
  split
  · trivial
  · exact h
theorem ob_mo_new {k f nx n : Nat} : ob_mo mm (ob_new k f nx ls st n mm) := by
  obtain ⟨m0, cc⟩ := mm
  cases cc with
  | none => trivial
  | some C =>
    refine ob_mo_cond ?_ trivial
    exact ⟨Nat.le_succ _, Nat.le_add_right _ _⟩
theorem ob_mo_inv {vt : Bool} {aux : List Nat} {f nx : Nat} : ob_mo mm (ob_inv vt aux f nx ls st mm) := by
  unfold ob_inv
  split
  · trivial
  · exact ob_mo_cond ⟨ob_mle_r _, fun v mm' => ob_mle_r _⟩ trivial
set_option maxRecDepth 100000 in
set_option maxHeartbeats 4000000 in
theorem ob_mo_ins {nx f : Nat} {aux : List Nat} {z : Int} (ins : Instr) : ob_mo mm (ob_ins ins nx aux z f ls st mm) := by
  cases ins
  case aaload =>
    exact ob_mo_i1 fun _ _ => ob_mo_r1 fun _ _ _ => ob_mo_cond (ob_mle_r _) trivial
  case aastore =>
    exact ob_mo_r1 fun _ _ _ => ob_mo_i1 fun _ _ => ob_mo_r1 fun _ _ _ => ob_mo_cond (by
        split
        · exact ob_mle_a _ _ _ _ _ _
        · exact ob_mo_stat (ob_mle_a _ _ _ _ _ _)) trivial
  case aconst_null => trivial
  case aload =>
    exact ob_mo_ldr fun _ _ => ob_mle_r _
  case aload_n =>
    exact ob_mo_ldr fun _ _ => ob_mle_r _
  case anewarray =>
    exact ob_mo_i1 fun _ _ => ob_mo_cond ob_mo_new trivial
  case areturn => trivial
  case arraylength =>
    exact ob_mo_r1 fun _ _ _ => ob_mo_cond (ob_mle_r _) trivial
  case astore =>
    exact ob_mo_r1 fun _ _ _ => ob_mo_sto fun _ => ob_mle_r _
  case astore_n =>
    exact ob_mo_r1 fun _ _ _ => ob_mo_sto fun _ => ob_mle_r _
  case athrow => trivial
  case baload =>
    exact ob_mo_i1 fun _ _ => ob_mo_r1 fun _ _ _ => ob_mo_cond (ob_mle_r _) trivial
  case bastore =>
    exact ob_mo_i1 fun _ _ => ob_mo_i1 fun _ _ => ob_mo_r1 fun _ _ _ => by
        split
        · exact ob_mle_s _ _ _
        · exact ob_mle_s _ _ _
        · trivial
  case bipush =>
    exact ob_mle_r _
  case caload => trivial
  case castore => trivial
  case checkcast => trivial
  case d2f => trivial
  case d2i => trivial
  case d2l => trivial
  case dadd => trivial
  case daload => trivial
  case dastore => trivial
  case dcmp => trivial
  case dconst => trivial
  case ddiv => trivial
  case dload => trivial
  case dload_n => trivial
  case dmul => trivial
  case dneg => trivial
  case drem => trivial
  case dreturn => trivial
  case dstore => trivial
  case dstore_n => trivial
  case dsub => trivial
  case dup =>
    exact ob_mo_v1 (K := fun v st => ob_go (f, nx, ls, v :: v :: st, mm)) fun _ _ => ob_mle_r _
  case dup_x1 => trivial
  case dup_x2 => trivial
  case dup2 =>
    exact ob_mo_v1 (K := fun v st => ob_v1 st (fun w st => ob_go (f, nx, ls, v :: w :: v :: w :: st, mm))) fun v st => ob_mo_v1 (K := fun w st => ob_go (f, nx, ls, v :: w :: v :: w :: st, mm)) fun _ _ => ob_mle_r _
  case dup2_x1 => trivial
  case dup2_x2 => trivial
  case f2d => trivial
  case f2i => trivial
  case f2l => trivial
  case fadd => trivial
  case faload => trivial
  case fastore => trivial
  case fcmp => trivial
  case fconst => trivial
  case fdiv => trivial
  case fload => trivial
  case fload_n => trivial
  case fmul => trivial
  case fneg => trivial
  case frem => trivial
  case freturn => trivial
  case fstore => trivial
  case fstore_n => trivial
  case fsub => trivial
  case getfield =>
    exact ob_mo_r1 fun _ _ _ => ob_mo_cond (by
        split
        · exact ob_mle_r _
        · exact ob_mo_cond (ob_mle_r _) trivial) trivial
  case getstatic => trivial
  case goto =>
    exact ob_mle_r _
  case goto_w => trivial
  case i2b =>
    exact ob_mo_i1 fun _ _ => ob_mle_r _
  case i2c => trivial
  case i2d => trivial
  case i2f => trivial
  case i2l =>
    exact ob_mo_i1 fun _ _ => ob_mle_r _
  case i2s => trivial
  case iadd =>
    exact ob_mo_i1 fun _ _ => ob_mo_i1 fun _ _ => ob_mle_r _
  case iaload =>
    exact ob_mo_i1 fun _ _ => ob_mo_r1 fun _ _ _ => ob_mo_cond (ob_mle_r _) trivial
  case iand =>
    exact ob_mo_i1 fun _ _ => ob_mo_i1 fun _ _ => ob_mle_r _
  case iastore =>
    exact ob_mo_i1 fun _ _ => ob_mo_i1 fun _ _ => ob_mo_r1 fun _ _ _ => ob_mo_cond (ob_mle_s _ _ _) trivial
  case iconst =>
    exact ob_mle_r _
  case idiv =>
    exact ob_mo_i1 fun _ _ => ob_mo_i1 fun _ _ => ob_mle_r _
  case if_acmp => trivial
  case if_icmp =>
    exact ob_mo_i1 fun _ _ => ob_mo_i1 fun _ _ => ob_mo_cnd (ob_mle_r _) (ob_mle_r _)
  case ifCond =>
    exact ob_mo_i1 fun _ _ => ob_mo_cnd (ob_mle_r _) (ob_mle_r _)
  case ifnonnull => trivial
  case ifnull => trivial
  case iinc =>
    exact ob_mo_ldi fun _ => ob_mle_r _
  case iload =>
    exact ob_mo_ldi fun _ => ob_mle_r _
  case iload_n =>
    exact ob_mo_ldi fun _ => ob_mle_r _
  case imul =>
    exact ob_mo_i1 fun _ _ => ob_mo_i1 fun _ _ => ob_mle_r _
  case ineg => trivial
  case instanceof => trivial
  case invokedynamic => trivial
  case invokeinterface => trivial
  case invokespecial idx =>
    show ob_mo mm (match aux with
      | [0] => ob_r1 st _
      | _ => ob_inv true aux f nx ls st mm)
    split
    · exact ob_mo_r1 fun _ _ _ => ob_mo_cond (ob_mle_r _) trivial
    · exact ob_mo_inv
  case invokestatic idx =>
    show ob_mo mm (match aux with
      | [1] => ob_i1 st _
      | [2] => ob_i1 st _
      | [3] => ob_i1 st _
      | [4] => ob_i1 st _
      | _ => ob_inv false aux f nx ls st mm)
    split
    · exact ob_mo_i1 fun _ _ => ob_mo_i1 fun _ _ => ob_mo_r1 fun _ _ _ => ob_mo_i1 fun _ _ => ob_mo_r1 fun _ _ _ => ob_mo_cond (ob_mle_s _ _ _) trivial
    · exact ob_mo_i1 fun _ _ => ob_mo_i1 fun _ _ => ob_mo_cond (ob_mle_r _) trivial
    · exact ob_mo_i1 fun _ _ => ob_mo_i1 fun _ _ => ob_mo_cond (ob_mle_r _) trivial
    · exact ob_mo_i1 fun _ _ => ob_mo_cond (ob_mle_r _) trivial
    · exact ob_mo_inv
  case invokevirtual =>
    exact ob_mo_inv
  case ior =>
    exact ob_mo_i1 fun _ _ => ob_mo_i1 fun _ _ => ob_mle_r _
  case irem =>
    exact ob_mo_i1 fun _ _ => ob_mo_i1 fun _ _ => ob_mle_r _
  case ireturn =>
    show ob_mo mm (match st with
      | [(1, a)] => match ob_nth aux 0 0 with
        | 0 => ob_stop (some (a, mm))
        | _ => ob_stop (if a = 0 ∨ a = 1 then some (a, mm) else none)
      | _ => ob_stop none)
    split
    · split
      · exact ob_mle_r _
      · rename_i a _ _
        by_cases q : a = 0 ∨ a = 1
        · rw [if_pos q]
          exact ob_mle_r _
        · rw [if_neg q]
          trivial
    · trivial
  case ishl =>
    exact ob_mo_i1 fun _ _ => ob_mo_i1 fun _ _ => ob_mle_r _
  case ishr =>
    exact ob_mo_i1 fun _ _ => ob_mo_i1 fun _ _ => ob_mle_r _
  case istore =>
    exact ob_mo_i1 fun _ _ => ob_mo_sto fun _ => ob_mle_r _
  case istore_n =>
    exact ob_mo_i1 fun _ _ => ob_mo_sto fun _ => by cases aux with
        | nil => exact ob_mle_r _
        | cons _ _ => exact ob_mo_seal fun _ h => h
  case isub =>
    exact ob_mo_i1 fun _ _ => ob_mo_i1 fun _ _ => ob_mle_r _
  case iushr => trivial
  case ixor => trivial
  case jsr => trivial
  case jsr_w => trivial
  case l2d => trivial
  case l2f => trivial
  case l2i => trivial
  case ladd =>
    exact ob_mo_l1 fun _ _ => ob_mo_l1 fun _ _ => ob_mle_r _
  case laload => trivial
  case land => trivial
  case lastore => trivial
  case lcmp =>
    exact ob_mo_l1 fun _ _ => ob_mo_l1 fun _ _ => ob_mle_r _
  case lconst =>
    exact ob_mle_r _
  case ldc =>
    exact ob_mle_r _
  case ldc_w => trivial
  case ldc2_w =>
    exact ob_mle_r _
  case ldiv => trivial
  case lload =>
    exact ob_mo_ldl fun _ => ob_mle_r _
  case lload_n =>
    exact ob_mo_ldl fun _ => ob_mle_r _
  case lmul =>
    exact ob_mo_l1 fun _ _ => ob_mo_l1 fun _ _ => ob_mle_r _
  case lneg => trivial
  case lookupswitch =>
    exact ob_mo_i1 fun _ _ => ⟨fun x hx => by
        obtain ⟨q, -, hq⟩ := List.mem_map.mp hx
        rw [← hq]
        exact ob_mle_r _, ob_mle_r _⟩
  case lor => trivial
  case lrem => trivial
  case lreturn =>
    show ob_mo mm (match st with
      | [(2, a)] => ob_stop (some (a, mm))
      | _ => ob_stop none)
    split
    · exact ob_mle_r _
    · trivial
  case lshl => trivial
  case lshr => trivial
  case lstore =>
    exact ob_mo_l1 fun _ _ => ob_mo_sto fun _ => ob_mle_r _
  case lstore_n =>
    exact ob_mo_l1 fun _ _ => ob_mo_sto fun _ => ob_mle_r _
  case lsub => trivial
  case lushr => trivial
  case lxor => trivial
  case monitorenter => trivial
  case monitorexit => trivial
  case multianewarray => trivial
  case new =>
    exact ob_mo_new
  case newarray =>
    exact ob_mo_i1 fun _ _ => ob_mo_cond ob_mo_new trivial
  case nop => trivial
  case pop =>
    exact ob_mo_v1 (K := fun _ st => ob_go (f, nx, ls, st, mm)) fun _ _ => ob_mle_r _
  case pop2 => trivial
  case putfield =>
    show ob_mo mm (match ob_nth aux 2 0 with
      | 0 => ob_i1 st _
      | tk + 1 => ob_r1 st _)
    split
    · exact ob_mo_i1 fun _ _ => ob_mo_r1 fun _ _ _ => ob_mo_cond (by
        split
        · exact ob_mle_s _ _ _
        · exact ob_mle_s _ _ _) trivial
    · exact ob_mo_r1 fun _ _ _ => ob_mo_r1 fun _ _ _ => ob_mo_cond (by
        split
        · exact ob_mle_a _ _ _ _ _ _
        · exact ob_mo_stat (ob_mle_a _ _ _ _ _ _)) trivial
  case putstatic => trivial
  case ret => trivial
  case return_ =>
    show ob_mo mm (match st with
      | [] => ob_stop (some (0, mm))
      | _ => ob_stop none)
    split
    · exact ob_mle_r _
    · trivial
  case saload => trivial
  case sastore => trivial
  case sipush =>
    exact ob_mle_r _
  case swap => trivial
  case tableswitch =>
    exact ob_mo_i1 fun _ _ => ⟨fun x hx => by
        obtain ⟨q, -, hq⟩ := List.mem_map.mp hx
        rw [← hq]
        exact ob_mle_r _, ob_mle_r _⟩
end ob_Mo
theorem ob_swi_mo {X : ob_St → ob_Res} (hX : ∀ S r, X S = some r → ob_mle S.2.2.2.2 r.2) {mm : ob_MM} {v : Int} {d : ob_St} {r : Int × ob_MM} : ∀ cs : List (Int × ob_St), ob_swi X v cs d = some r → (∀ x ∈ cs, ob_mle mm x.2.2.2.2.2) → ob_mle mm d.2.2.2.2 → ob_mle mm r.2
  | [], h, _, h2 => ob_mle_t h2 (hX _ _ h)
  | q :: cs, h, h1, h2 => by
    unfold ob_swi at h
    by_cases c : v = q.1
    · rw [if_pos c] at h
      exact ob_mle_t (h1 q List.mem_cons_self) (hX _ _ h)
    · rw [if_neg c] at h
      exact ob_swi_mo hX cs h (fun x hx => h1 x (List.mem_cons_of_mem _ hx)) h2
theorem ob_int_mo {X : ob_St → ob_Res} (hX : ∀ S r, X S = some r → ob_mle S.2.2.2.2 r.2) {mm : ob_MM} (a : ob_Ac) {r : Int × ob_MM} (h : ob_int X X a = some r) (hm : ob_mo mm a) : ob_mle mm r.2 := by
  match a, h, hm with
  | .inl none, h, _ => cases h
  | .inl (some q), h, hm =>
    cases h
    exact hm
  | .inr (.inl S), h, hm => exact ob_mle_t hm (hX _ _ h)
  | .inr (.inr (.inl (⟨d, i⟩, S1, S2))), h, hm =>
    have h : @ite _ d i (X S1) (X S2) = some r := h
    by_cases q : d
    · rw [if_pos q] at h
      exact ob_mle_t hm.1 (hX _ _ h)
    · rw [if_neg q] at h
      exact ob_mle_t hm.2 (hX _ _ h)
  | .inr (.inr (.inr (.inl (⟨d, i⟩, S)))), h, hm =>
    have h : @ite _ d i (X S) none = some r := h
    by_cases q : d
    · rw [if_pos q] at h
      exact ob_mle_t hm (hX _ _ h)
    · rw [if_neg q] at h
      cases h
  | .inr (.inr (.inr (.inr (.inl (S, k))))), h, hm =>
    obtain ⟨q, h1, h2⟩ := Option.bind_eq_some_iff.mp h
    exact ob_mle_t hm.1 (ob_mle_t (hX _ _ h1) (ob_mle_t (hm.2 q.1 q.2) (hX _ _ h2)))
  | .inr (.inr (.inr (.inr (.inr (v, cs, d))))), h, hm => exact ob_swi_mo hX cs h hm.1 hm.2
theorem ob_mono : ∀ (n : Nat) (S : ob_St) (r : Int × ob_MM), ob_ex n S = some r → ob_mle S.2.2.2.2 r.2
  | 0, _, _, h => by cases h
  | n + 1, (f, pc, ls, st, mm), r, h => by
    refine ob_int_mo (ob_mono n) (ob_act (f, pc, ls, st, mm)) h ?_
    show ob_mo mm (match ob_code f pc with
      | none => ob_stop none
      | some (ins, nx, aux, z) => ob_ins ins nx aux z f ls st mm)
    split
    · trivial
    · exact ob_mo_ins _
end
section
-- CALLS: a run of a method is its contract
theorem ob_rep_nth : ∀ (n k : Nat), ob_nth (ob_rep n) k (0, 0) = (0, 0)
  | 0, _ => rfl
  | _ + 1, 0 => rfl
  | n + 1, k + 1 => ob_rep_nth n k
theorem ob_rep_len : ∀ n : Nat, (ob_rep n).length = n
  | 0 => rfl
  | n + 1 => congrArg (· + 1) (ob_rep_len n)
theorem ob_wk_2 {n : Nat} {x : Int} {r : List ob_AV} (h : ob_wk n ((2, x) :: r) = true) : ∃ k, n = k + 2 ∧ ob_wk k r = true := by
  match n, h with
  | 0, h => cases h
  | 1, h => cases h
  | k + 2, h => exact ⟨k, rfl, h⟩
theorem ob_wk_1 {n t : Nat} {x : Int} {r : List ob_AV} (ht : t ≠ 2) (h : ob_wk n ((t, x) :: r) = true) : ∃ k, n = k + 1 ∧ ob_wk k r = true := by
  match n, h with
  | 0, h => cases h
  | k + 1, h =>
    have h : cond (Nat.beq t 2) _ (ob_wk k r) = true := h
    rw [show Nat.beq t 2 = false from by
      cases e : Nat.beq t 2 with
      | false => rfl
      | true => exact absurd (ob_beq e) ht] at h
    exact ⟨k, rfl, h⟩
theorem ob_mkL_1 {t n : Nat} {x : Int} {vs : List ob_AV} (ht : t ≠ 2) : ob_mkL ((t, x) :: vs) (n + 1) = (t, x) :: ob_mkL vs n := by
  match t, ht with
  | 0, _ => cases n <;> rfl
  | 1, _ => cases n <;> rfl
  | 2, h => exact absurd rfl h
  | _ + 3, _ => cases n <;> rfl
theorem ob_mkL_len : ∀ (as : List ob_AV) (n : Nat), ob_wk n as = true → (ob_mkL as n).length = n
  | [], n, _ => ob_rep_len n
  | (t, x) :: vs, n, h => by
    by_cases ht : t = 2
    · subst ht
      obtain ⟨k, rfl, hk⟩ := ob_wk_2 h
      show (ob_mkL vs k).length + 1 + 1 = k + 2
      rw [ob_mkL_len vs k hk]
    · obtain ⟨k, rfl, hk⟩ := ob_wk_1 ht h
      rw [ob_mkL_1 ht]
      show (ob_mkL vs k).length + 1 = k + 1
      rw [ob_mkL_len vs k hk]
theorem ob_lg_len {w : ob_Wd} : ∀ (as : List ob_AV) (n : Nat), ob_wk n as = true → (lg_sl (as.map (ob_cv w))).length ≤ n
  | [], n, _ => Nat.zero_le n
  | (t, x) :: vs, n, h => by
    by_cases ht : t = 2
    · subst ht
      obtain ⟨k, rfl, hk⟩ := ob_wk_2 h
      have q := ob_lg_len (w := w) vs k hk
      show (([.val (ob_cv w (2, x)), .second] : List Slot) ++ lg_sl (vs.map (ob_cv w))).length ≤ k + 2
      simp only [List.length_append, List.length_cons, List.length_nil]
      omega
    · obtain ⟨k, rfl, hk⟩ := ob_wk_1 ht h
      have q := ob_lg_len (w := w) vs k hk
      have c1 : (ob_cv w (t, x)).category = 1 := ob_cat ht
      show ((if (ob_cv w (t, x)).category = 2 then [.val (ob_cv w (t, x)), .second] else [.val (ob_cv w (t, x))] : List Slot) ++ lg_sl (vs.map (ob_cv w))).length ≤ k + 1
      rw [if_neg (by rw [c1]; decide)]
      simp only [List.length_append, List.length_cons, List.length_nil]
      omega
theorem ob_mkL_args {w : ob_Wd} : ∀ (as : List ob_AV) (n k i0 : Nat), ob_wk n as = true → (ob_nth (ob_mkL as n) k (0, 0)).1 ≠ 0 → (i0 + k, ob_cv w (ob_nth (ob_mkL as n) k (0, 0))) ∈ lv_args i0 (as.map (ob_cv w)) ∧ ob_nth (ob_mkL as n) k (0, 0) ∈ as
  | [], n, k, i0, _, h => by
    rw [show ob_mkL [] n = ob_rep n from rfl, ob_rep_nth] at h
    exact absurd rfl h
  | (t, x) :: vs, n, k, i0, hw, h => by
    by_cases ht : t = 2
    · subst ht
      obtain ⟨j, rfl, hj⟩ := ob_wk_2 hw
      have e : ob_mkL ((2, x) :: vs) (j + 2) = (2, x) :: (0, 0) :: ob_mkL vs j := rfl
      rw [e] at h ⊢
      match k, h with
      | 0, h => exact ⟨List.mem_cons_self, List.mem_cons_self⟩
      | 1, h => exact absurd rfl h
      | k + 2, h =>
        have q := ob_mkL_args (w := w) vs j k (i0 + 2) hj h
        refine ⟨List.mem_cons_of_mem _ ?_, List.mem_cons_of_mem _ q.2⟩
        have q1 := q.1
        rw [show i0 + 2 + k = i0 + (k + 2) by omega] at q1
        exact q1
    · obtain ⟨j, rfl, hj⟩ := ob_wk_1 ht hw
      rw [ob_mkL_1 ht] at h ⊢
      match k, h with
      | 0, h => exact ⟨List.mem_cons_self, List.mem_cons_self⟩
      | k + 1, h =>
        have q := ob_mkL_args (w := w) vs j k (i0 + 1) hj h
        refine ⟨List.mem_cons_of_mem _ ?_, List.mem_cons_of_mem _ q.2⟩
        have q1 := q.1
        rw [show i0 + 1 + k = i0 + (k + 1) by omega] at q1
        rw [if_neg (by rw [ob_cat ht]; decide)]
        exact q1
theorem ob_pop_e : ∀ (n : Nat) (acc st as r : List ob_AV), ob_pop n acc st = some (as, r) → ∃ fr, st = fr ++ r ∧ as = fr.reverse ++ acc ∧ fr.length = n
  | 0, acc, st, as, r, h => by
    cases h
    exact ⟨[], rfl, rfl, rfl⟩
  | n + 1, acc, [], as, r, h => by cases h
  | n + 1, acc, v :: st, as, r, h => by
    obtain ⟨fr, h1, h2, h3⟩ := ob_pop_e n (v :: acc) st as r h
    refine ⟨v :: fr, by rw [h1]; rfl, ?_, congrArg (· + 1) h3⟩
    rw [h2, List.reverse_cons, List.append_assoc]
    rfl
def ob_rsv (f : Nat) (r : Int) : Option Value := match ob_rt f with
  | none => none
  | some .long => some (.long (Int64.ofInt r))
  | _ => some (.int (Int32.ofInt r))
def ob_rok (f pc : Nat) (r : Int) : Prop := match ob_rt f with
  | none => decode (ob_by f) pc = .ok (.return_, 1)
  | some .long => decode (ob_by f) pc = .ok (.lreturn, 1) ∧ ob_r64 r
  | some .int => decode (ob_by f) pc = .ok (.ireturn, 1) ∧ ob_r32 r
  | some .boolean => decode (ob_by f) pc = .ok (.ireturn, 1) ∧ (r = 0 ∨ r = 1)
  | _ => False
def ob_rr (f : Nat) (r : Int) : Prop := match ob_rt f with
  | none => True
  | some .long => ob_r64 r
  | _ => ob_r32 r
/-- what a method's end owes -/
def ob_Re (w : ob_Wd) (p : Program) (l : Launch) (e : Env) (R : Room) (s : State) (m : MethodId) (args : Array Value) (below : List Frame) (meth : Method) (c : Code) (Q : State → Prop) (c0 s0 f : Nat) (r : Int) (mm : ob_MM) : Prop :=
  ∀ (pc : Nat) (LS : Array Slot) (H : Heap) (locs : List Loc), ob_rok f pc r → ob_Rep w mm H → (∀ q : Nat, q < ob_sz w → H[q]? = s.heap[q]?) → (∀ q ∈ locs, ob_sz w ≤ q.base) → W p l e R s m args below meth c H locs (ob_nA mm - c0) (ob_nS mm - s0) Q (F0 m pc LS (ob_rsv f r).toList)
/-- a run of n steps is sound -/
def ob_Snd (w : ob_Wd) (n : Nat) : Prop := ∀ (f pc : Nat) (ls st : List ob_AV) (mm : ob_MM) (r : Int) (mm' : ob_MM), ob_ex n (f, pc, ls, st, mm) = some (r, mm') → ∀ (p : Program) (l : Launch) (e : Env) (R : Room) (s : State) (m : MethodId) (args : Array Value) (below : List Frame) (meth : Method) (c : Code) (Q : State → Prop) (c0 s0 : Nat), ob_Cx w p R s m args meth c f → ob_nA mm' ≤ R.cells + c0 → ob_nS mm' ≤ R.slots + s0 → ob_Re w p l e R s m args below meth c Q c0 s0 f r mm' → ob_At w p l e R s m args below meth c Q c0 s0 (ob_mx f) (f, pc, ls, st, mm)
def ob_rm (f : Nat) (a b : ob_MM) : Room := { frames := ob_rk f, cells := ob_nA b - ob_nA a, slots := ob_nS b - ob_nS a, locals := 38 * ob_rk f }
def ob_ws (f : Nat) : List Cond := Cond.code (ob_y f) (ob_by f) (ob_mx f) (ob_rt f) :: ob_gt
def ob_Pc (w : ob_Wd) (as : List ob_AV) (mm : ob_MM) : Array Value → State → Prop := fun v U => v = (as.map (ob_cv w)).toArray ∧ ob_Rep w mm U.heap ∧ ob_KK w U ∧ va_X (ob_b w) (ob_L w) (ob_xs w) U U.heap
def ob_Qc (w : ob_Wd) (f : Nat) (r : Int) (mm : ob_MM) : Array Value → State → Outcome → State → Prop := fun _ st oc t => oc = .returned (ob_rsv f r) ∧ ob_Rep w mm t.heap ∧ ob_rr f r ∧ ∀ q : Nat, q < ob_sz w → t.heap[q]? = st.heap[q]?
theorem ob_plain : ∀ f, f < 240 → f ≠ 238 → plainName (ob_y f).cls = true ∧ (ob_y f).cls ≠ "java/lang/invoke/MethodHandle" ∧ (ob_y f).cls ≠ "java/lang/invoke/VarHandle" := by decide +kernel
theorem ob_met {w : ob_Wd} {n f : Nat} {as : List ob_AV} {mm mm' : ob_MM} {r : Int} (l : Launch) (hS : ob_Snd w n) (hx : ob_ex n (f, 0, ob_mkL as (ob_mx f), [], mm) = some (r, mm')) (hf : f < 240) (hf2 : f ≠ 238) (hb : ob_b w < ob_sz w) (hw : ob_wk (ob_mx f) as = true) (has : ∀ v ∈ as, ob_okv (ob_nA mm) v) :
    Met l (ob_y f) (ob_ws f) (ob_rm f mm mm') (ob_Pc w as mm) (ob_Qc w f r mm') (ob_nA mm' - ob_nA mm) (ob_nS mm' - ob_nS mm) (fun q => ob_sz w ≤ q) := by
  have hmono := ob_mono n _ _ hx
  have hmono : ob_mle mm mm' := hmono
  refine Met.ofW (cc := ob_by f) (maxL := ob_mx f) (ret := ob_rt f) (ob_plain f hf hf2).1 rfl ?_
  intro p e s m args below meth c s₁ B hml hv
  obtain ⟨rfl, hR, hK, hX⟩ := hv
  have hts := atoms_spec (ws := ob_ws f) B.pre
  have hown : s.vm.findClass (ob_y f).cls = some m.cls := findClass_of_methodNamed B.named
  rw [(ob_MPa f hf hf2).2.1] at hown
  have hcx : ob_Cx w p (headSpec (ob_ws f) (ob_rm f mm mm')).room s m (as.map (ob_cv w)).toArray meth c f := ⟨B.exec, B.bytes, hml, hown, fun x hx => hts x (List.mem_cons_of_mem _ hx), B.notSynchronized, B.returns, fun _ => (name_of_methodNamed B.named B.method).1, hK, hX, ⟨hb, by rw [hR.1]; exact Nat.le_add_right _ _⟩, Nat.le_refl _, Nat.le_refl _⟩
  have hlocks := B.notSynchronized
  have hret := B.returns
  have K := hS f 0 (ob_mkL as (ob_mx f)) [] mm r mm' hx p l e (headSpec (ob_ws f) (ob_rm f mm mm')).room s m (as.map (ob_cv w)).toArray below meth c (MQ below (ob_Qc w f r mm') (as.map (ob_cv w)).toArray s (ob_nA mm' - ob_nA mm) (ob_nS mm' - ob_nS mm) (fun q => ob_sz w ≤ q)) (ob_nA mm) (ob_nS mm) hcx (by show _ ≤ (ob_nA mm' - ob_nA mm) + _; omega) (by show _ ≤ (ob_nS mm' - ob_nS mm) + _; omega) ?_
  · have hl := lv_entry (as.map (ob_cv w)) (n := ob_mx f) (ob_lg_len as _ hw)
    rw [lg_entry_eq]
    generalize (lg_sl (as.map (ob_cv w)) ++ List.replicate (ob_mx f - (lg_sl (as.map (ob_cv w))).length) Slot.unset).toArray = LS at hl ⊢
    have K := K LS s.heap [] ⟨hR, ⟨hl.1, hl.2.1, ob_mkL_len _ _ hw, fun k hk => ?_⟩, (fun v hv => by cases hv), fun _ _ => rfl, (fun q hq => by cases hq), Nat.le_refl _, Nat.le_refl _⟩
    · rw [Nat.sub_self, Nat.sub_self] at K
      exact K
    · have q := ob_mkL_args (w := w) as (ob_mx f) k 0 hw hk
      rw [Nat.zero_add] at q
      exact ⟨hl.2.2 _ q.1, has _ q.2⟩
  · intro pc LS H locs hro hRp hfr hlo
    have hro2 := hro
    unfold ob_rok at hro2
    have hq : ∀ t : State, t.heap = H → s.WarmedH t.vm → ob_rr f r → ob_Qc w f r mm' (as.map (ob_cv w)).toArray s (.returned (ob_rsv f r)) t := fun t ht _ hrr => ⟨rfl, by rw [ht]; exact hRp, hrr, fun q hq => by rw [ht]; exact hfr q hq⟩
    split at hro2
    · rename_i e0
      have hrr : ob_rr f r := by unfold ob_rr; rw [e0]; trivial
      have e1 : ob_rsv f r = none := by unfold ob_rsv; rw [e0]
      rw [e1] at hq ⊢
      exact W.vret B.exec B.bytes (hret.trans e0) (fun t h1 h2 => hq t h1 h2 hrr) hlo hro2 hlocks
    · rename_i e0
      have hrr : ob_rr f r := by unfold ob_rr; rw [e0]; exact hro2.2
      have e1 : ob_rsv f r = some (.long (Int64.ofInt r)) := by unfold ob_rsv; rw [e0]
      rw [e1] at hq ⊢
      exact W.lret B.exec B.bytes (hret.trans e0) (fun t h1 h2 => hq t h1 h2 hrr) hlo hro2.1 hlocks
    · rename_i e0
      have hrr : ob_rr f r := by unfold ob_rr; rw [e0]; exact hro2.2
      have e1 : ob_rsv f r = some (.int (Int32.ofInt r)) := by unfold ob_rsv; rw [e0]
      rw [e1] at hq ⊢
      exact W.iret B.exec B.bytes (hret.trans e0) (fun t h1 h2 => hq t h1 h2 hrr) hlo hro2.1 hlocks
    · rename_i e0
      have hrr : ob_rr f r := by
        unfold ob_rr
        rw [e0]
        rcases hro2.2 with rfl | rfl <;> exact ⟨by decide, by decide⟩
      have e1 : ob_rsv f r = some (.int (Int32.ofInt r)) := by unfold ob_rsv; rw [e0]
      rw [e1] at hq ⊢
      refine W.zret B.exec B.bytes (hret.trans e0) ?_ (fun t h1 h2 => hq t h1 h2 hrr) hlo hro2.1 hlocks
      rcases hro2.2 with rfl | rfl <;> decide
    · exact hro2.elim
theorem ob_Pc_blind {w : ob_Wd} {as : List ob_AV} {mm : ob_MM} : FrameBlind (ob_Pc w as mm) := by
  intro a U g mk h
  obtain ⟨h1, h2, h3, h4⟩ := h
  exact ⟨h1, h2, ob_KK_warm (s := U) (U := U.calling g mk a) (State.WarmedH.refl U) h3, va_X.moved (u := U) (U := U.calling g mk a) (Vm.Alike.refl U.vm) h4⟩
theorem ob_ML_b : (∀ q ∈ ob_ML, q.2.2.1 < 240 ∧ q.2.2.1 ≠ 238) ∧ (∀ q ∈ ob_MN, q.2.2.1 < 240 ∧ q.2.2.1 ≠ 238) := by decide +kernel
theorem ob_okCs {f i : Nat} {aux : List Nat} {st vt : Nat} (h : ob_okC f i aux st vt = true) : ((ob_nth aux 6 0 = 0 ∧ ob_in4 ob_ML (ob_ow f) i (ob_nth aux 1 0) = true) ∨ (ob_nth aux 6 0 ≠ 0 ∧ ob_in4 ob_MN (ob_ow f) i (ob_nth aux 1 0) = true)) ∧ ob_rk (ob_nth aux 1 0) + 1 ≤ ob_rk f ∧ ob_ow (ob_nth aux 1 0) = ob_nth aux 4 0 ∧ ob_mx (ob_nth aux 1 0) = ob_nth aux 5 0 ∧ ob_mx (ob_nth aux 1 0) ≤ 19 ∧ ob_sc (ob_nth aux 1 0) = st ∧ (parseMethodDescriptor (ob_y (ob_nth aux 1 0)).desc).map (fun d => d.parameters.length) = some (ob_nth aux 2 0 - vt) ∧ vt ≤ ob_nth aux 2 0 ∧ (∀ (w : ob_Wd) (r : Int) (rs : List ob_AV), (ob_rsv (ob_nth aux 1 0) r).toList ++ rs.map (ob_cv w) = (ob_psh (ob_nth aux 3 0) r rs).map (ob_cv w)) ∧ (∀ (n : Nat) (r : Int) (rs : List ob_AV), ob_rr (ob_nth aux 1 0) r → (∀ v ∈ rs, ob_okv n v) → ∀ v ∈ ob_psh (ob_nth aux 3 0) r rs, ob_okv n v) := by
  unfold ob_okC at h
  simp only [Bool.and_eq_true] at h
  obtain ⟨⟨⟨⟨⟨⟨⟨⟨⟨h0, h1⟩, h2⟩, h3⟩, h4⟩, h5⟩, h6⟩, h7⟩, h8⟩, h9⟩ := h
  refine ⟨?_, Nat.ble_eq.mp h2, ob_beq h3, ob_beq h4, Nat.ble_eq.mp h5, ob_beq h6, of_decide_eq_true h7, Nat.ble_eq.mp h8, ?_⟩
  · cases e : Nat.beq (ob_nth aux 6 0) 0 with
    | true =>
      rw [e] at h1
      exact Or.inl ⟨ob_beq e, h1⟩
    | false =>
      rw [e] at h1
      exact Or.inr ⟨(fun q => by rw [q] at e; cases e), h1⟩
  · split at h9
    · rename_i e1 e2
      rw [e2]
      unfold ob_rsv ob_rr
      rw [e1]
      exact ⟨fun w r rs => rfl, fun n r rs _ hs => hs⟩
    · rename_i e1 e2
      rw [e2]
      unfold ob_rsv ob_rr
      rw [e1]
      exact ⟨fun w r rs => rfl, fun n r rs hr hs => ob_al1 (v := (1, r)) hr hs⟩
    · rename_i e1 e2
      rw [e2]
      unfold ob_rsv ob_rr
      rw [e1]
      exact ⟨fun w r rs => rfl, fun n r rs hr hs => ob_al1 (v := (1, r)) hr hs⟩
    · rename_i e1 e2
      rw [e2]
      unfold ob_rsv ob_rr
      rw [e1]
      exact ⟨fun w r rs => rfl, fun n r rs hr hs => ob_al1 (v := (2, r)) hr hs⟩
    · cases h9
theorem ob_inrt : ∀ f, f < 240 → (ob_y f).name = "<init>" → ob_rt f = none := by decide +kernel
section ob_Call
variable {w : ob_Wd} {p : Program} {l : Launch} {e : Env} {R : Room} {s : State} {m : MethodId} {args : Array Value} {below : List Frame} {meth : Method} {c : Code} {Q : State → Prop} {c0 s0 f pc nx nL : Nat} {aux : List Nat} {z : Int} {ls st : List ob_AV} {mm : ob_MM} {S : ob_St}
variable {H : Heap} {locs : List Loc} {cells slots : Nat} {LS : Array Slot} {rest : List Value}
theorem ob_Wrun {mc ms : Nat} {st0 : List Value} {Qa : State → Outcome → State → Prop} {free : Addr → Prop} (hr : va_Run p l e R s m args below meth c H locs cells slots mc ms (F0 m pc LS st0) rest Qa free)
    (kk : ∀ (v : Option Value) (st₀ t : State) (L : List Loc), st₀.heap = H → Qa st₀ (.returned v) t → (∀ q ∈ L, free q.base) → W p l e R s m args below meth c t.heap (locs ++ L) (cells + mc) (slots + ms) Q (F0 m (pc + 3) LS (v.toList ++ rest))) : W p l e R s m args below meth c H locs cells slots Q (F0 m pc LS st0) := by
  intro T hT X
  obtain ⟨v, st₀, t, T', L, h0, X', hL, e1, e2, hq, st⟩ := hr T hT X
  obtain ⟨t2, a1, b1⟩ := kk v st₀ t L h0 hq hL T' e1 X'
  exact ⟨t2, st t2 a1, b1⟩
/-- behind a call -/
theorem ob_after {g : Nat} {r1 : Int} {mm1 : ob_MM} {rs : List ob_AV} {rc : Nat} {f2 : Nat} (hmo : ob_mle mm mm1) (hps : ∀ (r : Int) (rs : List ob_AV), (ob_rsv g r).toList ++ rs.map (ob_cv w) = (ob_psh rc r rs).map (ob_cv w)) (hpo : ∀ (n : Nat) (r : Int) (rs : List ob_AV), ob_rr g r → (∀ v ∈ rs, ob_okv n v) → ∀ v ∈ ob_psh rc r rs, ob_okv n v)
    (I : ob_Iv w s c0 s0 nL ls st mm LS H locs) (hrs : ∀ v ∈ rs, ob_okv (ob_nA mm) v) (kk : ob_At w p l e R s m args below meth c Q c0 s0 nL (f2, pc + 3, ls, ob_psh rc r1 rs, mm1))
    (v : Option Value) (st₀ t : State) (L : List Loc) (h0 : st₀.heap = H) {av : Array Value} (hQ : ob_Qc w g r1 mm1 av st₀ (.returned v) t) (hL : ∀ q ∈ L, ob_sz w ≤ q.base) : W p l e R s m args below meth c t.heap (locs ++ L) (ob_nA mm - c0 + (ob_nA mm1 - ob_nA mm)) (ob_nS mm - s0 + (ob_nS mm1 - ob_nS mm)) Q (F0 m (pc + 3) LS (v.toList ++ rs.map (ob_cv w))) := by
  obtain ⟨hv, hRp, hrr, hfr⟩ := hQ
  cases hv
  rw [hps]
  obtain ⟨i1, ⟨a1, a2, a3, a4⟩, i3, i4, i5, i6, i7⟩ := I
  have h1 := hmo.1
  have h2 := hmo.2
  refine W.cs (cells' := ob_nA mm1 - c0) (slots' := ob_nS mm1 - s0) (by omega) (by omega) ?_
  refine kk LS t.heap (locs ++ L) ⟨hRp, ⟨a1, a2, a3, fun k hk => ⟨(a4 k hk).1, ob_okv_le h1 (a4 k hk).2⟩⟩, hpo _ _ _ hrr (fun v hv => ob_okv_le h1 (hrs v hv)), fun q hq => by rw [hfr q hq, h0]; exact i4 q hq, fun q hq => ?_, Nat.le_trans i6 h1, Nat.le_trans i7 h2⟩
  rcases List.mem_append.mp hq with e1 | e1
  · exact i5 q e1
  · exact hL q e1
theorem ob_Pc_at {as : List ob_AV} (X : ob_Cx w p R s m args meth c f) (I : ob_Iv w s c0 s0 nL ls st mm LS H locs) : ∀ U : State, U.heap = H → s.WarmedH U.vm → ob_Pc w as mm (as.map (ob_cv w)).toArray U := by
  intro U hU hW
  refine ⟨rfl, by rw [hU]; exact I.1, ob_KK_warm hW X.2.2.2.2.2.2.2.2.1, ?_⟩
  rw [hU]
  exact va_X.moved hW.alike (va_X.kept X.2.2.2.2.2.2.2.2.2.1 (I.2.2.2.1 _ X.2.2.2.2.2.2.2.2.2.2.1.1))
set_option maxRecDepth 100000 in
set_option maxHeartbeats 2000000 in
theorem ob_call_v {n idx : Nat} {as rs : List ob_AV} {r1 : Int} {mm1 : ob_MM} (X : ob_Cx w p R s m args meth c f) (hS : ob_Snd w n) (hd : decode (ob_by f) pc = .ok (.invokevirtual idx, 3)) (hC : ob_okC f idx aux 0 1 = true) (h8 : ob_nth aux 4 0 ≤ 8) (hnin : (ob_y (ob_nth aux 1 0)).name ≠ "<init>")
    (hp : ob_pop (ob_nth aux 2 0) [] st = some (as, rs)) (hw8 : ob_wk 8 rs = true) (hwa : ob_wk (ob_nth aux 5 0) as = true) (hhd : ob_hd (ob_nth aux 4 0) as = true)
    (hx : ob_ex n (ob_nth aux 1 0, 0, ob_mkL as (ob_nth aux 5 0), [], mm) = some (r1, mm1)) (hb1 : ob_nA mm1 ≤ R.cells + c0) (hb2 : ob_nS mm1 ≤ R.slots + s0) (kk : ob_At w p l e R s m args below meth c Q c0 s0 nL (f, pc + 3, ls, ob_psh (ob_nth aux 3 0) r1 rs, mm1)) (hnL : nL = ob_mx f) : ob_At w p l e R s m args below meth c Q c0 s0 nL (f, pc, ls, st, mm) := by
  obtain ⟨hlk, hrk, how, hmx, hm19, hsc, hpar, hvt, hps, hpo⟩ := ob_okCs hC
  obtain ⟨fr, hst, has, hlen⟩ := ob_pop_e _ _ _ _ _ hp
  rw [List.append_nil] at has
  rw [← hmx] at hx hwa
  generalize ob_nth aux 1 0 = g at *
  generalize ob_nth aux 2 0 = nn at *
  generalize ob_nth aux 3 0 = rc at *
  generalize ob_nth aux 4 0 = C at *
  have hgb : g < 240 ∧ g ≠ 238 := by
    rcases hlk with ⟨-, hlk⟩ | ⟨-, hlk⟩
    · obtain ⟨q, hq⟩ := ob_in4s hlk
      exact ob_ML_b.1 _ hq
    · obtain ⟨q, hq⟩ := ob_in4s hlk
      exact ob_ML_b.2 _ hq
  intro LS H locs I
  have hok : ∀ v ∈ fr ++ rs, ob_okv (ob_nA mm) v := by rw [← hst]; exact I.2.2.1
  have hrs : ∀ v ∈ rs, ob_okv (ob_nA mm) v := fun v hv => hok v (List.mem_append_right _ hv)
  have hasok : ∀ v ∈ as, ob_okv (ob_nA mm) v := fun v hv => hok v (List.mem_append_left _ (by rw [has] at hv; exact List.mem_reverse.mp hv))
  have hmo : ob_mle mm mm1 := ob_mono n _ _ hx
  have hM := ob_met l hS hx hgb.1 hgb.2 X.2.2.2.2.2.2.2.2.2.2.1.1 hwa hasok
  have hR := X.2.2.2.2.2.2.2.2.2.2.2
  have hcode : Cond.code (ob_y g) (ob_by g) (ob_mx g) (ob_rt g) ∈ ob_gt := List.mem_filter.mpr ⟨ob_MCk g hgb.1 hgb.2, rfl⟩
  have hcls := (ob_MPa g hgb.1 hgb.2).2
  have hG : GoodIn ob_gt (ob_ws g) := fun x hx => ob_gin x ((List.mem_cons.mp hx).elim (fun q => by rw [q]; exact hcode) id)
  have hini0 : (Cond.initialized (ob_y g).cls).before args s = true := by rw [hcls.1]; exact X.2.2.2.2.1 _ (ob_inl hcls.2)
  have hdd := (ob_plain g hgb.1 hgb.2).2
  have hroom : (ob_rm g mm mm1).frames + 1 ≤ R.frames ∧ 8 + (ob_mx g + 11) + (ob_rm g mm mm1).locals ≤ R.locals := ⟨by show ob_rk g + 1 ≤ R.frames; omega, by show 8 + (ob_mx g + 11) + 38 * ob_rk g ≤ R.locals; omega⟩
  have hi6 := I.2.2.2.2.2.1
  have hi7 := I.2.2.2.2.2.2
  have hm1 := hmo.1
  have hm2 := hmo.2
  have hf : ob_nA mm - c0 + (ob_nA mm1 - ob_nA mm) ≤ R.cells ∧ ob_nS mm - s0 + (ob_nS mm1 - ob_nS mm) ≤ R.slots := ⟨by omega, by omega⟩
  have hfix : CallFix p m c (ob_by f) (ob_mx f) s args ob_gt (ob_cn (ob_ow f)) := ⟨X.1, X.2.1, X.2.2.1, X.2.2.2.1, X.2.2.2.2.1⟩
  have hws := ob_wk_sum (w := w) 8 rs hw8
  have hsize : LS.size = ob_mx f := by rw [I.2.1.1, hnL]
  obtain ⟨mp, hmp, hmp2⟩ := List.any_eq_true.mp (ob_MPa g hgb.1 hgb.2).1
  obtain ⟨mp0, mp1, mp2, mp3⟩ := mp
  obtain rfl : mp0 = g := ob_beq hmp2
  have hinst := ob_MPi _ hmp
  have hinst : lw_tbl[mp2]? = some (cond (Nat.beq (ob_sc mp0) 0) (Cond.instanceMethod (ob_y mp0)) (Cond.static (ob_y mp0))) := hinst
  rw [hsc] at hinst
  have hinst : lw_tbl[mp2]? = some (Cond.instanceMethod (ob_y mp0)) := hinst
  have hin := X.2.2.2.2.1 _ (ob_w_in hinst rfl)
  obtain ⟨i0, as', rfl⟩ : ∃ i0 as', as = (C + 3, i0) :: as' := by
    match as, hhd with
    | [], h => cases h
    | (t, i0) :: as', h => exact ⟨i0, as', by rw [ob_beq h]⟩
  have hpC := hasok (C + 3, i0) List.mem_cons_self
  have hC15 : C ≠ 15 := by omega
  have hoff := ob_pr_off hpC hC15
  have hlen' : (as'.map (ob_cv w)).length = nn - 1 := by
    have : fr.length = as'.length + 1 := by rw [← List.length_reverse, ← has]; rfl
    rw [List.length_map]
    omega
  have hstk : st.map (ob_cv w) = (as'.map (ob_cv w)).reverse ++ Value.ref (ob_sz w + ob_off C i0) :: rs.map (ob_cv w) := by
    have hfr : fr = as'.reverse ++ [(C + 3, i0)] := by
      rw [← List.reverse_reverse fr, ← has, List.reverse_cons]
    rw [hst, hfr, List.map_append, List.map_append, List.map_reverse, List.append_assoc]
    show _ ++ (Value.ref (ob_ad w C i0) :: _) = _
    rw [ob_ad_n hC15]
    rfl
  have hPc : ∀ U : State, U.heap = H → s.WarmedH U.vm → ob_Pc w ((C + 3, i0) :: as') mm (Value.ref (ob_sz w + ob_off C i0) :: as'.map (ob_cv w)).toArray U := by
    have q := ob_Pc_at (as := (C + 3, i0) :: as') X I
    rw [show List.map (ob_cv w) ((C + 3, i0) :: as') = Value.ref (ob_ad w C i0) :: as'.map (ob_cv w) from rfl, ob_ad_n hC15] at q
    exact q
  have hsel : (Cond.selects (ob_cn C) (ob_y mp0) (ob_y mp0)).before args s = true := by
    have q := ob_MPs _ hmp (by rw [Bool.and_eq_true]; exact ⟨by show Nat.beq (ob_sc mp0) 0 = true; rw [hsc]; rfl, by show (!decide ((ob_y mp0).name = "<init>")) = true; rw [decide_eq_false hnin]; rfl⟩)
    have q : lw_tbl[mp3]? = some (Cond.selects (ob_y mp0).cls (ob_y mp0) (ob_y mp0)) := q
    rw [hcls.1, how] at q
    exact X.2.2.2.2.1 _ (ob_w_in q rfl)
  have hrecv : ∃ cellB : Cell, H[ob_sz w + ob_off C i0]? = some cellB ∧ cellB.vm.isStatics = false ∧ s.vm.findClass (ob_cn C) = some cellB.cls := by
    obtain ⟨cellV, g1, g2, g3, -⟩ := (I.1.2.2.1 C i0 hoff).1 h8
    exact ⟨cellV, g1, by rw [g3]; rfl, by rw [g2]; exact (X.2.2.2.2.2.2.2.2.1.1.1 C _ (ob_clk C h8)).2.1⟩
  show W p l e R s m args below meth c H locs _ _ Q (F0 m pc LS (st.map (ob_cv w)))
  rw [hstk]
  rcases hlk with ⟨-, hlk⟩ | ⟨-, hlk⟩
  · obtain ⟨pl, hpl⟩ := ob_in4s hlk
    have hl : (Cond.methodLink (ob_cn (ob_ow f)) idx (ob_y mp0)).before args s = true := X.2.2.2.2.1 _ (ob_w_in (ob_MLk _ hpl) rfl)
    have hcw := callB_of (R := R) (s := s) (args := args) (own := ob_cn (ob_ow f)) (index := idx) (rm := ob_rm mp0 mm mm1) (mc := ob_nA mm1 - ob_nA mm) (ms := ob_nS mm1 - ob_nS mm) (nn - 1) X.2.2.2.2.1 hG rfl rfl rfl hini0 hl ⟨hdd.1, hdd.2, hpar⟩ hroom
    refine ob_Wrun (va_runV (As := as'.map (ob_cv w)) (rest := rs.map (ob_cv w)) hfix hM ⟨hcw, hin, hsel⟩ ⟨ob_Pc_blind, hrecv, hPc⟩ rfl hlen' hsize rfl (by show 2 * 0 + _ ≤ 8; omega) hd hf) fun v st₀ t L h0 hQ hL => ?_
    exact ob_after hmo (hps w) hpo I hrs kk v st₀ t L h0 hQ hL
  · obtain ⟨pl, hpl⟩ := ob_in4s hlk
    have hl0 := X.2.2.2.2.2.2.2.2.1.2.2.1 (ob_ow f, idx, mp0, pl) hpl
    have hl : va_Nw (.methodLinkNest (ob_cn (ob_ow f)) idx (ob_y mp0) "OrganBarrel") s := hl0
    have hcw := va_cnB (R := R) (s := s) (args := args) (own := ob_cn (ob_ow f)) (index := idx) (rm := ob_rm mp0 mm mm1) (mc := ob_nA mm1 - ob_nA mm) (ms := ob_nS mm1 - ob_nS mm) (nn - 1) X.2.2.2.2.1 hG rfl rfl rfl hl hini0 ⟨hdd.1, hdd.2, hpar⟩ hroom
    refine ob_Wrun (va_runVN (As := as'.map (ob_cv w)) (rest := rs.map (ob_cv w)) hfix hM ⟨hcw, hin, hsel⟩ ⟨ob_Pc_blind, hrecv, hPc⟩ rfl hlen' hsize rfl (by show 2 * 0 + _ ≤ 8; omega) hd hf) fun v st₀ t L h0 hQ hL => ?_
    exact ob_after hmo (hps w) hpo I hrs kk v st₀ t L h0 hQ hL
set_option maxRecDepth 100000 in
set_option maxHeartbeats 2000000 in
theorem ob_call_s {n idx : Nat} {as rs : List ob_AV} {r1 : Int} {mm1 : ob_MM} (X : ob_Cx w p R s m args meth c f) (hS : ob_Snd w n) (hd : decode (ob_by f) pc = .ok (.invokestatic idx, 3)) (hC : ob_okC f idx aux 1 0 = true)
    (hp : ob_pop (ob_nth aux 2 0) [] st = some (as, rs)) (hw8 : ob_wk 8 rs = true) (hwa : ob_wk (ob_nth aux 5 0) as = true)
    (hx : ob_ex n (ob_nth aux 1 0, 0, ob_mkL as (ob_nth aux 5 0), [], mm) = some (r1, mm1)) (hb1 : ob_nA mm1 ≤ R.cells + c0) (hb2 : ob_nS mm1 ≤ R.slots + s0) (kk : ob_At w p l e R s m args below meth c Q c0 s0 nL (f, pc + 3, ls, ob_psh (ob_nth aux 3 0) r1 rs, mm1)) (hnL : nL = ob_mx f) : ob_At w p l e R s m args below meth c Q c0 s0 nL (f, pc, ls, st, mm) := by
  obtain ⟨hlk, hrk, how, hmx, hm19, hsc, hpar, hvt, hps, hpo⟩ := ob_okCs hC
  obtain ⟨fr, hst, has, hlen⟩ := ob_pop_e _ _ _ _ _ hp
  rw [List.append_nil] at has
  rw [← hmx] at hx hwa
  generalize ob_nth aux 1 0 = g at *
  generalize ob_nth aux 2 0 = nn at *
  generalize ob_nth aux 3 0 = rc at *
  generalize ob_nth aux 4 0 = C at *
  have hgb : g < 240 ∧ g ≠ 238 := by
    rcases hlk with ⟨-, hlk⟩ | ⟨-, hlk⟩
    · obtain ⟨q, hq⟩ := ob_in4s hlk
      exact ob_ML_b.1 _ hq
    · obtain ⟨q, hq⟩ := ob_in4s hlk
      exact ob_ML_b.2 _ hq
  intro LS H locs I
  have hok : ∀ v ∈ fr ++ rs, ob_okv (ob_nA mm) v := by rw [← hst]; exact I.2.2.1
  have hrs : ∀ v ∈ rs, ob_okv (ob_nA mm) v := fun v hv => hok v (List.mem_append_right _ hv)
  have hasok : ∀ v ∈ as, ob_okv (ob_nA mm) v := fun v hv => hok v (List.mem_append_left _ (by rw [has] at hv; exact List.mem_reverse.mp hv))
  have hmo : ob_mle mm mm1 := ob_mono n _ _ hx
  have hM := ob_met l hS hx hgb.1 hgb.2 X.2.2.2.2.2.2.2.2.2.2.1.1 hwa hasok
  have hR := X.2.2.2.2.2.2.2.2.2.2.2
  have hcode : Cond.code (ob_y g) (ob_by g) (ob_mx g) (ob_rt g) ∈ ob_gt := List.mem_filter.mpr ⟨ob_MCk g hgb.1 hgb.2, rfl⟩
  have hcls := (ob_MPa g hgb.1 hgb.2).2
  have hG : GoodIn ob_gt (ob_ws g) := fun x hx => ob_gin x ((List.mem_cons.mp hx).elim (fun q => by rw [q]; exact hcode) id)
  have hini0 : (Cond.initialized (ob_y g).cls).before args s = true := by rw [hcls.1]; exact X.2.2.2.2.1 _ (ob_inl hcls.2)
  have hdd := (ob_plain g hgb.1 hgb.2).2
  have hroom : (ob_rm g mm mm1).frames + 1 ≤ R.frames ∧ 8 + (ob_mx g + 11) + (ob_rm g mm mm1).locals ≤ R.locals := ⟨by show ob_rk g + 1 ≤ R.frames; omega, by show 8 + (ob_mx g + 11) + 38 * ob_rk g ≤ R.locals; omega⟩
  have hi6 := I.2.2.2.2.2.1
  have hi7 := I.2.2.2.2.2.2
  have hm1 := hmo.1
  have hm2 := hmo.2
  have hf : ob_nA mm - c0 + (ob_nA mm1 - ob_nA mm) ≤ R.cells ∧ ob_nS mm - s0 + (ob_nS mm1 - ob_nS mm) ≤ R.slots := ⟨by omega, by omega⟩
  have hfix : CallFix p m c (ob_by f) (ob_mx f) s args ob_gt (ob_cn (ob_ow f)) := ⟨X.1, X.2.1, X.2.2.1, X.2.2.2.1, X.2.2.2.2.1⟩
  have hws := ob_wk_sum (w := w) 8 rs hw8
  have hsize : LS.size = ob_mx f := by rw [I.2.1.1, hnL]
  obtain ⟨mp, hmp, hmp2⟩ := List.any_eq_true.mp (ob_MPa g hgb.1 hgb.2).1
  obtain ⟨mp0, mp1, mp2, mp3⟩ := mp
  obtain rfl : mp0 = g := ob_beq hmp2
  have hinst := ob_MPi _ hmp
  have hinst : lw_tbl[mp2]? = some (cond (Nat.beq (ob_sc mp0) 0) (Cond.instanceMethod (ob_y mp0)) (Cond.static (ob_y mp0))) := hinst
  rw [hsc] at hinst
  have hinst : lw_tbl[mp2]? = some (Cond.static (ob_y mp0)) := hinst
  have hin := X.2.2.2.2.1 _ (ob_w_in hinst rfl)
  have hlen' : (as.map (ob_cv w)).length = nn := by
    rw [List.length_map, has, List.length_reverse]
    exact hlen
  have hstk : st.map (ob_cv w) = (as.map (ob_cv w)).reverse ++ rs.map (ob_cv w) := by
    rw [hst, has, List.map_append, ← List.map_reverse, List.reverse_reverse]
  have hPc := ob_Pc_at (as := as) X I
  show W p l e R s m args below meth c H locs _ _ Q (F0 m pc LS (st.map (ob_cv w)))
  rw [hstk]
  rcases hlk with ⟨-, hlk⟩ | ⟨-, hlk⟩
  · obtain ⟨pl, hpl⟩ := ob_in4s hlk
    have hl : (Cond.methodLink (ob_cn (ob_ow f)) idx (ob_y mp0)).before args s = true := X.2.2.2.2.1 _ (ob_w_in (ob_MLk _ hpl) rfl)
    have hcw := callB_of (R := R) (s := s) (args := args) (own := ob_cn (ob_ow f)) (index := idx) (rm := ob_rm mp0 mm mm1) (mc := ob_nA mm1 - ob_nA mm) (ms := ob_nS mm1 - ob_nS mm) (nn) X.2.2.2.2.1 hG rfl rfl rfl hini0 hl ⟨hdd.1, hdd.2, hpar⟩ hroom
    refine ob_Wrun (va_runS (As := as.map (ob_cv w)) (rest := rs.map (ob_cv w)) hfix hM ⟨hcw, hin⟩ ⟨ob_Pc_blind, hPc⟩ rfl hlen' hsize rfl (by show 2 * 0 + _ ≤ 8; omega) hd hf) fun v st₀ t L h0 hQ hL => ?_
    exact ob_after hmo (hps w) hpo I hrs kk v st₀ t L h0 hQ hL
  · obtain ⟨pl, hpl⟩ := ob_in4s hlk
    have hl0 := X.2.2.2.2.2.2.2.2.1.2.2.1 (ob_ow f, idx, mp0, pl) hpl
    have hl : va_Nw (.methodLinkNest (ob_cn (ob_ow f)) idx (ob_y mp0) "OrganBarrel") s := hl0
    have hcw := va_cnB (R := R) (s := s) (args := args) (own := ob_cn (ob_ow f)) (index := idx) (rm := ob_rm mp0 mm mm1) (mc := ob_nA mm1 - ob_nA mm) (ms := ob_nS mm1 - ob_nS mm) (nn) X.2.2.2.2.1 hG rfl rfl rfl hl hini0 ⟨hdd.1, hdd.2, hpar⟩ hroom
    refine ob_Wrun (va_runSN (As := as.map (ob_cv w)) (rest := rs.map (ob_cv w)) hfix hM ⟨hcw, hin, trivial⟩ ⟨ob_Pc_blind, hPc⟩ rfl hlen' hsize rfl (by show 2 * 0 + _ ≤ 8; omega) hd hf) fun v st₀ t L h0 hQ hL => ?_
    exact ob_after hmo (hps w) hpo I hrs kk v st₀ t L h0 hQ hL
set_option maxRecDepth 100000 in
set_option maxHeartbeats 2000000 in
theorem ob_call_i {n idx : Nat} {as rs : List ob_AV} {r1 : Int} {mm1 : ob_MM} (X : ob_Cx w p R s m args meth c f) (hS : ob_Snd w n) (hd : decode (ob_by f) pc = .ok (.invokespecial idx, 3)) (hC : ob_okC f idx aux 0 1 = true) (h8 : ob_nth aux 4 0 ≤ 8) (hini : (ob_y (ob_nth aux 1 0)).name = "<init>")
    (hp : ob_pop (ob_nth aux 2 0) [] st = some (as, rs)) (hw8 : ob_wk 8 rs = true) (hwa : ob_wk (ob_nth aux 5 0) as = true) (hhd : ob_hd (ob_nth aux 4 0) as = true)
    (hx : ob_ex n (ob_nth aux 1 0, 0, ob_mkL as (ob_nth aux 5 0), [], mm) = some (r1, mm1)) (hb1 : ob_nA mm1 ≤ R.cells + c0) (hb2 : ob_nS mm1 ≤ R.slots + s0) (kk : ob_At w p l e R s m args below meth c Q c0 s0 nL (f, pc + 3, ls, ob_psh (ob_nth aux 3 0) r1 rs, mm1)) (hnL : nL = ob_mx f) : ob_At w p l e R s m args below meth c Q c0 s0 nL (f, pc, ls, st, mm) := by
  obtain ⟨hlk, hrk, how, hmx, hm19, hsc, hpar, hvt, hps, hpo⟩ := ob_okCs hC
  obtain ⟨fr, hst, has, hlen⟩ := ob_pop_e _ _ _ _ _ hp
  rw [List.append_nil] at has
  rw [← hmx] at hx hwa
  generalize ob_nth aux 1 0 = g at *
  generalize ob_nth aux 2 0 = nn at *
  generalize ob_nth aux 3 0 = rc at *
  generalize ob_nth aux 4 0 = C at *
  have hgb : g < 240 ∧ g ≠ 238 := by
    rcases hlk with ⟨-, hlk⟩ | ⟨-, hlk⟩
    · obtain ⟨q, hq⟩ := ob_in4s hlk
      exact ob_ML_b.1 _ hq
    · obtain ⟨q, hq⟩ := ob_in4s hlk
      exact ob_ML_b.2 _ hq
  intro LS H locs I
  have hok : ∀ v ∈ fr ++ rs, ob_okv (ob_nA mm) v := by rw [← hst]; exact I.2.2.1
  have hrs : ∀ v ∈ rs, ob_okv (ob_nA mm) v := fun v hv => hok v (List.mem_append_right _ hv)
  have hasok : ∀ v ∈ as, ob_okv (ob_nA mm) v := fun v hv => hok v (List.mem_append_left _ (by rw [has] at hv; exact List.mem_reverse.mp hv))
  have hmo : ob_mle mm mm1 := ob_mono n _ _ hx
  have hM := ob_met l hS hx hgb.1 hgb.2 X.2.2.2.2.2.2.2.2.2.2.1.1 hwa hasok
  have hR := X.2.2.2.2.2.2.2.2.2.2.2
  have hcode : Cond.code (ob_y g) (ob_by g) (ob_mx g) (ob_rt g) ∈ ob_gt := List.mem_filter.mpr ⟨ob_MCk g hgb.1 hgb.2, rfl⟩
  have hcls := (ob_MPa g hgb.1 hgb.2).2
  have hG : GoodIn ob_gt (ob_ws g) := fun x hx => ob_gin x ((List.mem_cons.mp hx).elim (fun q => by rw [q]; exact hcode) id)
  have hini0 : (Cond.initialized (ob_y g).cls).before args s = true := by rw [hcls.1]; exact X.2.2.2.2.1 _ (ob_inl hcls.2)
  have hdd := (ob_plain g hgb.1 hgb.2).2
  have hroom : (ob_rm g mm mm1).frames + 1 ≤ R.frames ∧ 8 + (ob_mx g + 11) + (ob_rm g mm mm1).locals ≤ R.locals := ⟨by show ob_rk g + 1 ≤ R.frames; omega, by show 8 + (ob_mx g + 11) + 38 * ob_rk g ≤ R.locals; omega⟩
  have hi6 := I.2.2.2.2.2.1
  have hi7 := I.2.2.2.2.2.2
  have hm1 := hmo.1
  have hm2 := hmo.2
  have hf : ob_nA mm - c0 + (ob_nA mm1 - ob_nA mm) ≤ R.cells ∧ ob_nS mm - s0 + (ob_nS mm1 - ob_nS mm) ≤ R.slots := ⟨by omega, by omega⟩
  have hfix : CallFix p m c (ob_by f) (ob_mx f) s args ob_gt (ob_cn (ob_ow f)) := ⟨X.1, X.2.1, X.2.2.1, X.2.2.2.1, X.2.2.2.2.1⟩
  have hws := ob_wk_sum (w := w) 8 rs hw8
  have hsize : LS.size = ob_mx f := by rw [I.2.1.1, hnL]
  obtain ⟨mp, hmp, hmp2⟩ := List.any_eq_true.mp (ob_MPa g hgb.1 hgb.2).1
  obtain ⟨mp0, mp1, mp2, mp3⟩ := mp
  obtain rfl : mp0 = g := ob_beq hmp2
  have hinst := ob_MPi _ hmp
  have hinst : lw_tbl[mp2]? = some (cond (Nat.beq (ob_sc mp0) 0) (Cond.instanceMethod (ob_y mp0)) (Cond.static (ob_y mp0))) := hinst
  rw [hsc] at hinst
  have hinst : lw_tbl[mp2]? = some (Cond.instanceMethod (ob_y mp0)) := hinst
  have hin := X.2.2.2.2.1 _ (ob_w_in hinst rfl)
  obtain ⟨i0, as', rfl⟩ : ∃ i0 as', as = (C + 3, i0) :: as' := by
    match as, hhd with
    | [], h => cases h
    | (t, i0) :: as', h => exact ⟨i0, as', by rw [ob_beq h]⟩
  have hpC := hasok (C + 3, i0) List.mem_cons_self
  have hC15 : C ≠ 15 := by omega
  have hoff := ob_pr_off hpC hC15
  have hlen' : (as'.map (ob_cv w)).length = nn - 1 := by
    have : fr.length = as'.length + 1 := by rw [← List.length_reverse, ← has]; rfl
    rw [List.length_map]
    omega
  have hstk : st.map (ob_cv w) = (as'.map (ob_cv w)).reverse ++ Value.ref (ob_sz w + ob_off C i0) :: rs.map (ob_cv w) := by
    have hfr : fr = as'.reverse ++ [(C + 3, i0)] := by
      rw [← List.reverse_reverse fr, ← has, List.reverse_cons]
    rw [hst, hfr, List.map_append, List.map_append, List.map_reverse, List.append_assoc]
    show _ ++ (Value.ref (ob_ad w C i0) :: _) = _
    rw [ob_ad_n hC15]
    rfl
  have hPc : ∀ U : State, U.heap = H → s.WarmedH U.vm → ob_Pc w ((C + 3, i0) :: as') mm (Value.ref (ob_sz w + ob_off C i0) :: as'.map (ob_cv w)).toArray U := by
    have q := ob_Pc_at (as := (C + 3, i0) :: as') X I
    rw [show List.map (ob_cv w) ((C + 3, i0) :: as') = Value.ref (ob_ad w C i0) :: as'.map (ob_cv w) from rfl, ob_ad_n hC15] at q
    exact q
  have hrt : ob_rt mp0 = none := ob_inrt mp0 hgb.1 hini
  show W p l e R s m args below meth c H locs _ _ Q (F0 m pc LS (st.map (ob_cv w)))
  rw [hstk]
  rcases hlk with ⟨-, hlk⟩ | ⟨-, hlk⟩
  · obtain ⟨pl, hpl⟩ := ob_in4s hlk
    have hl : (Cond.methodLink (ob_cn (ob_ow f)) idx (ob_y mp0)).before args s = true := X.2.2.2.2.1 _ (ob_w_in (ob_MLk _ hpl) rfl)
    have hcw := callB_of (R := R) (s := s) (args := args) (own := ob_cn (ob_ow f)) (index := idx) (rm := ob_rm mp0 mm mm1) (mc := ob_nA mm1 - ob_nA mm) (ms := ob_nS mm1 - ob_nS mm) (nn - 1) X.2.2.2.2.1 hG rfl rfl rfl hini0 hl ⟨hdd.1, hdd.2, hpar⟩ hroom
    rw [hrt] at hcw
    refine ob_Wrun (va_runI (As := as'.map (ob_cv w)) (rest := rs.map (ob_cv w)) hfix hM ⟨hcw, hini, hin⟩ ⟨ob_Pc_blind, hPc⟩ rfl hlen' hsize rfl (by show 2 * 0 + _ ≤ 8; omega) hd hf) fun v st₀ t L h0 hQ hL => ?_
    exact ob_after hmo (hps w) hpo I hrs kk v st₀ t L h0 hQ hL
  · obtain ⟨pl, hpl⟩ := ob_in4s hlk
    have hl0 := X.2.2.2.2.2.2.2.2.1.2.2.1 (ob_ow f, idx, mp0, pl) hpl
    have hl : va_Nw (.methodLinkNest (ob_cn (ob_ow f)) idx (ob_y mp0) "OrganBarrel") s := hl0
    have hcw := va_cnB (R := R) (s := s) (args := args) (own := ob_cn (ob_ow f)) (index := idx) (rm := ob_rm mp0 mm mm1) (mc := ob_nA mm1 - ob_nA mm) (ms := ob_nS mm1 - ob_nS mm) (nn - 1) X.2.2.2.2.1 hG rfl rfl rfl hl hini0 ⟨hdd.1, hdd.2, hpar⟩ hroom
    rw [hrt] at hcw
    refine ob_Wrun (va_runIN (As := as'.map (ob_cv w)) (rest := rs.map (ob_cv w)) hfix hM ⟨hcw, hini, hin⟩ ⟨ob_Pc_blind, hPc⟩ rfl hlen' hsize rfl (by show 2 * 0 + _ ≤ 8; omega) hd hf) fun v st₀ t L h0 hQ hL => ?_
    exact ob_after hmo (hps w) hpo I hrs kk v st₀ t L h0 hQ hL
end ob_Call
end
section
-- SOUNDNESS: a run of the abstract machine is a run of the machine
/-- one next state at most, in the same method -/
def ob_sm (f : Nat) (a : ob_Ac) : Prop := a = ob_stop none ∨ (∃ S, a = ob_go S ∧ S.1 = f) ∨ ∃ d S, a = ob_gd d S ∧ S.1 = f
section ob_Sm
variable {f : Nat} {st ls : List ob_AV}
theorem ob_sm_n : ob_sm f (ob_stop none) := Or.inl rfl
theorem ob_sm_g {S : ob_St} (h : S.1 = f) : ob_sm f (ob_go S) := Or.inr (Or.inl ⟨S, rfl, h⟩)
theorem ob_sm_d {d : ob_Dc} {S : ob_St} (h : S.1 = f) : ob_sm f (ob_gd d S) := Or.inr (Or.inr ⟨d, S, rfl, h⟩)
theorem ob_sm_i1 {K : Int → List ob_AV → ob_Ac} (h : ∀ a r, ob_sm f (K a r)) : ob_sm f (ob_i1 st K) := by
  unfold ob_i1
  split
  · exact h _ _
  · exact ob_sm_n
theorem ob_sm_l1 {K : Int → List ob_AV → ob_Ac} (h : ∀ a r, ob_sm f (K a r)) : ob_sm f (ob_l1 st K) := by
  unfold ob_l1
  split
  · exact h _ _
  · exact ob_sm_n
theorem ob_sm_r1 {K : Nat → Int → List ob_AV → ob_Ac} (h : ∀ t a r, ob_sm f (K t a r)) : ob_sm f (ob_r1 st K) := by
  unfold ob_r1
  split
  · exact h _ _ _
  · exact ob_sm_n
theorem ob_sm_v1 {K : ob_AV → List ob_AV → ob_Ac} (h : ∀ a r, ob_sm f (K a r)) : ob_sm f (ob_v1 st K) := by
  unfold ob_v1
  split
  · exact ob_sm_n
  · cases Nat.beq _ 2
    · exact h _ _
    · exact ob_sm_n
theorem ob_sm_ldi {k : Nat} {K : Int → ob_Ac} (h : ∀ a, ob_sm f (K a)) : ob_sm f (ob_ldi ls k K) := by
  unfold ob_ldi
  split
  · exact h _
  · exact ob_sm_n
theorem ob_sm_ldl {k : Nat} {K : Int → ob_Ac} (h : ∀ a, ob_sm f (K a)) : ob_sm f (ob_ldl ls k K) := by
  unfold ob_ldl
  split
  · exact h _
  · exact ob_sm_n
theorem ob_sm_ldr {k : Nat} {K : Nat → Int → ob_Ac} (h : ∀ t a, ob_sm f (K t a)) : ob_sm f (ob_ldr ls k K) := by
  unfold ob_ldr
  split
  · exact h _ _
  · exact ob_sm_n
theorem ob_sm_sto {k : Nat} {v : ob_AV} {K : List ob_AV → ob_Ac} (h : ∀ a, ob_sm f (K a)) : ob_sm f (ob_sto ls k v K) := by
  unfold ob_sto
  split
  · exact h _
  · split
    cases Nat.beq _ 2
    · exact h _
    · exact ob_sm_n
theorem ob_sm_c {b : Bool} {a a' : ob_Ac} (h : ob_sm f a) (h' : ob_sm f a') : ob_sm f (cond b a a') := by
  cases b
  · exact h'
  · exact h
theorem ob_sm_seal {mm : ob_MM} {K : ob_MM → ob_Ac} (h : ∀ mm', ob_sm f (K mm')) : ob_sm f (ob_seal mm K) := by
  unfold ob_seal
  split
  · exact ob_sm_n
  · exact ob_sm_c (h _) ob_sm_n
theorem ob_sm_stat {c : Option ob_CI} {K : Unit → ob_Ac} (h : ob_sm f (K ())) : ob_sm f (ob_stat c K) := by
  unfold ob_stat
  split
  · exact ob_sm_n
  · exact h
theorem ob_sm_new {k nx n : Nat} {mm : ob_MM} : ob_sm f (ob_new k f nx ls st n mm) := by
  unfold ob_new
  split
  · exact ob_sm_n
  · exact ob_sm_c (ob_sm_g rfl) ob_sm_n
end ob_Sm
theorem ob_sm_x {f : Nat} {X : ob_St → ob_Res} {a : ob_Ac} {r : Int × ob_MM} (hs : ob_sm f a) (h : ob_int X X a = some r) : ∃ S, ob_nx a S ∧ S.1 = f ∧ X S = some r := by
  rcases hs with rfl | ⟨S, rfl, hS⟩ | ⟨⟨d, i⟩, S, rfl, hS⟩
  · cases h
  · exact ⟨S, Or.inl rfl, hS, h⟩
  · have h : @ite _ d i (X S) none = some r := h
    by_cases q : d
    · rw [if_pos q] at h
      exact ⟨S, Or.inr ⟨⟨d, i⟩, rfl, q⟩, hS, h⟩
    · rw [if_neg q] at h
      cases h
theorem ob_i1_i {X : ob_St → ob_Res} {st : List ob_AV} {K : Int → List ob_AV → ob_Ac} {r : Int × ob_MM} (h : ob_int X X (ob_i1 st K) = some r) : ∃ a rs, st = (1, a) :: rs ∧ ob_int X X (K a rs) = some r := by
  unfold ob_i1 at h
  split at h
  · exact ⟨_, _, rfl, h⟩
  · cases h
def ob_P (cd : ClassFile.Cond) (a b : Int) : Prop := match cd with
  | .eq => a = b
  | .ne => ¬ a = b
  | .lt => a < b
  | .ge => ¬ a < b
  | .gt => b < a
  | .le => ¬ b < a
theorem ob_cnd_i {X : ob_St → ob_Res} {cd : ClassFile.Cond} {a b : Int} {S S' : ob_St} {r : Int × ob_MM} (h : ob_int X X (ob_cnd cd a b S S') = some r) : (ob_P cd a b → X S = some r) ∧ (¬ ob_P cd a b → X S' = some r) := by
  cases cd with
  | eq =>
    have h : (if a = b then X S else X S') = some r := h
    exact ⟨fun q => by rw [if_pos (show a = b from q)] at h; exact h, fun q => by rw [if_neg (show ¬ a = b from q)] at h; exact h⟩
  | ne =>
    have h : (if a = b then X S' else X S) = some r := h
    exact ⟨fun q => by rw [if_neg (show ¬ a = b from q)] at h; exact h, fun q => by rw [if_pos (show a = b from Classical.byContradiction q)] at h; exact h⟩
  | lt =>
    have h : (if a < b then X S else X S') = some r := h
    exact ⟨fun q => by rw [if_pos (show a < b from q)] at h; exact h, fun q => by rw [if_neg (show ¬ a < b from q)] at h; exact h⟩
  | ge =>
    have h : (if a < b then X S' else X S) = some r := h
    exact ⟨fun q => by rw [if_neg (show ¬ a < b from q)] at h; exact h, fun q => by rw [if_pos (show a < b from Classical.byContradiction q)] at h; exact h⟩
  | gt =>
    have h : (if b < a then X S else X S') = some r := h
    exact ⟨fun q => by rw [if_pos (show b < a from q)] at h; exact h, fun q => by rw [if_neg (show ¬ b < a from q)] at h; exact h⟩
  | le =>
    have h : (if b < a then X S' else X S) = some r := h
    exact ⟨fun q => by rw [if_neg (show ¬ b < a from q)] at h; exact h, fun q => by rw [if_pos (show b < a from Classical.byContradiction q)] at h; exact h⟩
section ob_Br
variable {w : ob_Wd} {p : Program} {l : Launch} {e : Env} {R : Room} {s : State} {m : MethodId} {args : Array Value} {below : List Frame} {meth : Method} {c : Code} {Q : State → Prop} {c0 s0 f pc nx nL : Nat} {aux : List Nat} {z : Int} {ls st : List ob_AV} {mm : ob_MM} {S : ob_St}
variable {H : Heap} {locs : List Loc} {cells slots : Nat} {LS : Array Slot} {rest : List Value} {cc : ByteArray} {off : Int} {tgt : Nat} {a b : Int}
theorem ob_Wicmp {cd : ClassFile.Cond} (hx : p.tables.exec = Jvm.exec) (hb : c.code = cc) (hd : decode cc pc = .ok (.if_icmp cd off, 3)) (ht : (pc : Int) + off = (tgt : Int)) (ra : ob_r32 a) (rb : ob_r32 b) (k1 : ob_P cd a b → W p l e R s m args below meth c H locs cells slots Q (F0 m tgt LS rest)) (k2 : ¬ ob_P cd a b → W p l e R s m args below meth c H locs cells slots Q (F0 m (pc + 3) LS rest)) :
    W p l e R s m args below meth c H locs cells slots Q (F0 m pc LS (.int (Int32.ofInt b) :: .int (Int32.ofInt a) :: rest)) := by
  have eq := ob_i_eq ra rb
  have lt := ob_i_lt ra rb
  have gt := ob_i_lt rb ra
  have le := ob_i_le ra rb
  have ge := ob_i_le rb ra
  cases cd with
  | eq => exact lv_icmp_eq hx hb hd ht (fun q => k1 (eq.mp q)) (fun q => k2 (fun z => q (eq.mpr z)))
  | ne => exact lv_icmp_ne hx hb hd ht (fun q => k1 (fun z => q (eq.mpr z))) (fun q => k2 (fun z => z (eq.mp q)))
  | lt => exact lv_icmp_lt hx hb hd ht (fun q => k1 (lt.mp q)) (fun q => k2 (fun z => q (lt.mpr z)))
  | ge => exact lv_icmp_ge hx hb hd ht (fun q => k1 (fun z => by have z : a < b := z; have := ge.mp q; omega)) (fun q => k2 (fun z => q (ge.mpr (by have z : ¬ a < b := z; omega))))
  | gt => exact lv_icmp_gt hx hb hd ht (fun q => k1 (gt.mp q)) (fun q => k2 (fun z => q (gt.mpr z)))
  | le => exact lv_icmp_le hx hb hd ht (fun q => k1 (fun z => by have z : b < a := z; have := le.mp q; omega)) (fun q => k2 (fun z => q (le.mpr (by have z : ¬ b < a := z; omega))))
theorem ob_Wif {cd : ClassFile.Cond} (hx : p.tables.exec = Jvm.exec) (hb : c.code = cc) (hd : decode cc pc = .ok (.ifCond cd off, 3)) (ht : (pc : Int) + off = (tgt : Int)) (ra : ob_r32 a) (k1 : ob_P cd a 0 → W p l e R s m args below meth c H locs cells slots Q (F0 m tgt LS rest)) (k2 : ¬ ob_P cd a 0 → W p l e R s m args below meth c H locs cells slots Q (F0 m (pc + 3) LS rest)) :
    W p l e R s m args below meth c H locs cells slots Q (F0 m pc LS (.int (Int32.ofInt a) :: rest)) := by
  have eq : Int32.ofInt a = 0 ↔ a = 0 := ob_i_eq ra ob_r0
  have lt : Int32.ofInt a < 0 ↔ a < 0 := ob_i_lt ra ob_r0
  have gt : 0 < Int32.ofInt a ↔ 0 < a := ob_i_lt ob_r0 ra
  have le : Int32.ofInt a ≤ 0 ↔ a ≤ 0 := ob_i_le ra ob_r0
  have ge : 0 ≤ Int32.ofInt a ↔ 0 ≤ a := ob_i_le ob_r0 ra
  cases cd with
  | eq => exact lv_if_eq hx hb hd ht (fun q => k1 (eq.mp q)) (fun q => k2 (fun z => q (eq.mpr z)))
  | ne => exact lv_if_ne hx hb hd ht (fun q => k1 (fun z => q (eq.mpr z))) (fun q => k2 (fun z => z (eq.mp q)))
  | lt => exact lv_if_lt hx hb hd ht (fun q => k1 (lt.mp q)) (fun q => k2 (fun z => q (lt.mpr z)))
  | ge => exact lv_if_ge hx hb hd ht (fun q => k1 (fun z => by have z : a < 0 := z; have := ge.mp q; omega)) (fun q => k2 (fun z => q (ge.mpr (by have z : ¬ a < 0 := z; omega))))
  | gt => exact lv_if_gt hx hb hd ht (fun q => k1 (gt.mp q)) (fun q => k2 (fun z => q (gt.mpr z)))
  | le => exact lv_if_le hx hb hd ht (fun q => k1 (fun z => by have z : 0 < a := z; have := le.mp q; omega)) (fun q => k2 (fun z => q (le.mpr (by have z : ¬ 0 < a := z; omega))))
end ob_Br
/-- which state a switch goes to -/
theorem ob_swi_i {X : ob_St → ob_Res} {v : Int} {d : ob_St} {r : Int × ob_MM} : ∀ cs : List (Int × ob_St), ob_swi X v cs d = some r → (∃ S, (v, S) ∈ cs ∧ X S = some r ∧ (∃ i : Nat, cs[i]? = some (v, S) ∧ ∀ (j : Nat) (q : Int × ob_St), j < i → cs[j]? = some q → q.1 ≠ v)) ∨ ((∀ q ∈ cs, q.1 ≠ v) ∧ X d = some r)
  | [], h => Or.inr ⟨(fun _ hq => by cases hq), h⟩
  | q :: cs, h => by
    unfold ob_swi at h
    by_cases c : v = q.1
    · rw [if_pos c] at h
      exact Or.inl ⟨q.2, by rw [c]; exact List.mem_cons_self, h, 0, by rw [c]; simp, fun j _ hj => absurd hj (Nat.not_lt_zero _)⟩
    · rw [if_neg c] at h
      rcases ob_swi_i cs h with ⟨S, h1, h2, i, h3, h4⟩ | ⟨h1, h2⟩
      · refine Or.inl ⟨S, List.mem_cons_of_mem _ h1, h2, i + 1, h3, fun j x hj hx => ?_⟩
        cases j with
        | zero =>
          cases hx
          exact fun z => c z.symm
        | succ j => exact h4 j x (by omega) hx
      · exact Or.inr ⟨fun x hx => (List.mem_cons.mp hx).elim (fun z => by rw [z]; exact fun z => c z.symm) (h1 x), h2⟩
theorem ob_inv_i {X : ob_St → ob_Res} {vt : Bool} {aux : List Nat} {f nx : Nat} {ls st : List ob_AV} {mm : ob_MM} {r : Int × ob_MM} (h : ob_int X X (ob_inv vt aux f nx ls st mm) = some r) : ∃ as rs r1 mm1, ob_pop (ob_nth aux 2 0) [] st = some (as, rs) ∧ ob_wk 8 rs = true ∧ ob_wk (ob_nth aux 5 0) as = true ∧ (vt = true → ob_hd (ob_nth aux 4 0) as = true) ∧ X (ob_nth aux 1 0, 0, ob_mkL as (ob_nth aux 5 0), [], mm) = some (r1, mm1) ∧ X (f, nx, ls, ob_psh (ob_nth aux 3 0) r1 rs, mm1) = some r := by
  unfold ob_inv at h
  cases e : ob_pop (ob_nth aux 2 0) [] st with
  | none => rw [e] at h; cases h
  | some q =>
    obtain ⟨as, rs⟩ := q
    rw [e] at h
    have h : ob_int X X (cond (ob_wk 8 rs && ob_wk (ob_nth aux 5 0) as && (!vt || ob_hd (ob_nth aux 4 0) as)) (ob_ca (ob_nth aux 1 0, 0, ob_mkL as (ob_nth aux 5 0), [], mm) (fun v mm' => (f, nx, ls, ob_psh (ob_nth aux 3 0) v rs, mm'))) (ob_stop none)) = some r := h
    cases e2 : (ob_wk 8 rs && ob_wk (ob_nth aux 5 0) as && (!vt || ob_hd (ob_nth aux 4 0) as)) with
    | false => rw [e2] at h; cases h
    | true =>
      rw [e2] at h
      rw [Bool.and_eq_true, Bool.and_eq_true] at e2
      have h : (X (ob_nth aux 1 0, 0, ob_mkL as (ob_nth aux 5 0), [], mm)).bind (fun q => X (f, nx, ls, ob_psh (ob_nth aux 3 0) q.1 rs, q.2)) = some r := h
      obtain ⟨⟨r1, mm1⟩, h1, h2⟩ := Option.bind_eq_some_iff.mp h
      exact ⟨as, rs, r1, mm1, rfl, e2.1.1, e2.1.2, fun hv => by have := e2.2; rw [hv] at this; exact this, h1, h2⟩
theorem ob_vnin_a : ∀ q ∈ ob_ML, True := fun _ _ => trivial
/-- no invokevirtual of the tables calls a constructor -/
def ob_nvR : List (Option ob_Ent) → Bool
  | [] => true
  | none :: l => ob_nvR l
  | some (.invokevirtual _, _, aux, _) :: l => !decide ((ob_y (ob_nth aux 1 0)).name = "<init>") && ob_nvR l
  | some _ :: l => ob_nvR l
theorem ob_nvR_e : ∀ (r : List (Option ob_Ent)) (k : Nat) {i nx : Nat} {aux : List Nat} {z : Int}, ob_nvR r = true → ob_nth r k none = some (.invokevirtual i, nx, aux, z) → (ob_y (ob_nth aux 1 0)).name ≠ "<init>"
  | [], _, _, _, _, _, _, h => by cases h
  | none :: _, 0, _, _, _, _, _, h => by cases h
  | some x :: l, 0, i, nx, aux, z, hc, h => by
    cases h
    have hc : (!decide ((ob_y (ob_nth aux 1 0)).name = "<init>") && ob_nvR l) = true := hc
    rw [Bool.and_eq_true] at hc
    intro q
    rw [decide_eq_true q] at hc
    cases hc.1
  | none :: l, k + 1, i, nx, aux, z, hc, h => ob_nvR_e l k hc h
  | some x :: l, k + 1, i, nx, aux, z, hc, h => by
    refine ob_nvR_e l k ?_ h
    obtain ⟨ins, a, b, d⟩ := x
    cases ins <;> first | exact hc | (have hc : (!decide ((ob_y (ob_nth b 1 0)).name = "<init>") && ob_nvR l) = true := hc; rw [Bool.and_eq_true] at hc; exact hc.2)
set_option maxRecDepth 1000000 in
theorem ob_nvA : ob_codes.all (fun g => g.all (fun c => c.all ob_nvR)) = true := by decide +kernel
theorem ob_nth_in {α : Type} (d : α) : ∀ (l : List α) (n : Nat), ob_nth l n d = d ∨ ob_nth l n d ∈ l
  | [], _ => Or.inl rfl
  | _ :: _, 0 => Or.inr List.mem_cons_self
  | _ :: l, n + 1 => (ob_nth_in d l n).elim Or.inl (fun h => Or.inr (List.mem_cons_of_mem _ h))
theorem ob_vnin {f pc i nx : Nat} {aux : List Nat} {z : Int} (h : ob_code f pc = some (.invokevirtual i, nx, aux, z)) : (ob_y (ob_nth aux 1 0)).name ≠ "<init>" := by
  unfold ob_code at h
  refine ob_nvR_e _ (pc % 16) ?_ h
  rcases ob_nth_in [] (ob_nth (ob_nth ob_codes (f / 16) []) (f % 16) []) (pc / 16) with q | q
  · rw [q]
    rfl
  rcases ob_nth_in [] (ob_nth ob_codes (f / 16) []) (f % 16) with q2 | q2
  · rw [q2] at q
    cases q
  rcases ob_nth_in [] ob_codes (f / 16) with q3 | q3
  · rw [q3] at q2
    cases q2
  exact List.all_eq_true.mp (List.all_eq_true.mp (List.all_eq_true.mp ob_nvA _ q3) _ q2) _ q
theorem ob_iret_i {X : ob_St → ob_Res} {nx f : Nat} {aux : List Nat} {z : Int} {ls st : List ob_AV} {mm mm' : ob_MM} {r : Int} (h : ob_int X X (ob_ins .ireturn nx aux z f ls st mm) = some (r, mm')) : ∃ a, st = [(1, a)] ∧ (ob_nth aux 0 0 = 0 → r = a ∧ mm' = mm) ∧ (ob_nth aux 0 0 ≠ 0 → r = a ∧ mm' = mm ∧ (a = 0 ∨ a = 1)) := by
  have h9 : ob_int X X (match (generalizing := false) st with
    | [(1, a)] => match (generalizing := false) ob_nth aux 0 0 with
      | 0 => ob_stop (some (a, mm))
      | _ => ob_stop (if a = 0 ∨ a = 1 then some (a, mm) else none)
    | _ => ob_stop none) = some (r, mm') := h
  clear h
  split at h9
  · rename_i a
    refine ⟨a, rfl, ?_⟩
    split at h9
    · rename_i e0
      cases h9
      exact ⟨fun _ => ⟨rfl, rfl⟩, fun q => absurd e0 q⟩
    · rename_i e0
      have h : (if a = 0 ∨ a = 1 then some (a, mm) else none) = some (r, mm') := h9
      refine ⟨fun q => absurd q e0, fun _ => ?_⟩
      by_cases q : a = 0 ∨ a = 1
      · rw [if_pos q] at h
        cases h
        exact ⟨rfl, rfl, q⟩
      · rw [if_neg q] at h
        cases h
  · cases h9
theorem ob_lret_i {X : ob_St → ob_Res} {nx f : Nat} {aux : List Nat} {z : Int} {ls st : List ob_AV} {mm mm' : ob_MM} {r : Int} (h : ob_int X X (ob_ins .lreturn nx aux z f ls st mm) = some (r, mm')) : st = [(2, r)] ∧ mm' = mm := by
  have h : ob_int X X (match (generalizing := false) st with
    | [(2, a)] => ob_stop (some (a, mm))
    | _ => ob_stop none) = some (r, mm') := h
  split at h
  · cases h
    exact ⟨rfl, rfl⟩
  · cases h
theorem ob_vret_i {X : ob_St → ob_Res} {nx f : Nat} {aux : List Nat} {z : Int} {ls st : List ob_AV} {mm mm' : ob_MM} {r : Int} (h : ob_int X X (ob_ins .return_ nx aux z f ls st mm) = some (r, mm')) : st = [] ∧ mm' = mm := by
  have h : ob_int X X (match (generalizing := false) st with
    | [] => ob_stop (some (0, mm))
    | _ => ob_stop none) = some (r, mm') := h
  split at h
  · cases h
    exact ⟨rfl, rfl⟩
  · cases h
theorem ob_lsw {X : ob_St → ob_Res} {pc f : Nat} {ls st : List ob_AV} {mm : ob_MM} {d : Int} {dt : Nat} {v : Int} {r : Int × ob_MM} : ∀ (ps : List (Int × Int)) (ts : List Nat), ps.map (fun o => (pc : Int) + o.2) = ts.map Int.ofNat → (pc : Int) + d = Int.ofNat dt → ob_swi X v ((ps.zip ts).map fun q => (q.1.1, ((f, q.2, ls, st, mm) : ob_St))) (f, dt, ls, st, mm) = some r → ∃ (off : Int) (t : Nat), Op.lookupswitch.offset ps d v = off ∧ (pc : Int) + off = (t : Int) ∧ X (f, t, ls, st, mm) = some r
  | [], ts, _, h2, h => ⟨d, dt, rfl, h2, h⟩
  | q :: ps, [], h1, _, _ => by cases h1
  | q :: ps, t :: ts, h1, h2, h => by
    have h1a : (pc : Int) + q.2 = Int.ofNat t := (List.cons.inj h1).1
    have h1b := (List.cons.inj h1).2
    have h : (if v = q.1 then X (f, t, ls, st, mm) else ob_swi X v ((ps.zip ts).map fun q => (q.1.1, ((f, q.2, ls, st, mm) : ob_St))) (f, dt, ls, st, mm)) = some r := h
    by_cases c : v = q.1
    · rw [if_pos c] at h
      refine ⟨q.2, t, ?_, h1a, h⟩
      simp [Op.lookupswitch.offset, c]
    · rw [if_neg c] at h
      obtain ⟨off, t', k1, k2, k3⟩ := ob_lsw ps ts h1b h2 h
      refine ⟨off, t', ?_, k2, k3⟩
      rw [← k1]
      have c2 : ¬ q.1 = v := fun z => c z.symm
      simp [Op.lookupswitch.offset, c, c2]
theorem ob_st_i {X : ob_St → ob_Res} {idx nx f : Nat} {aux : List Nat} {z : Int} {ls st : List ob_AV} {mm : ob_MM} {r : Int × ob_MM} (h1 : aux ≠ [1]) (h2 : aux ≠ [2]) (h3 : aux ≠ [3]) (h4 : aux ≠ [4]) (h : ob_int X X (ob_ins (.invokestatic idx) nx aux z f ls st mm) = some r) : ob_int X X (ob_inv false aux f nx ls st mm) = some r := by
  have h : ob_int X X (match (generalizing := false) aux with
    | [1] => ob_i1 st _
    | [2] => ob_i1 st _
    | [3] => ob_i1 st _
    | [4] => ob_i1 st _
    | _ => ob_inv false aux f nx ls st mm) = some r := h
  split at h
  · exact absurd rfl h1
  · exact absurd rfl h2
  · exact absurd rfl h3
  · exact absurd rfl h4
  · exact h
theorem ob_st_o {f pc idx nx : Nat} {aux : List Nat} {z : Int} (h1 : aux ≠ [1]) (h2 : aux ≠ [2]) (h3 : aux ≠ [3]) (h4 : aux ≠ [4]) (h : ob_okI f pc (.invokestatic idx) nx aux z = true) : (Nat.beq nx (pc + 3) && ob_okC f idx aux 1 0) = true := by
  have h : (Nat.beq nx (pc + 3) && (match (generalizing := false) aux with
    | [1] => ob_in4 ob_SP (ob_ow f) idx 1 && Nat.ble 1 (ob_rk f)
    | [2] => ob_in4 ob_SP (ob_ow f) idx 2 && Nat.ble 1 (ob_rk f)
    | [3] => ob_in4 ob_SP (ob_ow f) idx 3 && Nat.ble 1 (ob_rk f)
    | [4] => ob_in4 ob_SP (ob_ow f) idx 4 && Nat.ble 1 (ob_rk f)
    | _ => ob_okC f idx aux 1 0)) = true := h
  split at h
  · exact absurd rfl h1
  · exact absurd rfl h2
  · exact absurd rfl h3
  · exact absurd rfl h4
  · exact h
theorem ob_tsw {lo : Int} {f : Nat} {ls st : List ob_AV} {mm : ob_MM} {ts : List Nat} {v : Int} {S : ob_St} {i : Nat} (h : ((ts.zipIdx).map fun q => (lo + (q.2 : Int), ((f, q.1, ls, st, mm) : ob_St)))[i]? = some (v, S)) : ∃ t, ts[i]? = some t ∧ v = lo + (i : Int) ∧ S = (f, t, ls, st, mm) := by
  rw [List.getElem?_map, List.getElem?_zipIdx] at h
  cases e : ts[i]? with
  | none => rw [e] at h; cases h
  | some t =>
    rw [e] at h
    have h := Option.some.inj h
    refine ⟨t, rfl, ?_, (congrArg Prod.snd h).symm⟩
    have := congrArg Prod.fst h
    have this : lo + ((0 + i : Nat) : Int) = v := this
    omega
set_option maxRecDepth 100000 in
set_option maxHeartbeats 4000000 in
theorem ob_snd_succ {w : ob_Wd} {n : Nat} (ih : ob_Snd w n) : ob_Snd w (n + 1) := by
  intro f pc ls st mm r mm' hx p l e R s m args below meth c Q c0 s0 X hb1 hb2 hRe
  have hx : ob_int (ob_ex n) (ob_ex n) (match (generalizing := false) ob_code f pc with
    | none => ob_stop none
    | some (ins, nx, aux, z) => ob_ins ins nx aux z f ls st mm) = some (r, mm') := hx
  cases hcd : ob_code f pc with
  | none => rw [hcd] at hx; cases hx
  | some x =>
  obtain ⟨ins, nx, aux, z⟩ := x
  rw [hcd] at hx
  have hx : ob_int (ob_ex n) (ob_ex n) (ob_ins ins nx aux z f ls st mm) = some (r, mm') := hx
  have hok := (ob_allok hcd).1
  have go : ∀ S : ob_St, S.1 = f → ob_ex n S = some (r, mm') → ob_At w p l e R s m args below meth c Q c0 s0 (ob_mx f) S := by
    rintro ⟨f', pc', ls', st', mm''⟩ hf hS
    have hf : f' = f := hf
    subst hf
    exact ih f' pc' ls' st' mm'' r mm' hS p l e R s m args below meth c Q c0 s0 X hb1 hb2 hRe
  have bd : ∀ S : ob_St, ob_ex n S = some (r, mm') → ob_nA S.2.2.2.2 ≤ R.cells + c0 ∧ ob_nS S.2.2.2.2 ≤ R.slots + s0 := fun S hS => ⟨Nat.le_trans (ob_mono n _ _ hS).1 hb1, Nat.le_trans (ob_mono n _ _ hS).2 hb2⟩
  cases ins with
  | aaload =>
    have sm : ob_sm f (ob_ins (.aaload) nx aux z f ls st mm) := ob_sm_i1 fun _ _ => ob_sm_r1 fun _ _ _ => ob_sm_c (ob_sm_d rfl) ob_sm_n
    obtain ⟨S, h1, h2, h3⟩ := ob_sm_x sm hx
    exact ob_s_aaload X hok h1 (go S h2 h3)
  | aastore =>
    have sm : ob_sm f (ob_ins (.aastore) nx aux z f ls st mm) := ob_sm_r1 fun _ _ _ => ob_sm_i1 fun _ _ => ob_sm_r1 fun _ _ _ => ob_sm_c (by
      split
      · exact ob_sm_d rfl
      · exact ob_sm_stat (ob_sm_d rfl)) ob_sm_n
    obtain ⟨S, h1, h2, h3⟩ := ob_sm_x sm hx
    exact ob_s_aastore X hok h1 (go S h2 h3)
  | aconst_null => cases hx
  | aload k =>
    have sm : ob_sm f (ob_ins (.aload k) nx aux z f ls st mm) := ob_sm_ldr fun _ _ => ob_sm_g rfl
    obtain ⟨S, h1, h2, h3⟩ := ob_sm_x sm hx
    exact ob_s_aload X hok h1 (go S h2 h3)
  | aload_n k =>
    have sm : ob_sm f (ob_ins (.aload_n k) nx aux z f ls st mm) := ob_sm_ldr fun _ _ => ob_sm_g rfl
    obtain ⟨S, h1, h2, h3⟩ := ob_sm_x sm hx
    exact ob_s_aload_n X hok h1 (go S h2 h3)
  | anewarray ki =>
    have sm : ob_sm f (ob_ins (.anewarray ki) nx aux z f ls st mm) := ob_sm_i1 fun _ _ => ob_sm_c ob_sm_new ob_sm_n
    obtain ⟨S, h1, h2, h3⟩ := ob_sm_x sm hx
    exact ob_s_anewarray X hok h1 (go S h2 h3) (bd S h3).1 (bd S h3).2
  | areturn => cases hx
  | arraylength =>
    have sm : ob_sm f (ob_ins (.arraylength) nx aux z f ls st mm) := ob_sm_r1 fun _ _ _ => ob_sm_c (ob_sm_g rfl) ob_sm_n
    obtain ⟨S, h1, h2, h3⟩ := ob_sm_x sm hx
    exact ob_s_arraylength X hok h1 (go S h2 h3)
  | astore k =>
    have sm : ob_sm f (ob_ins (.astore k) nx aux z f ls st mm) := ob_sm_r1 fun _ _ _ => ob_sm_sto fun _ => ob_sm_g rfl
    obtain ⟨S, h1, h2, h3⟩ := ob_sm_x sm hx
    exact ob_s_astore X hok h1 (go S h2 h3)
  | astore_n k =>
    have sm : ob_sm f (ob_ins (.astore_n k) nx aux z f ls st mm) := ob_sm_r1 fun _ _ _ => ob_sm_sto fun _ => ob_sm_g rfl
    obtain ⟨S, h1, h2, h3⟩ := ob_sm_x sm hx
    exact ob_s_astore_n X hok h1 (go S h2 h3)
  | athrow => cases hx
  | baload =>
    have sm : ob_sm f (ob_ins (.baload) nx aux z f ls st mm) := ob_sm_i1 fun _ _ => ob_sm_r1 fun _ _ _ => ob_sm_c (ob_sm_d rfl) ob_sm_n
    obtain ⟨S, h1, h2, h3⟩ := ob_sm_x sm hx
    exact ob_s_baload X hok h1 (go S h2 h3)
  | bastore =>
    have sm : ob_sm f (ob_ins (.bastore) nx aux z f ls st mm) := ob_sm_i1 fun _ _ => ob_sm_i1 fun _ _ => ob_sm_r1 fun _ _ _ => by
      split
      · exact ob_sm_d rfl
      · exact ob_sm_d rfl
      · exact ob_sm_n
    obtain ⟨S, h1, h2, h3⟩ := ob_sm_x sm hx
    exact ob_s_bastore X hok h1 (go S h2 h3)
  | bipush kn =>
    have sm : ob_sm f (ob_ins (.bipush kn) nx aux z f ls st mm) := ob_sm_g rfl
    obtain ⟨S, h1, h2, h3⟩ := ob_sm_x sm hx
    exact ob_s_bipush X hok h1 (go S h2 h3)
  | caload => cases hx
  | castore => cases hx
  | checkcast => cases hx
  | d2f => cases hx
  | d2i => cases hx
  | d2l => cases hx
  | dadd => cases hx
  | daload => cases hx
  | dastore => cases hx
  | dcmp => cases hx
  | dconst => cases hx
  | ddiv => cases hx
  | dload => cases hx
  | dload_n => cases hx
  | dmul => cases hx
  | dneg => cases hx
  | drem => cases hx
  | dreturn => cases hx
  | dstore => cases hx
  | dstore_n => cases hx
  | dsub => cases hx
  | dup =>
    have sm : ob_sm f (ob_ins (.dup) nx aux z f ls st mm) := ob_sm_v1 (K := fun v st => ob_go (f, nx, ls, v :: v :: st, mm)) fun _ _ => ob_sm_g rfl
    obtain ⟨S, h1, h2, h3⟩ := ob_sm_x sm hx
    exact ob_s_dup X hok h1 (go S h2 h3)
  | dup_x1 => cases hx
  | dup_x2 => cases hx
  | dup2 =>
    have sm : ob_sm f (ob_ins (.dup2) nx aux z f ls st mm) := ob_sm_v1 (K := fun v st => ob_v1 st (fun w st => ob_go (f, nx, ls, v :: w :: v :: w :: st, mm))) fun v st => ob_sm_v1 (K := fun w st => ob_go (f, nx, ls, v :: w :: v :: w :: st, mm)) fun _ _ => ob_sm_g rfl
    obtain ⟨S, h1, h2, h3⟩ := ob_sm_x sm hx
    exact ob_s_dup2 X hok h1 (go S h2 h3)
  | dup2_x1 => cases hx
  | dup2_x2 => cases hx
  | f2d => cases hx
  | f2i => cases hx
  | f2l => cases hx
  | fadd => cases hx
  | faload => cases hx
  | fastore => cases hx
  | fcmp => cases hx
  | fconst => cases hx
  | fdiv => cases hx
  | fload => cases hx
  | fload_n => cases hx
  | fmul => cases hx
  | fneg => cases hx
  | frem => cases hx
  | freturn => cases hx
  | fstore => cases hx
  | fstore_n => cases hx
  | fsub => cases hx
  | getfield ki =>
    have sm : ob_sm f (ob_ins (.getfield ki) nx aux z f ls st mm) := ob_sm_r1 fun _ _ _ => ob_sm_c (by
      split
      · exact ob_sm_g rfl
      · exact ob_sm_c (ob_sm_g rfl) ob_sm_n) ob_sm_n
    obtain ⟨S, h1, h2, h3⟩ := ob_sm_x sm hx
    exact ob_s_getfield X hok h1 (go S h2 h3)
  | getstatic => cases hx
  | goto ko =>
    have sm : ob_sm f (ob_ins (.goto ko) nx aux z f ls st mm) := ob_sm_g rfl
    obtain ⟨S, h1, h2, h3⟩ := ob_sm_x sm hx
    exact ob_s_goto X hok h1 (go S h2 h3)
  | goto_w => cases hx
  | i2b =>
    have sm : ob_sm f (ob_ins (.i2b) nx aux z f ls st mm) := ob_sm_i1 fun _ _ => ob_sm_g rfl
    obtain ⟨S, h1, h2, h3⟩ := ob_sm_x sm hx
    exact ob_s_i2b X hok h1 (go S h2 h3)
  | i2c => cases hx
  | i2d => cases hx
  | i2f => cases hx
  | i2l =>
    have sm : ob_sm f (ob_ins (.i2l) nx aux z f ls st mm) := ob_sm_i1 fun _ _ => ob_sm_g rfl
    obtain ⟨S, h1, h2, h3⟩ := ob_sm_x sm hx
    exact ob_s_i2l X hok h1 (go S h2 h3)
  | i2s => cases hx
  | iadd =>
    have sm : ob_sm f (ob_ins (.iadd) nx aux z f ls st mm) := ob_sm_i1 fun _ _ => ob_sm_i1 fun _ _ => ob_sm_g rfl
    obtain ⟨S, h1, h2, h3⟩ := ob_sm_x sm hx
    exact ob_s_iadd X hok h1 (go S h2 h3)
  | iaload =>
    have sm : ob_sm f (ob_ins (.iaload) nx aux z f ls st mm) := ob_sm_i1 fun _ _ => ob_sm_r1 fun _ _ _ => ob_sm_c (ob_sm_d rfl) ob_sm_n
    obtain ⟨S, h1, h2, h3⟩ := ob_sm_x sm hx
    exact ob_s_iaload X hok h1 (go S h2 h3)
  | iand =>
    have sm : ob_sm f (ob_ins (.iand) nx aux z f ls st mm) := ob_sm_i1 fun _ _ => ob_sm_i1 fun _ _ => ob_sm_g rfl
    obtain ⟨S, h1, h2, h3⟩ := ob_sm_x sm hx
    exact ob_s_iand X hok h1 (go S h2 h3)
  | iastore =>
    have sm : ob_sm f (ob_ins (.iastore) nx aux z f ls st mm) := ob_sm_i1 fun _ _ => ob_sm_i1 fun _ _ => ob_sm_r1 fun _ _ _ => ob_sm_c (ob_sm_d rfl) ob_sm_n
    obtain ⟨S, h1, h2, h3⟩ := ob_sm_x sm hx
    exact ob_s_iastore X hok h1 (go S h2 h3)
  | iconst kn =>
    have sm : ob_sm f (ob_ins (.iconst kn) nx aux z f ls st mm) := ob_sm_g rfl
    obtain ⟨S, h1, h2, h3⟩ := ob_sm_x sm hx
    exact ob_s_iconst X hok h1 (go S h2 h3)
  | idiv =>
    have sm : ob_sm f (ob_ins (.idiv) nx aux z f ls st mm) := ob_sm_i1 fun _ _ => ob_sm_i1 fun _ _ => ob_sm_d rfl
    obtain ⟨S, h1, h2, h3⟩ := ob_sm_x sm hx
    exact ob_s_idiv X hok h1 (go S h2 h3)
  | if_acmp => cases hx
  | if_icmp cd off =>
    obtain ⟨b, st, rfl, hx⟩ := ob_i1_i hx
    obtain ⟨a, st, rfl, hx2⟩ := ob_i1_i hx
    obtain ⟨q1, q2⟩ := ob_cnd_i hx2
    have g : (Nat.beq nx (pc + 3) && decide ((pc : Int) + off = Int.ofNat (ob_nth aux 0 0))) = true := ob_okI_of hok
    rw [Bool.and_eq_true] at g
    obtain ⟨hd, rfl⟩ := ob_okd hok g.1
    intro LS H locs I
    exact ob_Wicmp X.1 X.2.1 hd (of_decide_eq_true g.2) (I.2.2.1 (1, a) (List.mem_cons_of_mem _ List.mem_cons_self)) (I.2.2.1 (1, b) List.mem_cons_self) (fun q => go _ rfl (q1 q) LS H locs (ob_Iv_st I (fun v hv => I.2.2.1 v (List.mem_cons_of_mem _ (List.mem_cons_of_mem _ hv))))) (fun q => go _ rfl (q2 q) LS H locs (ob_Iv_st I (fun v hv => I.2.2.1 v (List.mem_cons_of_mem _ (List.mem_cons_of_mem _ hv)))))
  | ifCond cd off =>
    obtain ⟨b, st, rfl, hx⟩ := ob_i1_i hx
    obtain ⟨q1, q2⟩ := ob_cnd_i hx
    have g : (Nat.beq nx (pc + 3) && decide ((pc : Int) + off = Int.ofNat (ob_nth aux 0 0))) = true := ob_okI_of hok
    rw [Bool.and_eq_true] at g
    obtain ⟨hd, rfl⟩ := ob_okd hok g.1
    intro LS H locs I
    exact ob_Wif X.1 X.2.1 hd (of_decide_eq_true g.2) (I.2.2.1 (1, b) List.mem_cons_self) (fun q => go _ rfl (q1 q) LS H locs (ob_Iv_st I (fun v hv => I.2.2.1 v (List.mem_cons_of_mem _ hv)))) (fun q => go _ rfl (q2 q) LS H locs (ob_Iv_st I (fun v hv => I.2.2.1 v (List.mem_cons_of_mem _ hv))))
  | ifnonnull => cases hx
  | ifnull => cases hx
  | iinc k kn =>
    have sm : ob_sm f (ob_ins (.iinc k kn) nx aux z f ls st mm) := ob_sm_ldi fun _ => ob_sm_g rfl
    obtain ⟨S, h1, h2, h3⟩ := ob_sm_x sm hx
    exact ob_s_iinc X hok h1 (go S h2 h3)
  | iload k =>
    have sm : ob_sm f (ob_ins (.iload k) nx aux z f ls st mm) := ob_sm_ldi fun _ => ob_sm_g rfl
    obtain ⟨S, h1, h2, h3⟩ := ob_sm_x sm hx
    exact ob_s_iload X hok h1 (go S h2 h3)
  | iload_n k =>
    have sm : ob_sm f (ob_ins (.iload_n k) nx aux z f ls st mm) := ob_sm_ldi fun _ => ob_sm_g rfl
    obtain ⟨S, h1, h2, h3⟩ := ob_sm_x sm hx
    exact ob_s_iload_n X hok h1 (go S h2 h3)
  | imul =>
    have sm : ob_sm f (ob_ins (.imul) nx aux z f ls st mm) := ob_sm_i1 fun _ _ => ob_sm_i1 fun _ _ => ob_sm_g rfl
    obtain ⟨S, h1, h2, h3⟩ := ob_sm_x sm hx
    exact ob_s_imul X hok h1 (go S h2 h3)
  | ineg => cases hx
  | instanceof => cases hx
  | invokedynamic => cases hx
  | invokeinterface => cases hx
  | invokespecial idx =>
    by_cases ha : aux = [0]
    · subst ha
      have sm : ob_sm f (ob_ins (.invokespecial idx) nx [0] z f ls st mm) := ob_sm_r1 fun _ _ _ => ob_sm_c (ob_sm_g rfl) ob_sm_n
      obtain ⟨S, h1, h2, h3⟩ := ob_sm_x sm hx
      exact ob_s_objInit X hok h1 (go S h2 h3)
    · have hx : ob_int (ob_ex n) (ob_ex n) (match (generalizing := false) aux with
        | [0] => ob_r1 st fun _ _ st => cond (ob_wk 8 st) (ob_go (f, nx, ls, st, mm)) (ob_stop none)
        | _ => ob_inv true aux f nx ls st mm) = some (r, mm') := hx
      have g0 : (Nat.beq nx (pc + 3) && (match (generalizing := false) aux with
        | [0] => ob_in4 ob_SP (ob_ow f) idx 0 && Nat.ble 1 (ob_rk f)
        | _ => ob_okC f idx aux 0 1 && decide ((ob_y (ob_nth aux 1 0)).name = "<init>") && Nat.ble (ob_nth aux 4 0) 8)) = true := ob_okI_of hok
      split at hx
      · exact absurd rfl ha
      split at g0
      · exact absurd rfl ha
      rw [Bool.and_eq_true, Bool.and_eq_true, Bool.and_eq_true] at g0
      obtain ⟨g1, ⟨g2, g3⟩, g4⟩ := g0
      obtain ⟨hd, rfl⟩ := ob_okd hok g1
      obtain ⟨as, rs, r1, mm1, hp, hw8, hwa, hhd, hx1, hx2⟩ := ob_inv_i hx
      exact ob_call_i X ih hd g2 (Nat.ble_eq.mp g4) (of_decide_eq_true g3) hp hw8 hwa (hhd rfl) hx1 (bd _ hx2).1 (bd _ hx2).2 (go _ rfl hx2) rfl
  | invokestatic idx =>
    by_cases ha1 : aux = [1]
    · subst ha1
      have sm : ob_sm f (ob_ins (.invokestatic idx) nx [1] z f ls st mm) := ob_sm_i1 fun _ _ => ob_sm_i1 fun _ _ => ob_sm_r1 fun _ _ _ => ob_sm_i1 fun _ _ => ob_sm_r1 fun _ _ _ => ob_sm_c (ob_sm_d rfl) ob_sm_n
      obtain ⟨S, h1, h2, h3⟩ := ob_sm_x sm hx
      exact ob_s_copy X hok h1 (go S h2 h3)
    by_cases ha2 : aux = [2]
    · subst ha2
      have sm : ob_sm f (ob_ins (.invokestatic idx) nx [2] z f ls st mm) := ob_sm_i1 fun _ _ => ob_sm_i1 fun _ _ => ob_sm_c (ob_sm_g rfl) ob_sm_n
      obtain ⟨S, h1, h2, h3⟩ := ob_sm_x sm hx
      exact ob_s_min X hok h1 (go S h2 h3) (bd S h3).1 (bd S h3).2
    by_cases ha3 : aux = [3]
    · subst ha3
      have sm : ob_sm f (ob_ins (.invokestatic idx) nx [3] z f ls st mm) := ob_sm_i1 fun _ _ => ob_sm_i1 fun _ _ => ob_sm_c (ob_sm_g rfl) ob_sm_n
      obtain ⟨S, h1, h2, h3⟩ := ob_sm_x sm hx
      exact ob_s_max X hok h1 (go S h2 h3) (bd S h3).1 (bd S h3).2
    by_cases ha4 : aux = [4]
    · subst ha4
      have sm : ob_sm f (ob_ins (.invokestatic idx) nx [4] z f ls st mm) := ob_sm_i1 fun _ _ => ob_sm_c (ob_sm_g rfl) ob_sm_n
      obtain ⟨S, h1, h2, h3⟩ := ob_sm_x sm hx
      exact ob_s_abs X hok h1 (go S h2 h3) (bd S h3).1 (bd S h3).2
    have hx : ob_int (ob_ex n) (ob_ex n) (ob_inv false aux f nx ls st mm) = some (r, mm') := ob_st_i ha1 ha2 ha3 ha4 hx
    have g0 : (Nat.beq nx (pc + 3) && ob_okC f idx aux 1 0) = true := ob_st_o ha1 ha2 ha3 ha4 (ob_okI_of hok)
    rw [Bool.and_eq_true] at g0
    obtain ⟨hd, rfl⟩ := ob_okd hok g0.1
    obtain ⟨as, rs, r1, mm1, hp, hw8, hwa, hhd, hx1, hx2⟩ := ob_inv_i hx
    exact ob_call_s X ih hd g0.2 hp hw8 hwa hx1 (bd _ hx2).1 (bd _ hx2).2 (go _ rfl hx2) rfl
  | invokevirtual idx =>
    obtain ⟨as, rs, r1, mm1, hp, hw8, hwa, hhd, hx1, hx2⟩ := ob_inv_i hx
    have g : (Nat.beq nx (pc + 3) && ob_okC f idx aux 0 1 && Nat.ble (ob_nth aux 4 0) 8) = true := ob_okI_of hok
    rw [Bool.and_eq_true, Bool.and_eq_true] at g
    obtain ⟨hd, rfl⟩ := ob_okd hok g.1.1
    have hnin : (ob_y (ob_nth aux 1 0)).name ≠ "<init>" := ob_vnin hcd
    exact ob_call_v X ih hd g.1.2 (Nat.ble_eq.mp g.2) hnin hp hw8 hwa (hhd rfl) hx1 (bd _ hx2).1 (bd _ hx2).2 (go _ rfl hx2) rfl
  | ior =>
    have sm : ob_sm f (ob_ins (.ior) nx aux z f ls st mm) := ob_sm_i1 fun _ _ => ob_sm_i1 fun _ _ => ob_sm_g rfl
    obtain ⟨S, h1, h2, h3⟩ := ob_sm_x sm hx
    exact ob_s_ior X hok h1 (go S h2 h3)
  | irem =>
    have sm : ob_sm f (ob_ins (.irem) nx aux z f ls st mm) := ob_sm_i1 fun _ _ => ob_sm_i1 fun _ _ => ob_sm_d rfl
    obtain ⟨S, h1, h2, h3⟩ := ob_sm_x sm hx
    exact ob_s_irem X hok h1 (go S h2 h3)
  | ireturn =>
    have g : (Nat.beq nx (pc + 1) && (match (generalizing := false) ob_rt f, ob_nth aux 0 0 with
      | some .int, 0 => true
      | some .boolean, 1 => true
      | _, _ => false)) = true := ob_okI_of hok
    rw [Bool.and_eq_true] at g
    obtain ⟨hd, rfl⟩ := ob_okd hok g.1
    obtain ⟨a, rfl, hz⟩ := ob_iret_i hx
    intro LS H locs I
    have ha : ob_r32 a := I.2.2.1 (1, a) List.mem_cons_self
    have g2 := g.2
    split at g2
    · rename_i e1 e2
      obtain ⟨rfl, rfl⟩ := hz.1 e2
      have e3 : ob_rsv f r = some (.int (Int32.ofInt r)) := by unfold ob_rsv; rw [e1]
      have q := hRe pc LS H locs (by unfold ob_rok; rw [e1]; exact ⟨hd, ha⟩) I.1 I.2.2.2.1 I.2.2.2.2.1
      rw [e3] at q
      exact q
    · rename_i e1 e2
      obtain ⟨rfl, rfl, h01⟩ := hz.2 (by rw [e2]; decide)
      have e3 : ob_rsv f r = some (.int (Int32.ofInt r)) := by unfold ob_rsv; rw [e1]
      have q := hRe pc LS H locs (by unfold ob_rok; rw [e1]; exact ⟨hd, h01⟩) I.1 I.2.2.2.1 I.2.2.2.2.1
      rw [e3] at q
      exact q
    · cases g2
  | ishl =>
    have sm : ob_sm f (ob_ins (.ishl) nx aux z f ls st mm) := ob_sm_i1 fun _ _ => ob_sm_i1 fun _ _ => ob_sm_g rfl
    obtain ⟨S, h1, h2, h3⟩ := ob_sm_x sm hx
    exact ob_s_ishl X hok h1 (go S h2 h3)
  | ishr =>
    have sm : ob_sm f (ob_ins (.ishr) nx aux z f ls st mm) := ob_sm_i1 fun _ _ => ob_sm_i1 fun _ _ => ob_sm_g rfl
    obtain ⟨S, h1, h2, h3⟩ := ob_sm_x sm hx
    exact ob_s_ishr X hok h1 (go S h2 h3)
  | istore k =>
    have sm : ob_sm f (ob_ins (.istore k) nx aux z f ls st mm) := ob_sm_i1 fun _ _ => ob_sm_sto fun _ => ob_sm_g rfl
    obtain ⟨S, h1, h2, h3⟩ := ob_sm_x sm hx
    exact ob_s_istore X hok h1 (go S h2 h3)
  | istore_n k =>
    have sm : ob_sm f (ob_ins (.istore_n k) nx aux z f ls st mm) := ob_sm_i1 fun _ _ => ob_sm_sto fun _ => by
      cases aux with
      | nil => exact ob_sm_g rfl
      | cons _ _ => exact ob_sm_seal fun _ => ob_sm_g rfl
    obtain ⟨S, h1, h2, h3⟩ := ob_sm_x sm hx
    exact ob_s_istore_n X hok h1 (go S h2 h3)
  | isub =>
    have sm : ob_sm f (ob_ins (.isub) nx aux z f ls st mm) := ob_sm_i1 fun _ _ => ob_sm_i1 fun _ _ => ob_sm_g rfl
    obtain ⟨S, h1, h2, h3⟩ := ob_sm_x sm hx
    exact ob_s_isub X hok h1 (go S h2 h3)
  | iushr => cases hx
  | ixor => cases hx
  | jsr => cases hx
  | jsr_w => cases hx
  | l2d => cases hx
  | l2f => cases hx
  | l2i => cases hx
  | ladd =>
    have sm : ob_sm f (ob_ins (.ladd) nx aux z f ls st mm) := ob_sm_l1 fun _ _ => ob_sm_l1 fun _ _ => ob_sm_g rfl
    obtain ⟨S, h1, h2, h3⟩ := ob_sm_x sm hx
    exact ob_s_ladd X hok h1 (go S h2 h3)
  | laload => cases hx
  | land => cases hx
  | lastore => cases hx
  | lcmp =>
    have sm : ob_sm f (ob_ins (.lcmp) nx aux z f ls st mm) := ob_sm_l1 fun _ _ => ob_sm_l1 fun _ _ => ob_sm_g rfl
    obtain ⟨S, h1, h2, h3⟩ := ob_sm_x sm hx
    exact ob_s_lcmp X hok h1 (go S h2 h3)
  | lconst kn =>
    have sm : ob_sm f (ob_ins (.lconst kn) nx aux z f ls st mm) := ob_sm_g rfl
    obtain ⟨S, h1, h2, h3⟩ := ob_sm_x sm hx
    exact ob_s_lconst X hok h1 (go S h2 h3)
  | ldc ki =>
    have sm : ob_sm f (ob_ins (.ldc ki) nx aux z f ls st mm) := ob_sm_g rfl
    obtain ⟨S, h1, h2, h3⟩ := ob_sm_x sm hx
    exact ob_s_ldc X hok h1 (go S h2 h3)
  | ldc_w => cases hx
  | ldc2_w ki =>
    have sm : ob_sm f (ob_ins (.ldc2_w ki) nx aux z f ls st mm) := ob_sm_g rfl
    obtain ⟨S, h1, h2, h3⟩ := ob_sm_x sm hx
    exact ob_s_ldc2_w X hok h1 (go S h2 h3)
  | ldiv => cases hx
  | lload k =>
    have sm : ob_sm f (ob_ins (.lload k) nx aux z f ls st mm) := ob_sm_ldl fun _ => ob_sm_g rfl
    obtain ⟨S, h1, h2, h3⟩ := ob_sm_x sm hx
    exact ob_s_lload X hok h1 (go S h2 h3)
  | lload_n k =>
    have sm : ob_sm f (ob_ins (.lload_n k) nx aux z f ls st mm) := ob_sm_ldl fun _ => ob_sm_g rfl
    obtain ⟨S, h1, h2, h3⟩ := ob_sm_x sm hx
    exact ob_s_lload_n X hok h1 (go S h2 h3)
  | lmul =>
    have sm : ob_sm f (ob_ins (.lmul) nx aux z f ls st mm) := ob_sm_l1 fun _ _ => ob_sm_l1 fun _ _ => ob_sm_g rfl
    obtain ⟨S, h1, h2, h3⟩ := ob_sm_x sm hx
    exact ob_s_lmul X hok h1 (go S h2 h3)
  | lneg => cases hx
  | lookupswitch d ps =>
    obtain ⟨v, st, rfl, hx⟩ := ob_i1_i hx
    have hx : ob_swi (ob_ex n) v ((ps.toList.zip aux.tail).map fun q => (q.1.1, (f, q.2, ls, st, mm))) (f, ob_nth aux 0 0, ls, st, mm) = some (r, mm') := hx
    have hd := ob_okdl hok
    have g : (decide ((pc : Int) + d = Int.ofNat (ob_nth aux 0 0)) && decide (ps.toList.map (fun o => (pc : Int) + o.2) = aux.tail.map Int.ofNat) && (ps.toList.zip (ps.toList.drop 1)).all (fun (a, next) => a.1 < next.1)) = true := ob_okI_of hok
    rw [Bool.and_eq_true, Bool.and_eq_true] at g
    have g1 := of_decide_eq_true g.1.1
    have g2 := of_decide_eq_true g.1.2
    intro LS H locs I
    have hv : ob_r32 v := I.2.2.1 (1, v) List.mem_cons_self
    have hvt := ob_i_to hv
    have I2 := ob_Iv_st (st' := st) I (fun v hv => I.2.2.1 v (List.mem_cons_of_mem _ hv))
    have key := ob_lsw (X := ob_ex n) (pc := pc) (f := f) (ls := ls) (st := st) (mm := mm) (d := d) (dt := ob_nth aux 0 0) (v := v) ps.toList aux.tail g2 g1 hx
    obtain ⟨off, t, k1, k2, k3⟩ := key
    refine lv_lookup (off := off) (tgt := t) X.1 X.2.1 hd g.2 (by rw [hvt]; exact k1) k2 ?_
    exact go _ rfl k3 LS H locs I2
  | lor => cases hx
  | lrem => cases hx
  | lreturn =>
    have g : (Nat.beq nx (pc + 1) && decide (ob_rt f = some .long)) = true := ob_okI_of hok
    rw [Bool.and_eq_true] at g
    obtain ⟨hd, rfl⟩ := ob_okd hok g.1
    have e1 := of_decide_eq_true g.2
    obtain ⟨rfl, rfl⟩ := ob_lret_i hx
    intro LS H locs I
    have ha : ob_r64 r := I.2.2.1 (2, r) List.mem_cons_self
    have e3 : ob_rsv f r = some (.long (Int64.ofInt r)) := by unfold ob_rsv; rw [e1]
    have q := hRe pc LS H locs (by unfold ob_rok; rw [e1]; exact ⟨hd, ha⟩) I.1 I.2.2.2.1 I.2.2.2.2.1
    rw [e3] at q
    exact q
  | lshl => cases hx
  | lshr => cases hx
  | lstore k =>
    have sm : ob_sm f (ob_ins (.lstore k) nx aux z f ls st mm) := ob_sm_l1 fun _ _ => ob_sm_sto fun _ => ob_sm_g rfl
    obtain ⟨S, h1, h2, h3⟩ := ob_sm_x sm hx
    exact ob_s_lstore X hok h1 (go S h2 h3)
  | lstore_n k =>
    have sm : ob_sm f (ob_ins (.lstore_n k) nx aux z f ls st mm) := ob_sm_l1 fun _ _ => ob_sm_sto fun _ => ob_sm_g rfl
    obtain ⟨S, h1, h2, h3⟩ := ob_sm_x sm hx
    exact ob_s_lstore_n X hok h1 (go S h2 h3)
  | lsub => cases hx
  | lushr => cases hx
  | lxor => cases hx
  | monitorenter => cases hx
  | monitorexit => cases hx
  | multianewarray => cases hx
  | new ki =>
    have sm : ob_sm f (ob_ins (.new ki) nx aux z f ls st mm) := ob_sm_new
    obtain ⟨S, h1, h2, h3⟩ := ob_sm_x sm hx
    exact ob_s_new X hok h1 (go S h2 h3) (bd S h3).1 (bd S h3).2
  | newarray ka =>
    have sm : ob_sm f (ob_ins (.newarray ka) nx aux z f ls st mm) := ob_sm_i1 fun _ _ => ob_sm_c ob_sm_new ob_sm_n
    obtain ⟨S, h1, h2, h3⟩ := ob_sm_x sm hx
    exact ob_s_newarray X hok h1 (go S h2 h3) (bd S h3).1 (bd S h3).2
  | nop => cases hx
  | pop =>
    have sm : ob_sm f (ob_ins (.pop) nx aux z f ls st mm) := ob_sm_v1 (K := fun _ st => ob_go (f, nx, ls, st, mm)) fun _ _ => ob_sm_g rfl
    obtain ⟨S, h1, h2, h3⟩ := ob_sm_x sm hx
    exact ob_s_pop X hok h1 (go S h2 h3)
  | pop2 => cases hx
  | putfield idx =>
    have sm : ob_sm f (ob_ins (.putfield idx) nx aux z f ls st mm) := by
      show ob_sm f (match (generalizing := false) ob_nth aux 2 0 with
        | 0 => ob_i1 st _
        | tk + 1 => ob_r1 st _)
      split
      · exact ob_sm_i1 fun _ _ => ob_sm_r1 fun _ _ _ => ob_sm_c (by
          split
          · exact ob_sm_g rfl
          · exact ob_sm_d rfl) ob_sm_n
      · exact ob_sm_r1 fun _ _ _ => ob_sm_r1 fun _ _ _ => ob_sm_c (by
          split
          · exact ob_sm_g rfl
          · exact ob_sm_stat (ob_sm_d rfl)) ob_sm_n
    obtain ⟨S, h1, h2, h3⟩ := ob_sm_x sm hx
    exact ob_s_putfield X hok h1 (go S h2 h3)
  | putstatic => cases hx
  | ret => cases hx
  | return_ =>
    have g : (Nat.beq nx (pc + 1) && decide (ob_rt f = none)) = true := ob_okI_of hok
    rw [Bool.and_eq_true] at g
    obtain ⟨hd, rfl⟩ := ob_okd hok g.1
    have e1 := of_decide_eq_true g.2
    obtain ⟨rfl, rfl⟩ := ob_vret_i hx
    intro LS H locs I
    have e3 : ob_rsv f r = none := by unfold ob_rsv; rw [e1]
    have q := hRe pc LS H locs (by unfold ob_rok; rw [e1]; exact hd) I.1 I.2.2.2.1 I.2.2.2.2.1
    rw [e3] at q
    exact q
  | saload => cases hx
  | sastore => cases hx
  | sipush kn =>
    have sm : ob_sm f (ob_ins (.sipush kn) nx aux z f ls st mm) := ob_sm_g rfl
    obtain ⟨S, h1, h2, h3⟩ := ob_sm_x sm hx
    exact ob_s_sipush X hok h1 (go S h2 h3)
  | swap => cases hx
  | tableswitch d lo hi os =>
    obtain ⟨v, st, rfl, hx⟩ := ob_i1_i hx
    have hx : ob_swi (ob_ex n) v ((aux.tail.zipIdx).map fun q => (lo + (q.2 : Int), (f, q.1, ls, st, mm))) (f, ob_nth aux 0 0, ls, st, mm) = some (r, mm') := hx
    have hd := ob_okdl hok
    have g : (decide ((pc : Int) + d = Int.ofNat (ob_nth aux 0 0)) && decide (os.toList.map (fun o => (pc : Int) + o) = aux.tail.map Int.ofNat) && decide (hi + 1 = lo + Int.ofNat aux.tail.length)) = true := ob_okI_of hok
    rw [Bool.and_eq_true, Bool.and_eq_true] at g
    have g1 := of_decide_eq_true g.1.1
    have g2 := of_decide_eq_true g.1.2
    have g3 := of_decide_eq_true g.2
    have g3 : hi + 1 = lo + ((aux.tail.length : Nat) : Int) := g3
    intro LS H locs I
    have hv : ob_r32 v := I.2.2.1 (1, v) List.mem_cons_self
    have hvt := ob_i_to hv
    have I2 := ob_Iv_st (st' := st) I (fun v hv => I.2.2.1 v (List.mem_cons_of_mem _ hv))
    rcases ob_swi_i _ hx with ⟨S, -, hS, i, hi1, -⟩ | ⟨hn, hS⟩
    · obtain ⟨t, ht, hvi, rfl⟩ := ob_tsw hi1
      have hil : i < aux.tail.length := (List.getElem?_eq_some_iff.mp ht).1
      have ho : ∃ off, os[i]? = some off ∧ (pc : Int) + off = (t : Int) := by
        have q : (os.toList.map (fun o => (pc : Int) + o))[i]? = (aux.tail.map Int.ofNat)[i]? := by rw [g2]
        rw [List.getElem?_map, List.getElem?_map, ht, Array.getElem?_toList] at q
        cases e1 : os[i]? with
        | none => rw [e1] at q; cases q
        | some off =>
          rw [e1] at q
          exact ⟨off, rfl, Option.some.inj q⟩
      obtain ⟨off, ho1, ho2⟩ := ho
      refine lv_tableIn (off := off) (tgt := t) X.1 X.2.1 hd (by rw [hvt]; omega) (by rw [hvt]; omega) (by rw [hvt, show (v - lo).toNat = i by omega]; exact ho1) ho2 ?_
      exact go _ rfl hS LS H locs I2
    · have hout : v < lo ∨ hi < v := by
        refine Classical.byContradiction fun q => ?_
        have hq1 : lo ≤ v := by omega
        have hq2 : v ≤ hi := by omega
        have hil : (v - lo).toNat < aux.tail.length := by omega
        obtain ⟨t, ht⟩ : ∃ t, aux.tail[(v - lo).toNat]? = some t := ⟨_, List.getElem?_eq_getElem hil⟩
        have hm : (lo + (((v - lo).toNat : Nat) : Int), ((f, t, ls, st, mm) : ob_St)) ∈ ((aux.tail.zipIdx).map fun q => (lo + (q.2 : Int), ((f, q.1, ls, st, mm) : ob_St))) := by
          refine List.mem_map.mpr ⟨(t, (v - lo).toNat), ?_, rfl⟩
          exact List.mem_zipIdx_iff_getElem?.mpr ht
        exact hn _ hm (by show lo + (((v - lo).toNat : Nat) : Int) = v; omega)
      refine lv_tableOut (tgt := ob_nth aux 0 0) X.1 X.2.1 hd (by rw [hvt]; exact hout) g1 ?_
      exact go _ rfl hS LS H locs I2
theorem ob_snd (w : ob_Wd) : ∀ n : Nat, ob_Snd w n
  | 0 => fun _ _ _ _ _ _ _ h => by cases h
  | n + 1 => ob_snd_succ (ob_snd w n)
end
section
-- ===== end of PART A; then your names; then what follows =====
/-! THE CLAIM OUT OF ONE WALK OF THE LAW'S BODY. Your part is whole_start (and what it stands on); all else here is the same for every law, but numbers. -/
def R_law : String := "OrganBarrelLaw"
def lw_P (b : Addr) (xs : List Int32) (args : Array Value) (s : State) : Prop := args = #[.ref b] ∧ s.IntsAt b xs ∧ xs.length ≤ 2560 ∧ (Jvm.Cond.and given_1 narrow_1).before args s = true
def lw_Q (_ : Array Value) (s : State) (o : Outcome) (t : State) : Prop := o = .returned (some (.int 1)) ∧ Framed s o t [] 600000 7302250
def lw_Z (below : List Frame) (a : Array Value) (s : State) : State → Prop := fun t => ∃ o, t.status = .running ∧ Ended t below o ∧ lw_Q a s o t
/-- the law's own end, with 1 on the stack, nothing written that was there before, its room as the claim has it -/
theorem lw_ret {p : Program} {l : Launch} {e : Env} {s : State} {m : MethodId} {below : List Frame} {meth : Method} {c : Code} {b : Nat} (hx : p.tables.exec = Jvm.exec) (hb : c.code = code) (hr : meth.sig.returnType = ret) (hlocks : meth.locks = false) {pc : Nat} {H : Heap} {ls : Array Slot} (hdg : decode code pc = .ok (.ireturn, 1)) : W p l e room_1 s m #[Value.ref b] below meth c H [] 600000 7302250 (lw_Z below #[Value.ref b] s) (F0 m pc ls [.int 1]) := by
  intro T hT X
  obtain ⟨fs, hret, hrun, hended, hW, hframe⟩ := X.leave (v := some (.int 1)) (hlocks := hlocks) (fun h => by rw [hr] at h; cases h)
  have hmeth' : T.vm.method? m = some meth := X.method'
  refine ⟨T.setFrames fs, ?_, .returned (some (.int 1)), hrun, hended, rfl, ⟨_, rfl⟩, hW, hframe⟩
  jvm_step X.here [X.here.top, hx, hb, hdg, hmeth', hr, ret, narrow_b1]
  (try refine ⟨rfl, ?_⟩); (try refine ⟨rfl, ?_⟩)
  first | (intro acts; rw [hret _ acts rfl rfl rfl]) | rw [hret _ _ rfl rfl rfl]
  exact Steps.refl _
/-- what holds at the law's entry: the machine, the code, the tables' words (any of lw_tbl by 'hts w (by decide +kernel)'), the script of L ints xs at the cell b, what the Statement gives of the start (any of its parts by flat_of_before) -/
def lw_At (p : Program) (s : State) (m : MethodId) (meth : Method) (c : Code) (b L : Nat) (xs : Nat → Int32) : Prop :=
  p.tables.exec = Jvm.exec ∧ c.code = code ∧ meth.sig.returnType = ret ∧ c.maxLocals = 4 ∧ s.vm.findClass R_law = some m.cls ∧ (∀ w ∈ lw_tbl, w.before #[Value.ref b] s = true) ∧ va_X b L xs s s.heap ∧ b < s.heap.size ∧ meth.locks = false ∧ (Jvm.Cond.and given_1 narrow_1).before #[Value.ref b] s = true
def ob_m0 (L : Nat) (xs : Nat → Int32) : ob_Mem := fun k i s => if k = 15 ∧ i = 0 ∧ 0 ≤ s ∧ s < (L : Int) then (xs s.toNat).toInt else if k = 14 ∧ i = 0 ∧ s = 0 then (L : Int) else 0
/-- what is owed of the abstract machine -/
def ob_Owed : Prop := ∀ (L : Nat) (xs : Nat → Int32), L ≤ 2560 → ∃ mF : ob_Mem, ob_E (238, 0, [(18, 0), (0, 0), (0, 0), (0, 0)], [], (ob_m0 L xs, some (0, 0, []))) = some (1, (mF, none))
def ob_atya (a : Nat) : FieldType := match a with
  | 0 => .int
  | 1 => .boolean
  | 2 => .byte
  | a => .object (ob_cn (a - 4))
theorem ob_aty_a : ∀ k, k < 57 → 16 ≤ k → ob_aty k = ob_atya (ob_ai k) ∧ (ob_ai k = 0 ∨ ob_ai k = 1 ∨ ob_ai k = 2 ∨ ob_ai k = 4 ∨ ob_ai k = 7 ∨ ob_ai k = 9) := by decide +kernel
theorem ob_AO_k : ∀ k, k < 57 → 16 ≤ k → (ob_kq k).2.1 = 3 → (ob_kq k).2.2.1 = 1 ∨ (ob_kq k).2.2.1 = 4 ∨ (ob_kq k).2.2.1 = 6 := by decide +kernel
theorem ob_arrof {s : State} {cA : ClassId} {kA : Class} {comp : ClassId} {ty : FieldType} (h1 : s.vm.classes[cA]? = some kA) (h2 : kA.kind = .array comp ty) : ArrOfT s cA ty := by
  intro n z
  exact ⟨(fun q => by intro h; cases h), kA, h1, comp, h2⟩
set_option maxRecDepth 100000 in
theorem ob_AOw0 : Cond.arrayOver (.object "OrganBarrel$Barrel") ∈ lw_tbl := List.mem_of_getElem? (i := 279) rfl
set_option maxRecDepth 100000 in
theorem ob_AOw3 : Cond.arrayOver (.object "OrganBarrel$Notes") ∈ lw_tbl := List.mem_of_getElem? (i := 137) rfl
set_option maxRecDepth 100000 in
theorem ob_AOw5 : Cond.arrayOver (.object "OrganBarrel$Pins") ∈ lw_tbl := List.mem_of_getElem? (i := 139) rfl
theorem ob_m0_r {L : Nat} {xs : Nat → Int32} (hL : L ≤ 2560) (k : Nat) (i s : Int) : ob_r32 (ob_m0 L xs k i s) := by
  unfold ob_m0
  split
  · exact ob_i_r _
  · split
    · exact ⟨by omega, by omega⟩
    · exact ob_r0
set_option maxHeartbeats 4000000 in
set_option maxRecDepth 100000 in
theorem ob_whole (hO : ob_Owed) {p : Program} {e : Env} {s : State} {m : MethodId} {below : List Frame} {meth : Method} {c : Code} (l : Launch) {b L : Nat} {xs : Nat → Int32} (hL : L ≤ 2560) (C0 : lw_At p s m meth c b L xs) : W p l e room_1 s m #[Value.ref b] below meth c s.heap [] 0 0 (lw_Z below #[Value.ref b] s) (entryFrame m ([Value.ref b] : List Value).toArray 4) := by
  obtain ⟨hx, hb, hr, hml, hown, hts, hX, hbl, hlocks, hgv⟩ := id C0
  have hg : ∀ x ∈ ob_gt, x.before #[Value.ref b] s = true := fun x h => hts x (List.mem_filter.mp h).1
  have hcls : ∀ t : Nat, ∃ q : ClassId × (Nat → Nat), t ≤ 8 → u_Kn s (ob_cn t) (ob_TT t) (ob_ns t) q.1 q.2 := by
    intro t
    by_cases h8 : t ≤ 8
    · obtain ⟨cC, iS, hK⟩ := u_known (C := ob_cn t) (T := ob_TT t) (N := ob_ns t) hg (ob_lays9 h8) (hg _ (ob_isl (by omega)))
      exact ⟨(cC, iS), fun _ => hK⟩
    · exact ⟨(0, fun _ => 0), fun h => absurd h h8⟩
  obtain ⟨F, hF⟩ := Classical.skolem.mp hcls
  have hprim : ∀ ty : FieldType, Cond.arrayClass ty ∈ ob_gt → (∀ cA : ClassId, s.vm.findClass ("[" ++ ty.toString) = some cA → va_RA s cA ty) → ∃ cA : ClassId, ArrOfT s cA ty ∧ va_RA s cA ty := by
    intro ty hw hra
    obtain ⟨cA, kA, comp, f1, f2, f3⟩ := Cond.arrayClass_spec (hg _ hw)
    exact ⟨cA, ob_arrof f2 f3, hra _ f1⟩
  have hobj : ∀ C : String, Cond.arrayOver (.object C) ∈ lw_tbl → ∃ cA : ClassId, ArrOfT s cA (.object C) ∧ va_RA s cA (.object C) := by
    intro C hw
    obtain ⟨comp, cA, kA, f1, f2, f3, f4, f5⟩ := Cond.arrayOver_spec (hts _ hw)
    exact ⟨cA, ob_arrof f3 f4, kA, comp, f3, f4, f1, f5⟩
  have harr : ∀ a : Nat, ∃ cA : ClassId, (a = 0 ∨ a = 1 ∨ a = 2 ∨ a = 4 ∨ a = 7 ∨ a = 9) → ArrOfT s cA (ob_atya a) ∧ va_RA s cA (ob_atya a) := by
    intro a
    by_cases h : a = 0 ∨ a = 1 ∨ a = 2 ∨ a = 4 ∨ a = 7 ∨ a = 9
    · rcases h with rfl | rfl | rfl | rfl | rfl | rfl
      · obtain ⟨cA, h⟩ := hprim .int ob_ac_i (fun _ q => q)
        exact ⟨cA, fun _ => h⟩
      · obtain ⟨cA, h⟩ := hprim .boolean ob_ac_z (fun _ q => q)
        exact ⟨cA, fun _ => h⟩
      · obtain ⟨cA, h⟩ := hprim .byte ob_ac_b (fun _ q => q)
        exact ⟨cA, fun _ => h⟩
      · obtain ⟨cA, h⟩ := hobj _ ob_AOw0
        exact ⟨cA, fun _ => h⟩
      · obtain ⟨cA, h⟩ := hobj _ ob_AOw3
        exact ⟨cA, fun _ => h⟩
      · obtain ⟨cA, h⟩ := hobj _ ob_AOw5
        exact ⟨cA, fun _ => h⟩
    · exact ⟨0, fun q => absurd q h⟩
  obtain ⟨A, hA⟩ := Classical.skolem.mp harr
  have hKK : ob_KK (b, L, s.heap.size, xs, (fun t => (F t).1), (fun t => (F t).2), A) s := by
    refine ⟨⟨fun t q hq => ?_, fun k q h => by simp at h⟩, fun k h1 h2 => ?_, fun q hq => ?_, fun k h1 h2 h3 => ?_⟩
    · have ht : t ≤ 8 := by
        have : t < 9 := (List.getElem?_eq_some_iff.mp hq).1
        omega
      rw [ob_clk t ht] at hq
      cases hq
      exact hF t ht
    · have q := ob_aty_a k h2 h1
      rw [q.1]
      exact hA _ q.2
    · exact va_Nw.of rfl (hts _ (List.mem_of_getElem? (ob_MNk q hq)))
    · rcases ob_AO_k k h2 h1 h3 with e | e | e
      · rw [e]
        exact va_AO.of (hts _ ob_AOw0)
      · rw [e]
        exact va_AO.of (hts _ ob_AOw3)
      · rw [e]
        exact va_AO.of (hts _ ob_AOw5)
  generalize hw : ((b, L, s.heap.size, xs, (fun t => (F t).1), (fun t => (F t).2), A) : ob_Wd) = w at hKK
  have wb : ob_b w = b := by rw [← hw]
  have wL : ob_L w = L := by rw [← hw]
  have wz : ob_sz w = s.heap.size := by rw [← hw]
  have wx : ob_xs w = xs := by rw [← hw]
  obtain ⟨mF, hE⟩ := hO L xs hL
  obtain ⟨n, hn⟩ := ob_E_to hE
  have hcx : ob_Cx w p room_1 s m #[Value.ref b] meth c 238 := by
    refine ⟨hx, hb, hml, hown, hg, hlocks, hr, fun q => absurd rfl q, hKK, by rw [wb, wL, wx]; exact hX, ⟨by rw [wb, wz]; exact hbl, by rw [wz]; exact Nat.le_refl _⟩, by decide, by decide⟩
  have K := ob_snd w n 238 0 _ [] _ 1 (mF, none) hn p l e room_1 s m #[Value.ref b] below meth c (lw_Z below #[Value.ref b] s) 0 0 hcx (show ob_layN ≤ 600000 + 0 from Nat.le_of_ble_eq_true rfl) (show ob_sltN ≤ 7302250 + 0 from Nat.le_of_ble_eq_true rfl) ?_
  · have hl := lv_entry ([.ref b]) (n := 4) (Nat.le_of_ble_eq_true rfl)
    rw [lg_entry_eq]
    generalize (lg_sl ([.ref b]) ++ List.replicate (4 - (lg_sl ([.ref b])).length) Slot.unset).toArray = LS at hl ⊢
    refine K LS s.heap [] ⟨⟨by rw [wz]; rfl, Nat.zero_le _, fun k i h => absurd h (Nat.not_lt_zero _), ob_m0_r hL, ⟨?_, fun j hj => ?_⟩, fun k i s h => absurd h (Nat.not_lt_zero _), fun C hC => ?_⟩, ⟨hl.1, hl.2.1, rfl, fun k hk => ?_⟩, (fun v hv => by cases hv), fun _ _ => rfl, (fun q hq => by cases hq), Nat.le_refl _, Nat.le_refl _⟩
    · rw [wL]
      show ob_m0 L xs 14 0 0 = _
      unfold ob_m0
      rw [if_neg (fun q => absurd q.1 (by decide)), if_pos ⟨rfl, rfl, rfl⟩]
    · rw [wL] at hj
      rw [wx]
      show ob_m0 L xs 15 0 (j : Int) = _
      unfold ob_m0
      rw [if_pos ⟨rfl, rfl, by omega, by omega⟩]
      rfl
    · cases hC
      refine ⟨(fun q hq => by cases hq), fun k i s h1 h2 _ => ?_⟩
      show ob_m0 L xs k i s = 0
      unfold ob_m0
      rw [if_neg (fun q => h2 q.1), if_neg (fun q => h1 q.1)]
    · match k, hk with
      | 0, _ =>
        refine ⟨?_, Or.inl ⟨rfl, rfl⟩⟩
        rw [show ob_cv w (ob_nth [(18, 0), (0, 0), (0, 0), (0, 0)] 0 (0, 0)) = Value.ref b from by rw [← wb]; rfl]
        exact lv_at hl 0 rfl
      | 1, h => exact absurd rfl h
      | 2, h => exact absurd rfl h
      | 3, h => exact absurd rfl h
      | k + 4, h => exact absurd (by rw [ob_nth_ge _ _ _ (by show 4 ≤ k + 4; omega)]) h
  · intro pc LS H locs hro hRp hfr hlo
    have hro : decode (ob_by 238) pc = .ok (.ireturn, 1) ∧ ((1 : Int) = 0 ∨ (1 : Int) = 1) := hro
    refine va_forget (fun q hq => by rw [← wz]; exact hlo q hq) ?_
    refine W.widen (k := 600000) (n := 7302250) (show ob_layN ≤ 600000 from Nat.le_of_ble_eq_true rfl) (show ob_sltN ≤ 7302250 from Nat.le_of_ble_eq_true rfl) ?_
    exact lw_ret hx hb hr hlocks hro.1
end
