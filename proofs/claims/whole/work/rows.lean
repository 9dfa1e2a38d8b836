section
-- ===== PART A: goes FIRST, ahead of the names: the tables' words, and 'selects' of the private methods out of them =====
/-- a private method of a class that the tables say can be made, by its rows of tables_1 -/
def lw_okq (q : MethodName × Nat) : Prop := (q.1.cls ≠ "java/lang/invoke/MethodHandle" ∧ q.1.cls ≠ "java/lang/invoke/VarHandle") ∧ Cond.instantiable q.1.cls q.2 ∈ tables_1 ∧ Cond.privateMethod q.1 ∈ tables_1 ∧ Cond.instanceMethod q.1 ∈ tables_1
theorem lw_p0 : lw_okq (⟨"QuotaParish$Reader", "nextToken", "()V"⟩, 12) := ⟨⟨by decide +kernel, by decide +kernel⟩, List.mem_of_getElem? (i := 173) (by decide +kernel), List.mem_of_getElem? (i := 470) (by decide +kernel), List.mem_of_getElem? (i := 471) (by decide +kernel)⟩
theorem lw_p1 : lw_okq (⟨"QuotaParish$Reader", "readDigits", "(I)I"⟩, 12) := ⟨⟨by decide +kernel, by decide +kernel⟩, List.mem_of_getElem? (i := 173) (by decide +kernel), List.mem_of_getElem? (i := 487) (by decide +kernel), List.mem_of_getElem? (i := 488) (by decide +kernel)⟩
theorem lw_p2 : lw_okq (⟨"QuotaParish$Reader", "readLine", "(I)V"⟩, 12) := ⟨⟨by decide +kernel, by decide +kernel⟩, List.mem_of_getElem? (i := 173) (by decide +kernel), List.mem_of_getElem? (i := 491) (by decide +kernel), List.mem_of_getElem? (i := 492) (by decide +kernel)⟩
theorem lw_p3 : lw_okq (⟨"QuotaParish$Reader", "lineOf", "(I)I"⟩, 12) := ⟨⟨by decide +kernel, by decide +kernel⟩, List.mem_of_getElem? (i := 173) (by decide +kernel), List.mem_of_getElem? (i := 495) (by decide +kernel), List.mem_of_getElem? (i := 496) (by decide +kernel)⟩
theorem lw_p4 : lw_okq (⟨"QuotaParish$Reader", "parishLine", "()I"⟩, 12) := ⟨⟨by decide +kernel, by decide +kernel⟩, List.mem_of_getElem? (i := 173) (by decide +kernel), List.mem_of_getElem? (i := 499) (by decide +kernel), List.mem_of_getElem? (i := 500) (by decide +kernel)⟩
theorem lw_p5 : lw_okq (⟨"QuotaParish$Reader", "spells", "(Ljava/lang/String;)Z"⟩, 12) := ⟨⟨by decide +kernel, by decide +kernel⟩, List.mem_of_getElem? (i := 173) (by decide +kernel), List.mem_of_getElem? (i := 504) (by decide +kernel), List.mem_of_getElem? (i := 505) (by decide +kernel)⟩
theorem lw_p6 : lw_okq (⟨"QuotaParish$Reader", "yearsLine", "()I"⟩, 12) := ⟨⟨by decide +kernel, by decide +kernel⟩, List.mem_of_getElem? (i := 173) (by decide +kernel), List.mem_of_getElem? (i := 561) (by decide +kernel), List.mem_of_getElem? (i := 562) (by decide +kernel)⟩
theorem lw_p7 : lw_okq (⟨"QuotaParish$Reader", "breakOff", "()V"⟩, 12) := ⟨⟨by decide +kernel, by decide +kernel⟩, List.mem_of_getElem? (i := 173) (by decide +kernel), List.mem_of_getElem? (i := 570) (by decide +kernel), List.mem_of_getElem? (i := 571) (by decide +kernel)⟩
theorem lw_p8 : lw_okq (⟨"QuotaParish$Reader", "isFull", "(II)Z"⟩, 12) := ⟨⟨by decide +kernel, by decide +kernel⟩, List.mem_of_getElem? (i := 173) (by decide +kernel), List.mem_of_getElem? (i := 574) (by decide +kernel), List.mem_of_getElem? (i := 575) (by decide +kernel)⟩
theorem lw_p9 : lw_okq (⟨"QuotaParish$Reader", "isRule", "(II)Z"⟩, 12) := ⟨⟨by decide +kernel, by decide +kernel⟩, List.mem_of_getElem? (i := 173) (by decide +kernel), List.mem_of_getElem? (i := 578) (by decide +kernel), List.mem_of_getElem? (i := 579) (by decide +kernel)⟩
theorem lw_p10 : lw_okq (⟨"QuotaParish$Reader", "noteFault", "(II)V"⟩, 12) := ⟨⟨by decide +kernel, by decide +kernel⟩, List.mem_of_getElem? (i := 173) (by decide +kernel), List.mem_of_getElem? (i := 582) (by decide +kernel), List.mem_of_getElem? (i := 583) (by decide +kernel)⟩
theorem lw_p11 : lw_okq (⟨"QuotaParish$Reader", "limitOf", "(III)I"⟩, 12) := ⟨⟨by decide +kernel, by decide +kernel⟩, List.mem_of_getElem? (i := 173) (by decide +kernel), List.mem_of_getElem? (i := 586) (by decide +kernel), List.mem_of_getElem? (i := 587) (by decide +kernel)⟩
theorem lw_p12 : lw_okq (⟨"QuotaParish$Reader", "isRepeated", "(I)Z"⟩, 12) := ⟨⟨by decide +kernel, by decide +kernel⟩, List.mem_of_getElem? (i := 173) (by decide +kernel), List.mem_of_getElem? (i := 596) (by decide +kernel), List.mem_of_getElem? (i := 597) (by decide +kernel)⟩
theorem lw_p13 : lw_okq (⟨"QuotaParish$Reader", "keepLine", "(II)V"⟩, 12) := ⟨⟨by decide +kernel, by decide +kernel⟩, List.mem_of_getElem? (i := 173) (by decide +kernel), List.mem_of_getElem? (i := 600) (by decide +kernel), List.mem_of_getElem? (i := 601) (by decide +kernel)⟩
theorem lw_p14 : lw_okq (⟨"QuotaParish$Reader", "keepParishLine", "(I)V"⟩, 12) := ⟨⟨by decide +kernel, by decide +kernel⟩, List.mem_of_getElem? (i := 173) (by decide +kernel), List.mem_of_getElem? (i := 608) (by decide +kernel), List.mem_of_getElem? (i := 609) (by decide +kernel)⟩
theorem lw_p15 : lw_okq (⟨"QuotaParish", "keepText", "(II)V"⟩, 9) := ⟨⟨by decide +kernel, by decide +kernel⟩, List.mem_of_getElem? (i := 22) (by decide +kernel), List.mem_of_getElem? (i := 620) (by decide +kernel), List.mem_of_getElem? (i := 621) (by decide +kernel)⟩
def lw_privs_1 : List (MethodName × Nat) := [(⟨"QuotaParish$Reader", "nextToken", "()V"⟩, 12), (⟨"QuotaParish$Reader", "readDigits", "(I)I"⟩, 12), (⟨"QuotaParish$Reader", "readLine", "(I)V"⟩, 12), (⟨"QuotaParish$Reader", "lineOf", "(I)I"⟩, 12), (⟨"QuotaParish$Reader", "parishLine", "()I"⟩, 12), (⟨"QuotaParish$Reader", "spells", "(Ljava/lang/String;)Z"⟩, 12), (⟨"QuotaParish$Reader", "yearsLine", "()I"⟩, 12), (⟨"QuotaParish$Reader", "breakOff", "()V"⟩, 12), (⟨"QuotaParish$Reader", "isFull", "(II)Z"⟩, 12), (⟨"QuotaParish$Reader", "isRule", "(II)Z"⟩, 12), (⟨"QuotaParish$Reader", "noteFault", "(II)V"⟩, 12), (⟨"QuotaParish$Reader", "limitOf", "(III)I"⟩, 12), (⟨"QuotaParish$Reader", "isRepeated", "(I)Z"⟩, 12), (⟨"QuotaParish$Reader", "keepLine", "(II)V"⟩, 12), (⟨"QuotaParish$Reader", "keepParishLine", "(I)V"⟩, 12), (⟨"QuotaParish", "keepText", "(II)V"⟩, 9)]
theorem lw_r1 : ∀ q ∈ lw_privs_1, lw_okq q := List.forall_mem_cons.mpr ⟨lw_p0, List.forall_mem_cons.mpr ⟨lw_p1, List.forall_mem_cons.mpr ⟨lw_p2, List.forall_mem_cons.mpr ⟨lw_p3, List.forall_mem_cons.mpr ⟨lw_p4, List.forall_mem_cons.mpr ⟨lw_p5, List.forall_mem_cons.mpr ⟨lw_p6, List.forall_mem_cons.mpr ⟨lw_p7, List.forall_mem_cons.mpr ⟨lw_p8, List.forall_mem_cons.mpr ⟨lw_p9, List.forall_mem_cons.mpr ⟨lw_p10, List.forall_mem_cons.mpr ⟨lw_p11, List.forall_mem_cons.mpr ⟨lw_p12, List.forall_mem_cons.mpr ⟨lw_p13, List.forall_mem_cons.mpr ⟨lw_p14, List.forall_mem_cons.mpr ⟨lw_p15, fun _ h => absurd h List.not_mem_nil⟩⟩⟩⟩⟩⟩⟩⟩⟩⟩⟩⟩⟩⟩⟩⟩
theorem lw_p16 : lw_okq (⟨"QuotaParish$Levy", "giveOneMore", "()V"⟩, 3) := ⟨⟨by decide +kernel, by decide +kernel⟩, List.mem_of_getElem? (i := 234) (by decide +kernel), List.mem_of_getElem? (i := 694) (by decide +kernel), List.mem_of_getElem? (i := 695) (by decide +kernel)⟩
theorem lw_p17 : lw_okq (⟨"QuotaParish", "houseDetail", "(LQuotaParish$Parish;I)I"⟩, 9) := ⟨⟨by decide +kernel, by decide +kernel⟩, List.mem_of_getElem? (i := 22) (by decide +kernel), List.mem_of_getElem? (i := 698) (by decide +kernel), List.mem_of_getElem? (i := 699) (by decide +kernel)⟩
theorem lw_p18 : lw_okq (⟨"QuotaParish$Course", "loseOffice", "(I)Z"⟩, 10) := ⟨⟨by decide +kernel, by decide +kernel⟩, List.mem_of_getElem? (i := 226) (by decide +kernel), List.mem_of_getElem? (i := 763) (by decide +kernel), List.mem_of_getElem? (i := 764) (by decide +kernel)⟩
theorem lw_p19 : lw_okq (⟨"QuotaParish$Course", "changeQuota", "(I)Z"⟩, 10) := ⟨⟨by decide +kernel, by decide +kernel⟩, List.mem_of_getElem? (i := 226) (by decide +kernel), List.mem_of_getElem? (i := 767) (by decide +kernel), List.mem_of_getElem? (i := 768) (by decide +kernel)⟩
theorem lw_p20 : lw_okq (⟨"QuotaParish$Course", "changePrice", "(I)Z"⟩, 10) := ⟨⟨by decide +kernel, by decide +kernel⟩, List.mem_of_getElem? (i := 226) (by decide +kernel), List.mem_of_getElem? (i := 771) (by decide +kernel), List.mem_of_getElem? (i := 772) (by decide +kernel)⟩
theorem lw_p21 : lw_okq (⟨"QuotaParish$Course", "cutRule", "(I)Z"⟩, 10) := ⟨⟨by decide +kernel, by decide +kernel⟩, List.mem_of_getElem? (i := 226) (by decide +kernel), List.mem_of_getElem? (i := 775) (by decide +kernel), List.mem_of_getElem? (i := 776) (by decide +kernel)⟩
theorem lw_p22 : lw_okq (⟨"QuotaParish$Annals", "note", "(III)V"⟩, 7) := ⟨⟨by decide +kernel, by decide +kernel⟩, List.mem_of_getElem? (i := 349) (by decide +kernel), List.mem_of_getElem? (i := 780) (by decide +kernel), List.mem_of_getElem? (i := 781) (by decide +kernel)⟩
theorem lw_p23 : lw_okq (⟨"QuotaParish$Outlook", "draw", "(I)I"⟩, 2) := ⟨⟨by decide +kernel, by decide +kernel⟩, List.mem_of_getElem? (i := 336) (by decide +kernel), List.mem_of_getElem? (i := 816) (by decide +kernel), List.mem_of_getElem? (i := 817) (by decide +kernel)⟩
theorem lw_p24 : lw_okq (⟨"QuotaParish$Buying", "isDriven", "(II)Z"⟩, 8) := ⟨⟨by decide +kernel, by decide +kernel⟩, List.mem_of_getElem? (i := 300) (by decide +kernel), List.mem_of_getElem? (i := 831) (by decide +kernel), List.mem_of_getElem? (i := 832) (by decide +kernel)⟩
theorem lw_p25 : lw_okq (⟨"QuotaParish$Buying", "noteBuyer", "(I)V"⟩, 8) := ⟨⟨by decide +kernel, by decide +kernel⟩, List.mem_of_getElem? (i := 300) (by decide +kernel), List.mem_of_getElem? (i := 841) (by decide +kernel), List.mem_of_getElem? (i := 842) (by decide +kernel)⟩
theorem lw_p26 : lw_okq (⟨"QuotaParish$Buying", "fillMargins", "(LQuotaParish$Parish;II)V"⟩, 8) := ⟨⟨by decide +kernel, by decide +kernel⟩, List.mem_of_getElem? (i := 300) (by decide +kernel), List.mem_of_getElem? (i := 866) (by decide +kernel), List.mem_of_getElem? (i := 867) (by decide +kernel)⟩
theorem lw_p27 : lw_okq (⟨"QuotaParish$Buying", "goodsOf", "(I)I"⟩, 8) := ⟨⟨by decide +kernel, by decide +kernel⟩, List.mem_of_getElem? (i := 300) (by decide +kernel), List.mem_of_getElem? (i := 871) (by decide +kernel), List.mem_of_getElem? (i := 872) (by decide +kernel)⟩
theorem lw_p28 : lw_okq (⟨"QuotaParish$Buying", "takeTurn", "(LQuotaParish$Parish;III)V"⟩, 8) := ⟨⟨by decide +kernel, by decide +kernel⟩, List.mem_of_getElem? (i := 300) (by decide +kernel), List.mem_of_getElem? (i := 876) (by decide +kernel), List.mem_of_getElem? (i := 877) (by decide +kernel)⟩
theorem lw_p29 : lw_okq (⟨"QuotaParish$Fitting", "isAsLogged", "(LQuotaParish$Parish;LQuotaParish$Pairs;)Z"⟩, 6) := ⟨⟨by decide +kernel, by decide +kernel⟩, List.mem_of_getElem? (i := 381) (by decide +kernel), List.mem_of_getElem? (i := 1099) (by decide +kernel), List.mem_of_getElem? (i := 1100) (by decide +kernel)⟩
theorem lw_p30 : lw_okq (⟨"QuotaParish$Fitting", "packedTaxes", "()J"⟩, 6) := ⟨⟨by decide +kernel, by decide +kernel⟩, List.mem_of_getElem? (i := 381) (by decide +kernel), List.mem_of_getElem? (i := 1105) (by decide +kernel), List.mem_of_getElem? (i := 1106) (by decide +kernel)⟩
theorem lw_p31 : lw_okq (⟨"QuotaParish$Fitting", "leftAtWorst", "(I)I"⟩, 6) := ⟨⟨by decide +kernel, by decide +kernel⟩, List.mem_of_getElem? (i := 381) (by decide +kernel), List.mem_of_getElem? (i := 1113) (by decide +kernel), List.mem_of_getElem? (i := 1114) (by decide +kernel)⟩
def lw_privs_2 : List (MethodName × Nat) := [(⟨"QuotaParish$Levy", "giveOneMore", "()V"⟩, 3), (⟨"QuotaParish", "houseDetail", "(LQuotaParish$Parish;I)I"⟩, 9), (⟨"QuotaParish$Course", "loseOffice", "(I)Z"⟩, 10), (⟨"QuotaParish$Course", "changeQuota", "(I)Z"⟩, 10), (⟨"QuotaParish$Course", "changePrice", "(I)Z"⟩, 10), (⟨"QuotaParish$Course", "cutRule", "(I)Z"⟩, 10), (⟨"QuotaParish$Annals", "note", "(III)V"⟩, 7), (⟨"QuotaParish$Outlook", "draw", "(I)I"⟩, 2), (⟨"QuotaParish$Buying", "isDriven", "(II)Z"⟩, 8), (⟨"QuotaParish$Buying", "noteBuyer", "(I)V"⟩, 8), (⟨"QuotaParish$Buying", "fillMargins", "(LQuotaParish$Parish;II)V"⟩, 8), (⟨"QuotaParish$Buying", "goodsOf", "(I)I"⟩, 8), (⟨"QuotaParish$Buying", "takeTurn", "(LQuotaParish$Parish;III)V"⟩, 8), (⟨"QuotaParish$Fitting", "isAsLogged", "(LQuotaParish$Parish;LQuotaParish$Pairs;)Z"⟩, 6), (⟨"QuotaParish$Fitting", "packedTaxes", "()J"⟩, 6), (⟨"QuotaParish$Fitting", "leftAtWorst", "(I)I"⟩, 6)]
theorem lw_r2 : ∀ q ∈ lw_privs_2, lw_okq q := List.forall_mem_cons.mpr ⟨lw_p16, List.forall_mem_cons.mpr ⟨lw_p17, List.forall_mem_cons.mpr ⟨lw_p18, List.forall_mem_cons.mpr ⟨lw_p19, List.forall_mem_cons.mpr ⟨lw_p20, List.forall_mem_cons.mpr ⟨lw_p21, List.forall_mem_cons.mpr ⟨lw_p22, List.forall_mem_cons.mpr ⟨lw_p23, List.forall_mem_cons.mpr ⟨lw_p24, List.forall_mem_cons.mpr ⟨lw_p25, List.forall_mem_cons.mpr ⟨lw_p26, List.forall_mem_cons.mpr ⟨lw_p27, List.forall_mem_cons.mpr ⟨lw_p28, List.forall_mem_cons.mpr ⟨lw_p29, List.forall_mem_cons.mpr ⟨lw_p30, List.forall_mem_cons.mpr ⟨lw_p31, fun _ h => absurd h List.not_mem_nil⟩⟩⟩⟩⟩⟩⟩⟩⟩⟩⟩⟩⟩⟩⟩⟩
theorem lw_p32 : lw_okq (⟨"QuotaParishModel", "isOf", "(II)Z"⟩, 47) := ⟨⟨by decide +kernel, by decide +kernel⟩, List.mem_of_getElem? (i := 1153) (by decide +kernel), List.mem_of_getElem? (i := 1316) (by decide +kernel), List.mem_of_getElem? (i := 1317) (by decide +kernel)⟩
theorem lw_p33 : lw_okq (⟨"QuotaParishModel", "advance", "()V"⟩, 47) := ⟨⟨by decide +kernel, by decide +kernel⟩, List.mem_of_getElem? (i := 1153) (by decide +kernel), List.mem_of_getElem? (i := 1320) (by decide +kernel), List.mem_of_getElem? (i := 1321) (by decide +kernel)⟩
theorem lw_p34 : lw_okq (⟨"QuotaParishModel", "byteAt", "(I)I"⟩, 47) := ⟨⟨by decide +kernel, by decide +kernel⟩, List.mem_of_getElem? (i := 1153) (by decide +kernel), List.mem_of_getElem? (i := 1324) (by decide +kernel), List.mem_of_getElem? (i := 1325) (by decide +kernel)⟩
theorem lw_p35 : lw_okq (⟨"QuotaParishModel", "parishLine", "()V"⟩, 47) := ⟨⟨by decide +kernel, by decide +kernel⟩, List.mem_of_getElem? (i := 1153) (by decide +kernel), List.mem_of_getElem? (i := 1346) (by decide +kernel), List.mem_of_getElem? (i := 1347) (by decide +kernel)⟩
theorem lw_p36 : lw_okq (⟨"QuotaParishModel", "wordIn", "(II)I"⟩, 47) := ⟨⟨by decide +kernel, by decide +kernel⟩, List.mem_of_getElem? (i := 1153) (by decide +kernel), List.mem_of_getElem? (i := 1350) (by decide +kernel), List.mem_of_getElem? (i := 1351) (by decide +kernel)⟩
theorem lw_p37 : lw_okq (⟨"QuotaParishModel", "ends", "()V"⟩, 47) := ⟨⟨by decide +kernel, by decide +kernel⟩, List.mem_of_getElem? (i := 1153) (by decide +kernel), List.mem_of_getElem? (i := 1354) (by decide +kernel), List.mem_of_getElem? (i := 1355) (by decide +kernel)⟩
theorem lw_p38 : lw_okq (⟨"QuotaParishModel", "houseTold", "()I"⟩, 47) := ⟨⟨by decide +kernel, by decide +kernel⟩, List.mem_of_getElem? (i := 1153) (by decide +kernel), List.mem_of_getElem? (i := 1358) (by decide +kernel), List.mem_of_getElem? (i := 1359) (by decide +kernel)⟩
theorem lw_p39 : lw_okq (⟨"QuotaParishModel", "numbered", "(II)I"⟩, 47) := ⟨⟨by decide +kernel, by decide +kernel⟩, List.mem_of_getElem? (i := 1153) (by decide +kernel), List.mem_of_getElem? (i := 1362) (by decide +kernel), List.mem_of_getElem? (i := 1363) (by decide +kernel)⟩
theorem lw_p40 : lw_okq (⟨"QuotaParishModel", "also", "(II)V"⟩, 47) := ⟨⟨by decide +kernel, by decide +kernel⟩, List.mem_of_getElem? (i := 1153) (by decide +kernel), List.mem_of_getElem? (i := 1366) (by decide +kernel), List.mem_of_getElem? (i := 1367) (by decide +kernel)⟩
theorem lw_p41 : lw_okq (⟨"QuotaParishModel", "houseLine", "(I)V"⟩, 47) := ⟨⟨by decide +kernel, by decide +kernel⟩, List.mem_of_getElem? (i := 1153) (by decide +kernel), List.mem_of_getElem? (i := 1370) (by decide +kernel), List.mem_of_getElem? (i := 1371) (by decide +kernel)⟩
theorem lw_p42 : lw_okq (⟨"QuotaParishModel", "ruleTold", "(IZ)V"⟩, 47) := ⟨⟨by decide +kernel, by decide +kernel⟩, List.mem_of_getElem? (i := 1153) (by decide +kernel), List.mem_of_getElem? (i := 1374) (by decide +kernel), List.mem_of_getElem? (i := 1375) (by decide +kernel)⟩
theorem lw_p43 : lw_okq (⟨"QuotaParishModel", "patronTold", "(II)I"⟩, 47) := ⟨⟨by decide +kernel, by decide +kernel⟩, List.mem_of_getElem? (i := 1153) (by decide +kernel), List.mem_of_getElem? (i := 1378) (by decide +kernel), List.mem_of_getElem? (i := 1379) (by decide +kernel)⟩
theorem lw_p44 : lw_okq (⟨"QuotaParishModel", "endsLine", "()V"⟩, 47) := ⟨⟨by decide +kernel, by decide +kernel⟩, List.mem_of_getElem? (i := 1153) (by decide +kernel), List.mem_of_getElem? (i := 1382) (by decide +kernel), List.mem_of_getElem? (i := 1383) (by decide +kernel)⟩
theorem lw_p45 : lw_okq (⟨"QuotaParishModel", "yearsLine", "()V"⟩, 47) := ⟨⟨by decide +kernel, by decide +kernel⟩, List.mem_of_getElem? (i := 1153) (by decide +kernel), List.mem_of_getElem? (i := 1386) (by decide +kernel), List.mem_of_getElem? (i := 1387) (by decide +kernel)⟩
theorem lw_p46 : lw_okq (⟨"QuotaParishModel", "logLine", "()V"⟩, 47) := ⟨⟨by decide +kernel, by decide +kernel⟩, List.mem_of_getElem? (i := 1153) (by decide +kernel), List.mem_of_getElem? (i := 1393) (by decide +kernel), List.mem_of_getElem? (i := 1394) (by decide +kernel)⟩
theorem lw_p47 : lw_okq (⟨"QuotaParishModel", "isParish", "(I)Z"⟩, 47) := ⟨⟨by decide +kernel, by decide +kernel⟩, List.mem_of_getElem? (i := 1153) (by decide +kernel), List.mem_of_getElem? (i := 1411) (by decide +kernel), List.mem_of_getElem? (i := 1412) (by decide +kernel)⟩
def lw_privs_3 : List (MethodName × Nat) := [(⟨"QuotaParishModel", "isOf", "(II)Z"⟩, 47), (⟨"QuotaParishModel", "advance", "()V"⟩, 47), (⟨"QuotaParishModel", "byteAt", "(I)I"⟩, 47), (⟨"QuotaParishModel", "parishLine", "()V"⟩, 47), (⟨"QuotaParishModel", "wordIn", "(II)I"⟩, 47), (⟨"QuotaParishModel", "ends", "()V"⟩, 47), (⟨"QuotaParishModel", "houseTold", "()I"⟩, 47), (⟨"QuotaParishModel", "numbered", "(II)I"⟩, 47), (⟨"QuotaParishModel", "also", "(II)V"⟩, 47), (⟨"QuotaParishModel", "houseLine", "(I)V"⟩, 47), (⟨"QuotaParishModel", "ruleTold", "(IZ)V"⟩, 47), (⟨"QuotaParishModel", "patronTold", "(II)I"⟩, 47), (⟨"QuotaParishModel", "endsLine", "()V"⟩, 47), (⟨"QuotaParishModel", "yearsLine", "()V"⟩, 47), (⟨"QuotaParishModel", "logLine", "()V"⟩, 47), (⟨"QuotaParishModel", "isParish", "(I)Z"⟩, 47)]
theorem lw_r3 : ∀ q ∈ lw_privs_3, lw_okq q := List.forall_mem_cons.mpr ⟨lw_p32, List.forall_mem_cons.mpr ⟨lw_p33, List.forall_mem_cons.mpr ⟨lw_p34, List.forall_mem_cons.mpr ⟨lw_p35, List.forall_mem_cons.mpr ⟨lw_p36, List.forall_mem_cons.mpr ⟨lw_p37, List.forall_mem_cons.mpr ⟨lw_p38, List.forall_mem_cons.mpr ⟨lw_p39, List.forall_mem_cons.mpr ⟨lw_p40, List.forall_mem_cons.mpr ⟨lw_p41, List.forall_mem_cons.mpr ⟨lw_p42, List.forall_mem_cons.mpr ⟨lw_p43, List.forall_mem_cons.mpr ⟨lw_p44, List.forall_mem_cons.mpr ⟨lw_p45, List.forall_mem_cons.mpr ⟨lw_p46, List.forall_mem_cons.mpr ⟨lw_p47, fun _ h => absurd h List.not_mem_nil⟩⟩⟩⟩⟩⟩⟩⟩⟩⟩⟩⟩⟩⟩⟩⟩
theorem lw_p48 : lw_okq (⟨"QuotaParishModel", "begins", "()V"⟩, 47) := ⟨⟨by decide +kernel, by decide +kernel⟩, List.mem_of_getElem? (i := 1153) (by decide +kernel), List.mem_of_getElem? (i := 1415) (by decide +kernel), List.mem_of_getElem? (i := 1416) (by decide +kernel)⟩
theorem lw_p49 : lw_okq (⟨"QuotaParishModel", "goodsTold", "(I)I"⟩, 47) := ⟨⟨by decide +kernel, by decide +kernel⟩, List.mem_of_getElem? (i := 1153) (by decide +kernel), List.mem_of_getElem? (i := 1419) (by decide +kernel), List.mem_of_getElem? (i := 1420) (by decide +kernel)⟩
theorem lw_p50 : lw_okq (⟨"QuotaParishModel", "shares", "()V"⟩, 47) := ⟨⟨by decide +kernel, by decide +kernel⟩, List.mem_of_getElem? (i := 1153) (by decide +kernel), List.mem_of_getElem? (i := 1423) (by decide +kernel), List.mem_of_getElem? (i := 1424) (by decide +kernel)⟩
theorem lw_p51 : lw_okq (⟨"QuotaParishModel", "exemptBy", "(I)I"⟩, 47) := ⟨⟨by decide +kernel, by decide +kernel⟩, List.mem_of_getElem? (i := 1153) (by decide +kernel), List.mem_of_getElem? (i := 1427) (by decide +kernel), List.mem_of_getElem? (i := 1428) (by decide +kernel)⟩
theorem lw_p52 : lw_okq (⟨"QuotaParishModel", "ruleHolds", "(II)Z"⟩, 47) := ⟨⟨by decide +kernel, by decide +kernel⟩, List.mem_of_getElem? (i := 1153) (by decide +kernel), List.mem_of_getElem? (i := 1431) (by decide +kernel), List.mem_of_getElem? (i := 1432) (by decide +kernel)⟩
theorem lw_p53 : lw_okq (⟨"QuotaParishModel", "ruleAt", "(II)I"⟩, 47) := ⟨⟨by decide +kernel, by decide +kernel⟩, List.mem_of_getElem? (i := 1153) (by decide +kernel), List.mem_of_getElem? (i := 1435) (by decide +kernel), List.mem_of_getElem? (i := 1436) (by decide +kernel)⟩
theorem lw_p54 : lw_okq (⟨"QuotaParishModel", "isExempt", "(I)Z"⟩, 47) := ⟨⟨by decide +kernel, by decide +kernel⟩, List.mem_of_getElem? (i := 1153) (by decide +kernel), List.mem_of_getElem? (i := 1439) (by decide +kernel), List.mem_of_getElem? (i := 1440) (by decide +kernel)⟩
theorem lw_p55 : lw_okq (⟨"QuotaParishModel", "taxTogether", "()I"⟩, 47) := ⟨⟨by decide +kernel, by decide +kernel⟩, List.mem_of_getElem? (i := 1153) (by decide +kernel), List.mem_of_getElem? (i := 1443) (by decide +kernel), List.mem_of_getElem? (i := 1444) (by decide +kernel)⟩
theorem lw_p56 : lw_okq (⟨"QuotaParishModel", "isHouse", "(I)Z"⟩, 47) := ⟨⟨by decide +kernel, by decide +kernel⟩, List.mem_of_getElem? (i := 1153) (by decide +kernel), List.mem_of_getElem? (i := 1447) (by decide +kernel), List.mem_of_getElem? (i := 1448) (by decide +kernel)⟩
theorem lw_p57 : lw_okq (⟨"QuotaParishModel", "yieldOf", "(I)I"⟩, 47) := ⟨⟨by decide +kernel, by decide +kernel⟩, List.mem_of_getElem? (i := 1153) (by decide +kernel), List.mem_of_getElem? (i := 1451) (by decide +kernel), List.mem_of_getElem? (i := 1452) (by decide +kernel)⟩
theorem lw_p58 : lw_okq (⟨"QuotaParishModel", "rushes", "(I)V"⟩, 47) := ⟨⟨by decide +kernel, by decide +kernel⟩, List.mem_of_getElem? (i := 1153) (by decide +kernel), List.mem_of_getElem? (i := 1459) (by decide +kernel), List.mem_of_getElem? (i := 1460) (by decide +kernel)⟩
theorem lw_p59 : lw_okq (⟨"QuotaParishModel", "canBuy", "(I)Z"⟩, 47) := ⟨⟨by decide +kernel, by decide +kernel⟩, List.mem_of_getElem? (i := 1153) (by decide +kernel), List.mem_of_getElem? (i := 1463) (by decide +kernel), List.mem_of_getElem? (i := 1464) (by decide +kernel)⟩
theorem lw_p60 : lw_okq (⟨"QuotaParishModel", "buysNow", "(I)V"⟩, 47) := ⟨⟨by decide +kernel, by decide +kernel⟩, List.mem_of_getElem? (i := 1153) (by decide +kernel), List.mem_of_getElem? (i := 1467) (by decide +kernel), List.mem_of_getElem? (i := 1468) (by decide +kernel)⟩
theorem lw_p61 : lw_okq (⟨"QuotaParishModel", "everyHouse", "()I"⟩, 47) := ⟨⟨by decide +kernel, by decide +kernel⟩, List.mem_of_getElem? (i := 1153) (by decide +kernel), List.mem_of_getElem? (i := 1475) (by decide +kernel), List.mem_of_getElem? (i := 1476) (by decide +kernel)⟩
theorem lw_p62 : lw_okq (⟨"QuotaParishModel", "cutsOf", "(I)I"⟩, 47) := ⟨⟨by decide +kernel, by decide +kernel⟩, List.mem_of_getElem? (i := 1153) (by decide +kernel), List.mem_of_getElem? (i := 1486) (by decide +kernel), List.mem_of_getElem? (i := 1487) (by decide +kernel)⟩
theorem lw_p63 : lw_okq (⟨"QuotaParishModel", "goesYear", "()V"⟩, 47) := ⟨⟨by decide +kernel, by decide +kernel⟩, List.mem_of_getElem? (i := 1153) (by decide +kernel), List.mem_of_getElem? (i := 1494) (by decide +kernel), List.mem_of_getElem? (i := 1495) (by decide +kernel)⟩
def lw_privs_4 : List (MethodName × Nat) := [(⟨"QuotaParishModel", "begins", "()V"⟩, 47), (⟨"QuotaParishModel", "goodsTold", "(I)I"⟩, 47), (⟨"QuotaParishModel", "shares", "()V"⟩, 47), (⟨"QuotaParishModel", "exemptBy", "(I)I"⟩, 47), (⟨"QuotaParishModel", "ruleHolds", "(II)Z"⟩, 47), (⟨"QuotaParishModel", "ruleAt", "(II)I"⟩, 47), (⟨"QuotaParishModel", "isExempt", "(I)Z"⟩, 47), (⟨"QuotaParishModel", "taxTogether", "()I"⟩, 47), (⟨"QuotaParishModel", "isHouse", "(I)Z"⟩, 47), (⟨"QuotaParishModel", "yieldOf", "(I)I"⟩, 47), (⟨"QuotaParishModel", "rushes", "(I)V"⟩, 47), (⟨"QuotaParishModel", "canBuy", "(I)Z"⟩, 47), (⟨"QuotaParishModel", "buysNow", "(I)V"⟩, 47), (⟨"QuotaParishModel", "everyHouse", "()I"⟩, 47), (⟨"QuotaParishModel", "cutsOf", "(I)I"⟩, 47), (⟨"QuotaParishModel", "goesYear", "()V"⟩, 47)]
theorem lw_r4 : ∀ q ∈ lw_privs_4, lw_okq q := List.forall_mem_cons.mpr ⟨lw_p48, List.forall_mem_cons.mpr ⟨lw_p49, List.forall_mem_cons.mpr ⟨lw_p50, List.forall_mem_cons.mpr ⟨lw_p51, List.forall_mem_cons.mpr ⟨lw_p52, List.forall_mem_cons.mpr ⟨lw_p53, List.forall_mem_cons.mpr ⟨lw_p54, List.forall_mem_cons.mpr ⟨lw_p55, List.forall_mem_cons.mpr ⟨lw_p56, List.forall_mem_cons.mpr ⟨lw_p57, List.forall_mem_cons.mpr ⟨lw_p58, List.forall_mem_cons.mpr ⟨lw_p59, List.forall_mem_cons.mpr ⟨lw_p60, List.forall_mem_cons.mpr ⟨lw_p61, List.forall_mem_cons.mpr ⟨lw_p62, List.forall_mem_cons.mpr ⟨lw_p63, fun _ h => absurd h List.not_mem_nil⟩⟩⟩⟩⟩⟩⟩⟩⟩⟩⟩⟩⟩⟩⟩⟩
theorem lw_p64 : lw_okq (⟨"QuotaParishModel", "taxBy", "(II)I"⟩, 47) := ⟨⟨by decide +kernel, by decide +kernel⟩, List.mem_of_getElem? (i := 1153) (by decide +kernel), List.mem_of_getElem? (i := 1516) (by decide +kernel), List.mem_of_getElem? (i := 1517) (by decide +kernel)⟩
theorem lw_p65 : lw_okq (⟨"QuotaParishModel", "strifeBy", "(IIII)I"⟩, 47) := ⟨⟨by decide +kernel, by decide +kernel⟩, List.mem_of_getElem? (i := 1153) (by decide +kernel), List.mem_of_getElem? (i := 1524) (by decide +kernel), List.mem_of_getElem? (i := 1525) (by decide +kernel)⟩
theorem lw_p66 : lw_okq (⟨"QuotaParishModel", "chiefOf", "()I"⟩, 47) := ⟨⟨by decide +kernel, by decide +kernel⟩, List.mem_of_getElem? (i := 1153) (by decide +kernel), List.mem_of_getElem? (i := 1545) (by decide +kernel), List.mem_of_getElem? (i := 1546) (by decide +kernel)⟩
theorem lw_p67 : lw_okq (⟨"QuotaParishModel", "keysOf", "()I"⟩, 47) := ⟨⟨by decide +kernel, by decide +kernel⟩, List.mem_of_getElem? (i := 1153) (by decide +kernel), List.mem_of_getElem? (i := 1549) (by decide +kernel), List.mem_of_getElem? (i := 1550) (by decide +kernel)⟩
theorem lw_p68 : lw_okq (⟨"QuotaParishModel", "idleOf", "()I"⟩, 47) := ⟨⟨by decide +kernel, by decide +kernel⟩, List.mem_of_getElem? (i := 1153) (by decide +kernel), List.mem_of_getElem? (i := 1553) (by decide +kernel), List.mem_of_getElem? (i := 1554) (by decide +kernel)⟩
theorem lw_p69 : lw_okq (⟨"QuotaParishModel", "isIdle", "(I)Z"⟩, 47) := ⟨⟨by decide +kernel, by decide +kernel⟩, List.mem_of_getElem? (i := 1153) (by decide +kernel), List.mem_of_getElem? (i := 1557) (by decide +kernel), List.mem_of_getElem? (i := 1558) (by decide +kernel)⟩
theorem lw_p70 : lw_okq (⟨"QuotaParishModel", "housesBy", "(Z)I"⟩, 47) := ⟨⟨by decide +kernel, by decide +kernel⟩, List.mem_of_getElem? (i := 1153) (by decide +kernel), List.mem_of_getElem? (i := 1561) (by decide +kernel), List.mem_of_getElem? (i := 1562) (by decide +kernel)⟩
theorem lw_p71 : lw_okq (⟨"QuotaParishModel", "comesTo", "(I)I"⟩, 47) := ⟨⟨by decide +kernel, by decide +kernel⟩, List.mem_of_getElem? (i := 1153) (by decide +kernel), List.mem_of_getElem? (i := 1565) (by decide +kernel), List.mem_of_getElem? (i := 1566) (by decide +kernel)⟩
theorem lw_p72 : lw_okq (⟨"QuotaParishModel", "laysRanks", "()V"⟩, 47) := ⟨⟨by decide +kernel, by decide +kernel⟩, List.mem_of_getElem? (i := 1153) (by decide +kernel), List.mem_of_getElem? (i := 1569) (by decide +kernel), List.mem_of_getElem? (i := 1570) (by decide +kernel)⟩
theorem lw_p73 : lw_okq (⟨"QuotaParishModel", "rankBy", "(I)I"⟩, 47) := ⟨⟨by decide +kernel, by decide +kernel⟩, List.mem_of_getElem? (i := 1153) (by decide +kernel), List.mem_of_getElem? (i := 1573) (by decide +kernel), List.mem_of_getElem? (i := 1574) (by decide +kernel)⟩
theorem lw_p74 : lw_okq (⟨"QuotaParishModel", "harmOf", "(II)I"⟩, 47) := ⟨⟨by decide +kernel, by decide +kernel⟩, List.mem_of_getElem? (i := 1153) (by decide +kernel), List.mem_of_getElem? (i := 1585) (by decide +kernel), List.mem_of_getElem? (i := 1586) (by decide +kernel)⟩
theorem lw_p75 : lw_okq (⟨"QuotaParishModel", "buyersBy", "(II)I"⟩, 47) := ⟨⟨by decide +kernel, by decide +kernel⟩, List.mem_of_getElem? (i := 1153) (by decide +kernel), List.mem_of_getElem? (i := 1597) (by decide +kernel), List.mem_of_getElem? (i := 1598) (by decide +kernel)⟩
theorem lw_p76 : lw_okq (⟨"QuotaParishModel", "isRuinedBy", "(II)Z"⟩, 47) := ⟨⟨by decide +kernel, by decide +kernel⟩, List.mem_of_getElem? (i := 1153) (by decide +kernel), List.mem_of_getElem? (i := 1605) (by decide +kernel), List.mem_of_getElem? (i := 1606) (by decide +kernel)⟩
theorem lw_p77 : lw_okq (⟨"QuotaParishModel", "goodsTogether", "()I"⟩, 47) := ⟨⟨by decide +kernel, by decide +kernel⟩, List.mem_of_getElem? (i := 1153) (by decide +kernel), List.mem_of_getElem? (i := 1613) (by decide +kernel), List.mem_of_getElem? (i := 1614) (by decide +kernel)⟩
theorem lw_p78 : lw_okq (⟨"QuotaParishModel", "richestOf", "()I"⟩, 47) := ⟨⟨by decide +kernel, by decide +kernel⟩, List.mem_of_getElem? (i := 1153) (by decide +kernel), List.mem_of_getElem? (i := 1617) (by decide +kernel), List.mem_of_getElem? (i := 1618) (by decide +kernel)⟩
theorem lw_p79 : lw_okq (⟨"QuotaParishModel", "poorestOf", "()I"⟩, 47) := ⟨⟨by decide +kernel, by decide +kernel⟩, List.mem_of_getElem? (i := 1153) (by decide +kernel), List.mem_of_getElem? (i := 1621) (by decide +kernel), List.mem_of_getElem? (i := 1622) (by decide +kernel)⟩
def lw_privs_5 : List (MethodName × Nat) := [(⟨"QuotaParishModel", "taxBy", "(II)I"⟩, 47), (⟨"QuotaParishModel", "strifeBy", "(IIII)I"⟩, 47), (⟨"QuotaParishModel", "chiefOf", "()I"⟩, 47), (⟨"QuotaParishModel", "keysOf", "()I"⟩, 47), (⟨"QuotaParishModel", "idleOf", "()I"⟩, 47), (⟨"QuotaParishModel", "isIdle", "(I)Z"⟩, 47), (⟨"QuotaParishModel", "housesBy", "(Z)I"⟩, 47), (⟨"QuotaParishModel", "comesTo", "(I)I"⟩, 47), (⟨"QuotaParishModel", "laysRanks", "()V"⟩, 47), (⟨"QuotaParishModel", "rankBy", "(I)I"⟩, 47), (⟨"QuotaParishModel", "harmOf", "(II)I"⟩, 47), (⟨"QuotaParishModel", "buyersBy", "(II)I"⟩, 47), (⟨"QuotaParishModel", "isRuinedBy", "(II)Z"⟩, 47), (⟨"QuotaParishModel", "goodsTogether", "()I"⟩, 47), (⟨"QuotaParishModel", "richestOf", "()I"⟩, 47), (⟨"QuotaParishModel", "poorestOf", "()I"⟩, 47)]
theorem lw_r5 : ∀ q ∈ lw_privs_5, lw_okq q := List.forall_mem_cons.mpr ⟨lw_p64, List.forall_mem_cons.mpr ⟨lw_p65, List.forall_mem_cons.mpr ⟨lw_p66, List.forall_mem_cons.mpr ⟨lw_p67, List.forall_mem_cons.mpr ⟨lw_p68, List.forall_mem_cons.mpr ⟨lw_p69, List.forall_mem_cons.mpr ⟨lw_p70, List.forall_mem_cons.mpr ⟨lw_p71, List.forall_mem_cons.mpr ⟨lw_p72, List.forall_mem_cons.mpr ⟨lw_p73, List.forall_mem_cons.mpr ⟨lw_p74, List.forall_mem_cons.mpr ⟨lw_p75, List.forall_mem_cons.mpr ⟨lw_p76, List.forall_mem_cons.mpr ⟨lw_p77, List.forall_mem_cons.mpr ⟨lw_p78, List.forall_mem_cons.mpr ⟨lw_p79, fun _ h => absurd h List.not_mem_nil⟩⟩⟩⟩⟩⟩⟩⟩⟩⟩⟩⟩⟩⟩⟩⟩
theorem lw_p80 : lw_okq (⟨"QuotaParishModel", "passedOf", "()I"⟩, 47) := ⟨⟨by decide +kernel, by decide +kernel⟩, List.mem_of_getElem? (i := 1153) (by decide +kernel), List.mem_of_getElem? (i := 1629) (by decide +kernel), List.mem_of_getElem? (i := 1630) (by decide +kernel)⟩
theorem lw_p81 : lw_okq (⟨"QuotaParishModel", "levelOf", "()I"⟩, 47) := ⟨⟨by decide +kernel, by decide +kernel⟩, List.mem_of_getElem? (i := 1153) (by decide +kernel), List.mem_of_getElem? (i := 1633) (by decide +kernel), List.mem_of_getElem? (i := 1634) (by decide +kernel)⟩
theorem lw_p82 : lw_okq (⟨"QuotaParishModel", "spreadOf", "()I"⟩, 47) := ⟨⟨by decide +kernel, by decide +kernel⟩, List.mem_of_getElem? (i := 1153) (by decide +kernel), List.mem_of_getElem? (i := 1637) (by decide +kernel), List.mem_of_getElem? (i := 1638) (by decide +kernel)⟩
theorem lw_p83 : lw_okq (⟨"QuotaParishModel", "unevenOf", "()I"⟩, 47) := ⟨⟨by decide +kernel, by decide +kernel⟩, List.mem_of_getElem? (i := 1153) (by decide +kernel), List.mem_of_getElem? (i := 1641) (by decide +kernel), List.mem_of_getElem? (i := 1642) (by decide +kernel)⟩
theorem lw_p84 : lw_okq (⟨"QuotaParishModel", "isYears", "(I)Z"⟩, 47) := ⟨⟨by decide +kernel, by decide +kernel⟩, List.mem_of_getElem? (i := 1153) (by decide +kernel), List.mem_of_getElem? (i := 1649) (by decide +kernel), List.mem_of_getElem? (i := 1650) (by decide +kernel)⟩
theorem lw_p85 : lw_okq (⟨"QuotaParishModel", "runs", "(I)V"⟩, 47) := ⟨⟨by decide +kernel, by decide +kernel⟩, List.mem_of_getElem? (i := 1153) (by decide +kernel), List.mem_of_getElem? (i := 1657) (by decide +kernel), List.mem_of_getElem? (i := 1658) (by decide +kernel)⟩
theorem lw_p86 : lw_okq (⟨"QuotaParishModel", "beginsYears", "()V"⟩, 47) := ⟨⟨by decide +kernel, by decide +kernel⟩, List.mem_of_getElem? (i := 1153) (by decide +kernel), List.mem_of_getElem? (i := 1661) (by decide +kernel), List.mem_of_getElem? (i := 1662) (by decide +kernel)⟩
theorem lw_p87 : lw_okq (⟨"QuotaParishModel", "doesOne", "(II)Z"⟩, 47) := ⟨⟨by decide +kernel, by decide +kernel⟩, List.mem_of_getElem? (i := 1153) (by decide +kernel), List.mem_of_getElem? (i := 1665) (by decide +kernel), List.mem_of_getElem? (i := 1666) (by decide +kernel)⟩
theorem lw_p88 : lw_okq (⟨"QuotaParishModel", "does", "(II)Z"⟩, 47) := ⟨⟨by decide +kernel, by decide +kernel⟩, List.mem_of_getElem? (i := 1153) (by decide +kernel), List.mem_of_getElem? (i := 1669) (by decide +kernel), List.mem_of_getElem? (i := 1670) (by decide +kernel)⟩
theorem lw_p89 : lw_okq (⟨"QuotaParishModel", "goesOn", "()Z"⟩, 47) := ⟨⟨by decide +kernel, by decide +kernel⟩, List.mem_of_getElem? (i := 1153) (by decide +kernel), List.mem_of_getElem? (i := 1673) (by decide +kernel), List.mem_of_getElem? (i := 1674) (by decide +kernel)⟩
theorem lw_p90 : lw_okq (⟨"QuotaParishModel", "buys", "(I)Z"⟩, 47) := ⟨⟨by decide +kernel, by decide +kernel⟩, List.mem_of_getElem? (i := 1153) (by decide +kernel), List.mem_of_getElem? (i := 1677) (by decide +kernel), List.mem_of_getElem? (i := 1678) (by decide +kernel)⟩
theorem lw_p91 : lw_okq (⟨"QuotaParishModel", "loses", "(I)Z"⟩, 47) := ⟨⟨by decide +kernel, by decide +kernel⟩, List.mem_of_getElem? (i := 1153) (by decide +kernel), List.mem_of_getElem? (i := 1681) (by decide +kernel), List.mem_of_getElem? (i := 1682) (by decide +kernel)⟩
theorem lw_p92 : lw_okq (⟨"QuotaParishModel", "sets", "(ZI)Z"⟩, 47) := ⟨⟨by decide +kernel, by decide +kernel⟩, List.mem_of_getElem? (i := 1153) (by decide +kernel), List.mem_of_getElem? (i := 1685) (by decide +kernel), List.mem_of_getElem? (i := 1686) (by decide +kernel)⟩
theorem lw_p93 : lw_okq (⟨"QuotaParishModel", "cutsRule", "(I)Z"⟩, 47) := ⟨⟨by decide +kernel, by decide +kernel⟩, List.mem_of_getElem? (i := 1153) (by decide +kernel), List.mem_of_getElem? (i := 1689) (by decide +kernel), List.mem_of_getElem? (i := 1690) (by decide +kernel)⟩
theorem lw_p94 : lw_okq (⟨"QuotaParishModel", "nowOf", "(I)I"⟩, 47) := ⟨⟨by decide +kernel, by decide +kernel⟩, List.mem_of_getElem? (i := 1153) (by decide +kernel), List.mem_of_getElem? (i := 1697) (by decide +kernel), List.mem_of_getElem? (i := 1698) (by decide +kernel)⟩
theorem lw_p95 : lw_okq (⟨"QuotaParishModel", "buyerOf", "()I"⟩, 47) := ⟨⟨by decide +kernel, by decide +kernel⟩, List.mem_of_getElem? (i := 1153) (by decide +kernel), List.mem_of_getElem? (i := 1705) (by decide +kernel), List.mem_of_getElem? (i := 1706) (by decide +kernel)⟩
def lw_privs_6 : List (MethodName × Nat) := [(⟨"QuotaParishModel", "passedOf", "()I"⟩, 47), (⟨"QuotaParishModel", "levelOf", "()I"⟩, 47), (⟨"QuotaParishModel", "spreadOf", "()I"⟩, 47), (⟨"QuotaParishModel", "unevenOf", "()I"⟩, 47), (⟨"QuotaParishModel", "isYears", "(I)Z"⟩, 47), (⟨"QuotaParishModel", "runs", "(I)V"⟩, 47), (⟨"QuotaParishModel", "beginsYears", "()V"⟩, 47), (⟨"QuotaParishModel", "doesOne", "(II)Z"⟩, 47), (⟨"QuotaParishModel", "does", "(II)Z"⟩, 47), (⟨"QuotaParishModel", "goesOn", "()Z"⟩, 47), (⟨"QuotaParishModel", "buys", "(I)Z"⟩, 47), (⟨"QuotaParishModel", "loses", "(I)Z"⟩, 47), (⟨"QuotaParishModel", "sets", "(ZI)Z"⟩, 47), (⟨"QuotaParishModel", "cutsRule", "(I)Z"⟩, 47), (⟨"QuotaParishModel", "nowOf", "(I)I"⟩, 47), (⟨"QuotaParishModel", "buyerOf", "()I"⟩, 47)]
theorem lw_r6 : ∀ q ∈ lw_privs_6, lw_okq q := List.forall_mem_cons.mpr ⟨lw_p80, List.forall_mem_cons.mpr ⟨lw_p81, List.forall_mem_cons.mpr ⟨lw_p82, List.forall_mem_cons.mpr ⟨lw_p83, List.forall_mem_cons.mpr ⟨lw_p84, List.forall_mem_cons.mpr ⟨lw_p85, List.forall_mem_cons.mpr ⟨lw_p86, List.forall_mem_cons.mpr ⟨lw_p87, List.forall_mem_cons.mpr ⟨lw_p88, List.forall_mem_cons.mpr ⟨lw_p89, List.forall_mem_cons.mpr ⟨lw_p90, List.forall_mem_cons.mpr ⟨lw_p91, List.forall_mem_cons.mpr ⟨lw_p92, List.forall_mem_cons.mpr ⟨lw_p93, List.forall_mem_cons.mpr ⟨lw_p94, List.forall_mem_cons.mpr ⟨lw_p95, fun _ h => absurd h List.not_mem_nil⟩⟩⟩⟩⟩⟩⟩⟩⟩⟩⟩⟩⟩⟩⟩⟩
theorem lw_p96 : lw_okq (⟨"QuotaParishModel", "isLog", "(I)Z"⟩, 47) := ⟨⟨by decide +kernel, by decide +kernel⟩, List.mem_of_getElem? (i := 1153) (by decide +kernel), List.mem_of_getElem? (i := 1713) (by decide +kernel), List.mem_of_getElem? (i := 1714) (by decide +kernel)⟩
theorem lw_p97 : lw_okq (⟨"QuotaParishModel", "laysFits", "()V"⟩, 47) := ⟨⟨by decide +kernel, by decide +kernel⟩, List.mem_of_getElem? (i := 1153) (by decide +kernel), List.mem_of_getElem? (i := 1721) (by decide +kernel), List.mem_of_getElem? (i := 1722) (by decide +kernel)⟩
theorem lw_p98 : lw_okq (⟨"QuotaParishModel", "isSo", "(I)Z"⟩, 47) := ⟨⟨by decide +kernel, by decide +kernel⟩, List.mem_of_getElem? (i := 1153) (by decide +kernel), List.mem_of_getElem? (i := 1725) (by decide +kernel), List.mem_of_getElem? (i := 1726) (by decide +kernel)⟩
theorem lw_p99 : lw_okq (⟨"QuotaParishModel", "askOf", "()I"⟩, 47) := ⟨⟨by decide +kernel, by decide +kernel⟩, List.mem_of_getElem? (i := 1153) (by decide +kernel), List.mem_of_getElem? (i := 1729) (by decide +kernel), List.mem_of_getElem? (i := 1730) (by decide +kernel)⟩
theorem lw_p100 : lw_okq (⟨"QuotaParishModel", "likeTaxes", "(I)I"⟩, 47) := ⟨⟨by decide +kernel, by decide +kernel⟩, List.mem_of_getElem? (i := 1153) (by decide +kernel), List.mem_of_getElem? (i := 1733) (by decide +kernel), List.mem_of_getElem? (i := 1734) (by decide +kernel)⟩
theorem lw_p101 : lw_okq (⟨"QuotaParishModel", "sureOf", "(I)I"⟩, 47) := ⟨⟨by decide +kernel, by decide +kernel⟩, List.mem_of_getElem? (i := 1153) (by decide +kernel), List.mem_of_getElem? (i := 1737) (by decide +kernel), List.mem_of_getElem? (i := 1738) (by decide +kernel)⟩
theorem lw_p102 : lw_okq (⟨"QuotaParishModel", "fewOf", "(Z)I"⟩, 47) := ⟨⟨by decide +kernel, by decide +kernel⟩, List.mem_of_getElem? (i := 1153) (by decide +kernel), List.mem_of_getElem? (i := 1749) (by decide +kernel), List.mem_of_getElem? (i := 1750) (by decide +kernel)⟩
theorem lw_p103 : lw_okq (⟨"QuotaParishModel", "alikeOf", "()I"⟩, 47) := ⟨⟨by decide +kernel, by decide +kernel⟩, List.mem_of_getElem? (i := 1153) (by decide +kernel), List.mem_of_getElem? (i := 1753) (by decide +kernel), List.mem_of_getElem? (i := 1754) (by decide +kernel)⟩
theorem lw_p104 : lw_okq (⟨"QuotaParishModel", "draws", "()V"⟩, 47) := ⟨⟨by decide +kernel, by decide +kernel⟩, List.mem_of_getElem? (i := 1153) (by decide +kernel), List.mem_of_getElem? (i := 1761) (by decide +kernel), List.mem_of_getElem? (i := 1762) (by decide +kernel)⟩
theorem lw_p105 : lw_okq (⟨"QuotaParishModel", "below", "(I)I"⟩, 47) := ⟨⟨by decide +kernel, by decide +kernel⟩, List.mem_of_getElem? (i := 1153) (by decide +kernel), List.mem_of_getElem? (i := 1765) (by decide +kernel), List.mem_of_getElem? (i := 1766) (by decide +kernel)⟩
def lw_privs_7 : List (MethodName × Nat) := [(⟨"QuotaParishModel", "isLog", "(I)Z"⟩, 47), (⟨"QuotaParishModel", "laysFits", "()V"⟩, 47), (⟨"QuotaParishModel", "isSo", "(I)Z"⟩, 47), (⟨"QuotaParishModel", "askOf", "()I"⟩, 47), (⟨"QuotaParishModel", "likeTaxes", "(I)I"⟩, 47), (⟨"QuotaParishModel", "sureOf", "(I)I"⟩, 47), (⟨"QuotaParishModel", "fewOf", "(Z)I"⟩, 47), (⟨"QuotaParishModel", "alikeOf", "()I"⟩, 47), (⟨"QuotaParishModel", "draws", "()V"⟩, 47), (⟨"QuotaParishModel", "below", "(I)I"⟩, 47)]
theorem lw_r7 : ∀ q ∈ lw_privs_7, lw_okq q := List.forall_mem_cons.mpr ⟨lw_p96, List.forall_mem_cons.mpr ⟨lw_p97, List.forall_mem_cons.mpr ⟨lw_p98, List.forall_mem_cons.mpr ⟨lw_p99, List.forall_mem_cons.mpr ⟨lw_p100, List.forall_mem_cons.mpr ⟨lw_p101, List.forall_mem_cons.mpr ⟨lw_p102, List.forall_mem_cons.mpr ⟨lw_p103, List.forall_mem_cons.mpr ⟨lw_p104, List.forall_mem_cons.mpr ⟨lw_p105, fun _ h => absurd h List.not_mem_nil⟩⟩⟩⟩⟩⟩⟩⟩⟩⟩
def lw_privs : List (MethodName × Nat) := lw_privs_1 ++ (lw_privs_2 ++ (lw_privs_3 ++ (lw_privs_4 ++ (lw_privs_5 ++ (lw_privs_6 ++ (lw_privs_7))))))
def lw_tbl : List Cond := k2_sels lw_privs ++ tables_1
theorem lw_privs_ok : ∀ q ∈ lw_privs, lw_okq q := by
  show ∀ q ∈ lw_privs_1 ++ (lw_privs_2 ++ (lw_privs_3 ++ (lw_privs_4 ++ (lw_privs_5 ++ (lw_privs_6 ++ (lw_privs_7)))))), lw_okq q
  exact List.forall_mem_append.mpr ⟨lw_r1, List.forall_mem_append.mpr ⟨lw_r2, List.forall_mem_append.mpr ⟨lw_r3, List.forall_mem_append.mpr ⟨lw_r4, List.forall_mem_append.mpr ⟨lw_r5, List.forall_mem_append.mpr ⟨lw_r6, lw_r7⟩⟩⟩⟩⟩⟩
-- ===== end of PART A; then your names; then what follows =====
/-! ===== BEGIN words of one list among another's, by their places ===== -/
theorem goodIn_r {big : List Cond} (ws : List Cond) (ps : List Nat) (hp : ws = ps.filterMap (fun i => big[i]?)) (h : ws.all goodWord = true) : GoodIn big ws := by
  intro w hw
  have h1 := List.all_eq_true.mp h w hw
  rw [hp] at hw
  obtain ⟨i, -, hi⟩ := List.mem_filterMap.mp hw
  have hm : w ∈ big := by first | exact List.mem_of_getElem? hi | exact List.getElem?_mem hi
  exact ⟨hm, good_of_word h1⟩
theorem goodIn_app {big a b : List Cond} (ha : GoodIn big a) (hb : GoodIn big b) : GoodIn big (a ++ b) := fun w h => (List.mem_append.mp h).elim (ha w) (hb w)
theorem goodIn_ca {big a b : List Cond} {c : Cond} (ha : GoodIn big (c :: a)) (hb : GoodIn big b) : GoodIn big (c :: (a ++ b)) := fun w h => (List.mem_cons.mp h).elim (fun e => ha w (List.mem_cons.mpr (Or.inl e))) (fun h => (List.mem_append.mp h).elim (fun h => ha w (List.mem_cons.mpr (Or.inr h))) (hb w))
theorem goodIn_sub {big ws : List Cond} (hm : ∀ w ∈ ws, w ∈ big) (h : ws.all goodWord = true) : GoodIn big ws := fun w hw => ⟨hm w hw, good_of_word (List.all_eq_true.mp h w hw)⟩
/-! ===== END ===== -/

/-! ===== BEGIN printed: names, fields, word lists, decode rows ===== -/
def RX0 : String := "QuotaParish$Annals"
def TX0 : u_T := fun k => match k with
  | 0 => ("QuotaParish$Annals", "course", "LQuotaParish$Course;", true)
  | 1 => ("QuotaParish$Annals", "purchases", "[I", true)
  | 2 => ("QuotaParish$Annals", "sold", "I", false)
  | 3 => ("QuotaParish$Annals", "shortDeed", "I", false)
  | 4 => ("QuotaParish$Annals", "peak", "I", false)
  | 5 => ("QuotaParish$Annals", "leanYear", "I", false)
  | _ => ("QuotaParish$Annals", "leastPaid", "I", false)
def tyX0 : Nat → FieldType := fun k => match k with
  | 0 => .object "QuotaParish$Course"
  | 1 => .array .int
  | 2 => .int
  | 3 => .int
  | 4 => .int
  | 5 => .int
  | _ => .int
abbrev wsX00 : List Cond := u_ws RX0 TX0 7
theorem nmX0 : ∀ a, a < 7 → ∀ b, b < 7 → a ≠ b → (TX0 a).2.1 ≠ (TX0 b).2.1 := by decide +kernel
theorem tyX0_ok : ∀ k, k < 7 → parseFieldDescriptor (TX0 k).2.2.1 = some (tyX0 k) := by decide +kernel
abbrev cX0_init : ByteArray := prog_2_method_1_code
def yX0_init : MethodName := ⟨RX0, "<init>", "(LQuotaParish$Course;)V"⟩
abbrev cX0_run : ByteArray := prog_2_method_2_code
def yX0_run : MethodName := ⟨RX0, "run", "(LQuotaParish$Parish;LQuotaParish$Pairs;I)I"⟩
abbrev cX0_note : ByteArray := prog_2_method_3_code
def yX0_note : MethodName := ⟨RX0, "note", "(III)V"⟩
abbrev cX0_mostFrequentBuyer : ByteArray := prog_2_method_4_code
def yX0_mostFrequentBuyer : MethodName := ⟨RX0, "mostFrequentBuyer", "()I"⟩
def RX1 : String := "QuotaParish$Bonds"
def TX1 : u_T := fun k => match k with
  | _ => ("", "", "", false)
def tyX1 : Nat → FieldType := fun k => match k with
  | _ => .int
abbrev wsX10 : List Cond := u_ws RX1 TX1 0
theorem nmX1 : ∀ a, a < 0 → ∀ b, b < 0 → a ≠ b → (TX1 a).2.1 ≠ (TX1 b).2.1 := by decide +kernel
theorem tyX1_ok : ∀ k, k < 0 → parseFieldDescriptor (TX1 k).2.2.1 = some (tyX1 k) := by decide +kernel
abbrev cX1_fewestSeeds : ByteArray := prog_3_method_2_code
def yX1_fewestSeeds : MethodName := ⟨RX1, "fewestSeeds", "(LQuotaParish$Parish;)I"⟩
abbrev cX1_fewestCuts : ByteArray := prog_3_method_3_code
def yX1_fewestCuts : MethodName := ⟨RX1, "fewestCuts", "(LQuotaParish$Parish;I)I"⟩
abbrev cX1_exemptCases : ByteArray := prog_3_method_4_code
def yX1_exemptCases : MethodName := ⟨RX1, "exemptCases", "(LQuotaParish$Parish;II)I"⟩
abbrev cX1_setsOf : ByteArray := prog_3_method_5_code
def yX1_setsOf : MethodName := ⟨RX1, "setsOf", "(LQuotaParish$Parish;I)I"⟩
abbrev cX1_retinueSize : ByteArray := prog_3_method_6_code
def yX1_retinueSize : MethodName := ⟨RX1, "retinueSize", "(LQuotaParish$Parish;I)I"⟩
abbrev cX1_chiefOf : ByteArray := prog_3_method_7_code
def yX1_chiefOf : MethodName := ⟨RX1, "chiefOf", "(LQuotaParish$Parish;)I"⟩
abbrev cX1_keysOf : ByteArray := prog_3_method_8_code
def yX1_keysOf : MethodName := ⟨RX1, "keysOf", "(LQuotaParish$Parish;)I"⟩
abbrev cX1_idleOf : ByteArray := prog_3_method_9_code
def yX1_idleOf : MethodName := ⟨RX1, "idleOf", "(LQuotaParish$Parish;)I"⟩
abbrev cX1_ringedOf : ByteArray := prog_3_method_10_code
def yX1_ringedOf : MethodName := ⟨RX1, "ringedOf", "(LQuotaParish$Parish;)I"⟩
abbrev cX1_aboveByTies : ByteArray := prog_3_method_11_code
def yX1_aboveByTies : MethodName := ⟨RX1, "aboveByTies", "(LQuotaParish$Parish;I)I"⟩
abbrev cX1_loneOf : ByteArray := prog_3_method_12_code
def yX1_loneOf : MethodName := ⟨RX1, "loneOf", "(LQuotaParish$Parish;)I"⟩
abbrev cX1_rankOf : ByteArray := prog_3_method_13_code
def yX1_rankOf : MethodName := ⟨RX1, "rankOf", "(LQuotaParish$Parish;I)I"⟩
abbrev cX1_deepestOf : ByteArray := prog_3_method_14_code
def yX1_deepestOf : MethodName := ⟨RX1, "deepestOf", "(LQuotaParish$Parish;)I"⟩
def RX2 : String := "QuotaParish$Buying"
def TX2 : u_T := fun k => match k with
  | 0 => ("QuotaParish$Buying", "course", "LQuotaParish$Course;", true)
  | 1 => ("QuotaParish$Buying", "buyers", "[I", true)
  | 2 => ("QuotaParish$Buying", "bought", "I", false)
  | 3 => ("QuotaParish$Buying", "rounds", "I", false)
  | 4 => ("QuotaParish$Buying", "salePrice", "I", false)
  | 5 => ("QuotaParish$Buying", "saleSum", "I", false)
  | 6 => ("QuotaParish$Buying", "saleBuyers", "I", false)
  | _ => ("QuotaParish$Buying", "margins", "[I", true)
def tyX2 : Nat → FieldType := fun k => match k with
  | 0 => .object "QuotaParish$Course"
  | 1 => .array .int
  | 2 => .int
  | 3 => .int
  | 4 => .int
  | 5 => .int
  | 6 => .int
  | _ => .array .int
abbrev wsX20 : List Cond := u_ws RX2 TX2 8
theorem nmX2 : ∀ a, a < 8 → ∀ b, b < 8 → a ≠ b → (TX2 a).2.1 ≠ (TX2 b).2.1 := by decide +kernel
theorem tyX2_ok : ∀ k, k < 8 → parseFieldDescriptor (TX2 k).2.2.1 = some (tyX2 k) := by decide +kernel
abbrev cX2_init : ByteArray := prog_4_method_1_code
def yX2_init : MethodName := ⟨RX2, "<init>", "(LQuotaParish$Course;)V"⟩
abbrev cX2_rushOf : ByteArray := prog_4_method_2_code
def yX2_rushOf : MethodName := ⟨RX2, "rushOf", "(LQuotaParish$Parish;II)V"⟩
abbrev cX2_isDriven : ByteArray := prog_4_method_3_code
def yX2_isDriven : MethodName := ⟨RX2, "isDriven", "(II)Z"⟩
abbrev cX2_noteBuyer : ByteArray := prog_4_method_4_code
def yX2_noteBuyer : MethodName := ⟨RX2, "noteBuyer", "(I)V"⟩
abbrev cX2_buyer : ByteArray := prog_4_method_5_code
def yX2_buyer : MethodName := ⟨RX2, "buyer", "(I)I"⟩
abbrev cX2_findSale : ByteArray := prog_4_method_6_code
def yX2_findSale : MethodName := ⟨RX2, "findSale", "(LQuotaParish$Parish;I)V"⟩
abbrev cX2_margin : ByteArray := prog_4_method_7_code
def yX2_margin : MethodName := ⟨RX2, "margin", "(LQuotaParish$Parish;III)I"⟩
abbrev cX2_opening : ByteArray := prog_4_method_8_code
def yX2_opening : MethodName := ⟨RX2, "opening", "(LQuotaParish$Parish;III)I"⟩
abbrev cX2_fillMargins : ByteArray := prog_4_method_9_code
def yX2_fillMargins : MethodName := ⟨RX2, "fillMargins", "(LQuotaParish$Parish;II)V"⟩
abbrev cX2_goodsOf : ByteArray := prog_4_method_10_code
def yX2_goodsOf : MethodName := ⟨RX2, "goodsOf", "(I)I"⟩
abbrev cX2_takeTurn : ByteArray := prog_4_method_11_code
def yX2_takeTurn : MethodName := ⟨RX2, "takeTurn", "(LQuotaParish$Parish;III)V"⟩
def RX3 : String := "QuotaParish$Course"
def TX3 : u_T := fun k => match k with
  | 0 => ("QuotaParish$Course", "now", "LQuotaParish$Parish;", true)
  | 1 => ("QuotaParish$Course", "levy", "LQuotaParish$Levy;", true)
  | 2 => ("QuotaParish$Course", "year", "I", false)
  | 3 => ("QuotaParish$Course", "paid", "I", false)
  | 4 => ("QuotaParish$Course", "lost", "I", false)
  | 5 => ("QuotaParish$Course", "cut", "I", false)
  | 6 => ("QuotaParish$Course", "exempt", "I", false)
  | 7 => ("QuotaParish$Course", "paidLately", "I", false)
  | 8 => ("QuotaParish$Course", "ruined", "I", false)
  | _ => ("QuotaParish$Course", "changed", "Z", false)
def tyX3 : Nat → FieldType := fun k => match k with
  | 0 => .object "QuotaParish$Parish"
  | 1 => .object "QuotaParish$Levy"
  | 2 => .int
  | 3 => .int
  | 4 => .int
  | 5 => .int
  | 6 => .int
  | 7 => .int
  | 8 => .int
  | _ => .boolean
abbrev wsX30 : List Cond := u_ws RX3 TX3 10
theorem nmX3 : ∀ a, a < 10 → ∀ b, b < 10 → a ≠ b → (TX3 a).2.1 ≠ (TX3 b).2.1 := by decide +kernel
theorem tyX3_ok : ∀ k, k < 10 → parseFieldDescriptor (TX3 k).2.2.1 = some (tyX3 k) := by decide +kernel
abbrev cX3_init : ByteArray := prog_5_method_1_code
def yX3_init : MethodName := ⟨RX3, "<init>", "()V"⟩
abbrev cX3_begin : ByteArray := prog_5_method_2_code
def yX3_begin : MethodName := ⟨RX3, "begin", "(LQuotaParish$Parish;)V"⟩
abbrev cX3_assess : ByteArray := prog_5_method_3_code
def yX3_assess : MethodName := ⟨RX3, "assess", "()V"⟩
abbrev cX3_isExempt : ByteArray := prog_5_method_4_code
def yX3_isExempt : MethodName := ⟨RX3, "isExempt", "(I)Z"⟩
abbrev cX3_act : ByteArray := prog_5_method_5_code
def yX3_act : MethodName := ⟨RX3, "act", "(II)Z"⟩
abbrev cX3_collect : ByteArray := prog_5_method_6_code
def yX3_collect : MethodName := ⟨RX3, "collect", "()Z"⟩
abbrev cX3_canBuy : ByteArray := prog_5_method_7_code
def yX3_canBuy : MethodName := ⟨RX3, "canBuy", "(I)Z"⟩
abbrev cX3_buyOffice : ByteArray := prog_5_method_8_code
def yX3_buyOffice : MethodName := ⟨RX3, "buyOffice", "(I)Z"⟩
abbrev cX3_loseOffice : ByteArray := prog_5_method_9_code
def yX3_loseOffice : MethodName := ⟨RX3, "loseOffice", "(I)Z"⟩
abbrev cX3_changeQuota : ByteArray := prog_5_method_10_code
def yX3_changeQuota : MethodName := ⟨RX3, "changeQuota", "(I)Z"⟩
abbrev cX3_changePrice : ByteArray := prog_5_method_11_code
def yX3_changePrice : MethodName := ⟨RX3, "changePrice", "(I)Z"⟩
abbrev cX3_cutRule : ByteArray := prog_5_method_12_code
def yX3_cutRule : MethodName := ⟨RX3, "cutRule", "(I)Z"⟩
abbrev cX3_detail : ByteArray := prog_5_method_13_code
def yX3_detail : MethodName := ⟨RX3, "detail", "(I)I"⟩
def RX4 : String := "QuotaParish$Fitting"
def TX4 : u_T := fun k => match k with
  | 0 => ("QuotaParish$Fitting", "size", "I", false)
  | 1 => ("QuotaParish$Fitting", "houses", "I", false)
  | 2 => ("QuotaParish$Fitting", "sets", "[I", true)
  | 3 => ("QuotaParish$Fitting", "taxes", "[J", true)
  | 4 => ("QuotaParish$Fitting", "tally", "[I", true)
  | _ => ("QuotaParish$Fitting", "levy", "LQuotaParish$Levy;", true)
def tyX4 : Nat → FieldType := fun k => match k with
  | 0 => .int
  | 1 => .int
  | 2 => .array .int
  | 3 => .array .long
  | 4 => .array .int
  | _ => .object "QuotaParish$Levy"
abbrev wsX40 : List Cond := u_ws RX4 TX4 6
theorem nmX4 : ∀ a, a < 6 → ∀ b, b < 6 → a ≠ b → (TX4 a).2.1 ≠ (TX4 b).2.1 := by decide +kernel
theorem tyX4_ok : ∀ k, k < 6 → parseFieldDescriptor (TX4 k).2.2.1 = some (tyX4 k) := by decide +kernel
abbrev cX4_init : ByteArray := prog_6_method_1_code
def yX4_init : MethodName := ⟨RX4, "<init>", "()V"⟩
abbrev cX4_find : ByteArray := prog_6_method_2_code
def yX4_find : MethodName := ⟨RX4, "find", "(LQuotaParish$Parish;LQuotaParish$Pairs;)V"⟩
abbrev cX4_isAsLogged : ByteArray := prog_6_method_3_code
def yX4_isAsLogged : MethodName := ⟨RX4, "isAsLogged", "(LQuotaParish$Parish;LQuotaParish$Pairs;)Z"⟩
abbrev cX4_packedTaxes : ByteArray := prog_6_method_4_code
def yX4_packedTaxes : MethodName := ⟨RX4, "packedTaxes", "()J"⟩
abbrev cX4_fittingSet : ByteArray := prog_6_method_5_code
def yX4_fittingSet : MethodName := ⟨RX4, "fittingSet", "(I)I"⟩
abbrev cX4_holding : ByteArray := prog_6_method_6_code
def yX4_holding : MethodName := ⟨RX4, "holding", "(I)I"⟩
abbrev cX4_sureOf : ByteArray := prog_6_method_7_code
def yX4_sureOf : MethodName := ⟨RX4, "sureOf", "(I)I"⟩
abbrev cX4_bestQuestion : ByteArray := prog_6_method_8_code
def yX4_bestQuestion : MethodName := ⟨RX4, "bestQuestion", "()I"⟩
abbrev cX4_leftAtWorst : ByteArray := prog_6_method_9_code
def yX4_leftAtWorst : MethodName := ⟨RX4, "leftAtWorst", "(I)I"⟩
abbrev cX4_fewestHouses : ByteArray := prog_6_method_10_code
def yX4_fewestHouses : MethodName := ⟨RX4, "fewestHouses", "()I"⟩
abbrev cX4_mostHouses : ByteArray := prog_6_method_11_code
def yX4_mostHouses : MethodName := ⟨RX4, "mostHouses", "()I"⟩
abbrev cX4_alikeCouples : ByteArray := prog_6_method_12_code
def yX4_alikeCouples : MethodName := ⟨RX4, "alikeCouples", "()I"⟩
def RX5 : String := "QuotaParish$Levy"
def TX5 : u_T := fun k => match k with
  | 0 => ("QuotaParish$Levy", "lost", "I", false)
  | 1 => ("QuotaParish$Levy", "tax", "[I", true)
  | _ => ("QuotaParish$Levy", "cutOff", "[I", true)
def tyX5 : Nat → FieldType := fun k => match k with
  | 0 => .int
  | 1 => .array .int
  | _ => .array .int
abbrev wsX50 : List Cond := u_ws RX5 TX5 3
theorem nmX5 : ∀ a, a < 3 → ∀ b, b < 3 → a ≠ b → (TX5 a).2.1 ≠ (TX5 b).2.1 := by decide +kernel
theorem tyX5_ok : ∀ k, k < 3 → parseFieldDescriptor (TX5 k).2.2.1 = some (tyX5 k) := by decide +kernel
abbrev cX5_init : ByteArray := prog_7_method_1_code
def yX5_init : MethodName := ⟨RX5, "<init>", "()V"⟩
abbrev cX5_taxOf : ByteArray := prog_7_method_2_code
def yX5_taxOf : MethodName := ⟨RX5, "taxOf", "(I)I"⟩
abbrev cX5_share : ByteArray := prog_7_method_3_code
def yX5_share : MethodName := ⟨RX5, "share", "(LQuotaParish$Parish;II)V"⟩
abbrev cX5_giveOneMore : ByteArray := prog_7_method_4_code
def yX5_giveOneMore : MethodName := ⟨RX5, "giveOneMore", "()V"⟩
def RX6 : String := "QuotaParish$Outlook"
def TX6 : u_T := fun k => match k with
  | 0 => ("QuotaParish$Outlook", "course", "LQuotaParish$Course;", true)
  | _ => ("QuotaParish$Outlook", "drawState", "I", false)
def tyX6 : Nat → FieldType := fun k => match k with
  | 0 => .object "QuotaParish$Course"
  | _ => .int
abbrev wsX60 : List Cond := u_ws RX6 TX6 2
theorem nmX6 : ∀ a, a < 2 → ∀ b, b < 2 → a ≠ b → (TX6 a).2.1 ≠ (TX6 b).2.1 := by decide +kernel
theorem tyX6_ok : ∀ k, k < 2 → parseFieldDescriptor (TX6 k).2.2.1 = some (tyX6 k) := by decide +kernel
abbrev cX6_init : ByteArray := prog_8_method_1_code
def yX6_init : MethodName := ⟨RX6, "<init>", "(LQuotaParish$Course;)V"⟩
abbrev cX6_goYears : ByteArray := prog_8_method_2_code
def yX6_goYears : MethodName := ⟨RX6, "goYears", "(LQuotaParish$Parish;I)V"⟩
abbrev cX6_ruinYear : ByteArray := prog_8_method_3_code
def yX6_ruinYear : MethodName := ⟨RX6, "ruinYear", "(LQuotaParish$Parish;II)I"⟩
abbrev cX6_topQuota : ByteArray := prog_8_method_4_code
def yX6_topQuota : MethodName := ⟨RX6, "topQuota", "(LQuotaParish$Parish;I)I"⟩
abbrev cX6_passedYear : ByteArray := prog_8_method_5_code
def yX6_passedYear : MethodName := ⟨RX6, "passedYear", "(LQuotaParish$Parish;)I"⟩
abbrev cX6_levelYear : ByteArray := prog_8_method_6_code
def yX6_levelYear : MethodName := ⟨RX6, "levelYear", "(LQuotaParish$Parish;)I"⟩
abbrev cX6_spreadOf : ByteArray := prog_8_method_7_code
def yX6_spreadOf : MethodName := ⟨RX6, "spreadOf", "(LQuotaParish$Parish;)I"⟩
abbrev cX6_unevenOf : ByteArray := prog_8_method_8_code
def yX6_unevenOf : MethodName := ⟨RX6, "unevenOf", "(LQuotaParish$Parish;)I"⟩
abbrev cX6_mostBurdened : ByteArray := prog_8_method_9_code
def yX6_mostBurdened : MethodName := ⟨RX6, "mostBurdened", "(LQuotaParish$Parish;)I"⟩
abbrev cX6_fallOf : ByteArray := prog_8_method_10_code
def yX6_fallOf : MethodName := ⟨RX6, "fallOf", "(LQuotaParish$Parish;II)I"⟩
abbrev cX6_harmOf : ByteArray := prog_8_method_11_code
def yX6_harmOf : MethodName := ⟨RX6, "harmOf", "(LQuotaParish$Parish;II)I"⟩
abbrev cX6_strongest : ByteArray := prog_8_method_12_code
def yX6_strongest : MethodName := ⟨RX6, "strongest", "(LQuotaParish$Parish;IZ)I"⟩
abbrev cX6_beginDrawing : ByteArray := prog_8_method_13_code
def yX6_beginDrawing : MethodName := ⟨RX6, "beginDrawing", "(LQuotaParish$Parish;I)V"⟩
abbrev cX6_drawDeed : ByteArray := prog_8_method_14_code
def yX6_drawDeed : MethodName := ⟨RX6, "drawDeed", "()V"⟩
abbrev cX6_draw : ByteArray := prog_8_method_15_code
def yX6_draw : MethodName := ⟨RX6, "draw", "(I)I"⟩
def RX7 : String := "QuotaParish$Pairs"
def TX7 : u_T := fun k => match k with
  | 0 => ("QuotaParish$Pairs", "size", "I", false)
  | 1 => ("QuotaParish$Pairs", "firsts", "[I", true)
  | _ => ("QuotaParish$Pairs", "seconds", "[I", true)
def tyX7 : Nat → FieldType := fun k => match k with
  | 0 => .int
  | 1 => .array .int
  | _ => .array .int
abbrev wsX70 : List Cond := u_ws RX7 TX7 3
theorem nmX7 : ∀ a, a < 3 → ∀ b, b < 3 → a ≠ b → (TX7 a).2.1 ≠ (TX7 b).2.1 := by decide +kernel
theorem tyX7_ok : ∀ k, k < 3 → parseFieldDescriptor (TX7 k).2.2.1 = some (tyX7 k) := by decide +kernel
abbrev cX7_init : ByteArray := prog_9_method_1_code
def yX7_init : MethodName := ⟨RX7, "<init>", "()V"⟩
abbrev cX7_has : ByteArray := prog_9_method_2_code
def yX7_has : MethodName := ⟨RX7, "has", "(I)Z"⟩
abbrev cX7_add : ByteArray := prog_9_method_3_code
def yX7_add : MethodName := ⟨RX7, "add", "(II)V"⟩
abbrev cX7_detail : ByteArray := prog_9_method_4_code
def yX7_detail : MethodName := ⟨RX7, "detail", "(II)I"⟩
abbrev cX7_copyFrom : ByteArray := prog_9_method_5_code
def yX7_copyFrom : MethodName := ⟨RX7, "copyFrom", "(LQuotaParish$Pairs;)V"⟩
def RX8 : String := "QuotaParish$Parish"
def TX8 : u_T := fun k => match k with
  | 0 => ("QuotaParish$Parish", "quota", "I", false)
  | 1 => ("QuotaParish$Parish", "price", "I", false)
  | 2 => ("QuotaParish$Parish", "houses", "I", false)
  | 3 => ("QuotaParish$Parish", "offices", "I", false)
  | 4 => ("QuotaParish$Parish", "rules", "I", false)
  | 5 => ("QuotaParish$Parish", "goods", "[I", true)
  | 6 => ("QuotaParish$Parish", "yields", "[I", true)
  | 7 => ("QuotaParish$Parish", "ruleHouse", "[I", true)
  | 8 => ("QuotaParish$Parish", "rulePatron", "[I", true)
  | 9 => ("QuotaParish$Parish", "ruleSecond", "[I", true)
  | _ => ("QuotaParish$Parish", "ruleNeeds", "[I", true)
def tyX8 : Nat → FieldType := fun k => match k with
  | 0 => .int
  | 1 => .int
  | 2 => .int
  | 3 => .int
  | 4 => .int
  | 5 => .array .int
  | 6 => .array .int
  | 7 => .array .int
  | 8 => .array .int
  | 9 => .array .int
  | _ => .array .int
abbrev wsX80 : List Cond := u_ws RX8 TX8 11
theorem nmX8 : ∀ a, a < 11 → ∀ b, b < 11 → a ≠ b → (TX8 a).2.1 ≠ (TX8 b).2.1 := by decide +kernel
theorem tyX8_ok : ∀ k, k < 11 → parseFieldDescriptor (TX8 k).2.2.1 = some (tyX8 k) := by decide +kernel
abbrev cX8_init : ByteArray := prog_10_method_1_code
def yX8_init : MethodName := ⟨RX8, "<init>", "()V"⟩
abbrev cX8_clear : ByteArray := prog_10_method_2_code
def yX8_clear : MethodName := ⟨RX8, "clear", "()V"⟩
abbrev cX8_copyFrom : ByteArray := prog_10_method_3_code
def yX8_copyFrom : MethodName := ⟨RX8, "copyFrom", "(LQuotaParish$Parish;)V"⟩
abbrev cX8_addHouse : ByteArray := prog_10_method_4_code
def yX8_addHouse : MethodName := ⟨RX8, "addHouse", "(II)V"⟩
abbrev cX8_addRule : ByteArray := prog_10_method_5_code
def yX8_addRule : MethodName := ⟨RX8, "addRule", "(III)V"⟩
abbrev cX8_hasHouse : ByteArray := prog_10_method_6_code
def yX8_hasHouse : MethodName := ⟨RX8, "hasHouse", "(I)Z"⟩
abbrev cX8_hasRule : ByteArray := prog_10_method_7_code
def yX8_hasRule : MethodName := ⟨RX8, "hasRule", "(I)Z"⟩
abbrev cX8_everyHouse : ByteArray := prog_10_method_8_code
def yX8_everyHouse : MethodName := ⟨RX8, "everyHouse", "()I"⟩
abbrev cX8_ruleDetail : ByteArray := prog_10_method_9_code
def yX8_ruleDetail : MethodName := ⟨RX8, "ruleDetail", "(I)I"⟩
abbrev cX8_exemptBy : ByteArray := prog_10_method_10_code
def yX8_exemptBy : MethodName := ⟨RX8, "exemptBy", "(II)I"⟩
abbrev cX8_oneStepFrom : ByteArray := prog_10_method_11_code
def yX8_oneStepFrom : MethodName := ⟨RX8, "oneStepFrom", "(I)I"⟩
abbrev cX8_goodsTogether : ByteArray := prog_10_method_12_code
def yX8_goodsTogether : MethodName := ⟨RX8, "goodsTogether", "()I"⟩
abbrev cX8_richest : ByteArray := prog_10_method_13_code
def yX8_richest : MethodName := ⟨RX8, "richest", "()I"⟩
abbrev cX8_poorest : ByteArray := prog_10_method_14_code
def yX8_poorest : MethodName := ⟨RX8, "poorest", "()I"⟩
def RX9 : String := "QuotaParish$Reader"
def TX9 : u_T := fun k => match k with
  | 0 => ("QuotaParish$Reader", "parish", "LQuotaParish$Parish;", true)
  | 1 => ("QuotaParish$Reader", "years", "LQuotaParish$Pairs;", true)
  | 2 => ("QuotaParish$Reader", "log", "LQuotaParish$Pairs;", true)
  | 3 => ("QuotaParish$Reader", "fault", "I", false)
  | 4 => ("QuotaParish$Reader", "place", "I", false)
  | 5 => ("QuotaParish$Reader", "told", "LQuotaParish$Told;", true)
  | 6 => ("QuotaParish$Reader", "numbers", "[I", true)
  | 7 => ("QuotaParish$Reader", "token", "I", false)
  | 8 => ("QuotaParish$Reader", "tokenStart", "I", false)
  | 9 => ("QuotaParish$Reader", "tokenEnd", "I", false)
  | 10 => ("QuotaParish$Reader", "value", "I", false)
  | _ => ("QuotaParish$Reader", "housesToldOf", "I", false)
def tyX9 : Nat → FieldType := fun k => match k with
  | 0 => .object "QuotaParish$Parish"
  | 1 => .object "QuotaParish$Pairs"
  | 2 => .object "QuotaParish$Pairs"
  | 3 => .int
  | 4 => .int
  | 5 => .object "QuotaParish$Told"
  | 6 => .array .int
  | 7 => .int
  | 8 => .int
  | 9 => .int
  | 10 => .int
  | _ => .int
abbrev wsX90 : List Cond := u_ws RX9 TX9 12
theorem nmX9 : ∀ a, a < 12 → ∀ b, b < 12 → a ≠ b → (TX9 a).2.1 ≠ (TX9 b).2.1 := by decide +kernel
theorem tyX9_ok : ∀ k, k < 12 → parseFieldDescriptor (TX9 k).2.2.1 = some (tyX9 k) := by decide +kernel
abbrev cX9_init : ByteArray := prog_11_method_1_code
def yX9_init : MethodName := ⟨RX9, "<init>", "(LQuotaParish$Told;)V"⟩
abbrev cX9_read : ByteArray := prog_11_method_2_code
def yX9_read : MethodName := ⟨RX9, "read", "(I)V"⟩
abbrev cX9_readLine : ByteArray := prog_11_method_3_code
def yX9_readLine : MethodName := ⟨RX9, "readLine", "(I)V"⟩
abbrev cX9_keepLine : ByteArray := prog_11_method_4_code
def yX9_keepLine : MethodName := ⟨RX9, "keepLine", "(II)V"⟩
abbrev cX9_keepParishLine : ByteArray := prog_11_method_5_code
def yX9_keepParishLine : MethodName := ⟨RX9, "keepParishLine", "(I)V"⟩
abbrev cX9_isFull : ByteArray := prog_11_method_6_code
def yX9_isFull : MethodName := ⟨RX9, "isFull", "(II)Z"⟩
abbrev cX9_isRule : ByteArray := prog_11_method_7_code
def yX9_isRule : MethodName := ⟨RX9, "isRule", "(II)Z"⟩
abbrev cX9_isRepeated : ByteArray := prog_11_method_8_code
def yX9_isRepeated : MethodName := ⟨RX9, "isRepeated", "(I)Z"⟩
abbrev cX9_limitOf : ByteArray := prog_11_method_9_code
def yX9_limitOf : MethodName := ⟨RX9, "limitOf", "(III)I"⟩
abbrev cX9_lineOf : ByteArray := prog_11_method_10_code
def yX9_lineOf : MethodName := ⟨RX9, "lineOf", "(I)I"⟩
abbrev cX9_parishLine : ByteArray := prog_11_method_11_code
def yX9_parishLine : MethodName := ⟨RX9, "parishLine", "()I"⟩
abbrev cX9_yearsLine : ByteArray := prog_11_method_12_code
def yX9_yearsLine : MethodName := ⟨RX9, "yearsLine", "()I"⟩
abbrev cX9_spells : ByteArray := prog_11_method_13_code
def yX9_spells : MethodName := ⟨RX9, "spells", "(Ljava/lang/String;)Z"⟩
abbrev cX9_breakOff : ByteArray := prog_11_method_14_code
def yX9_breakOff : MethodName := ⟨RX9, "breakOff", "()V"⟩
abbrev cX9_noteFault : ByteArray := prog_11_method_15_code
def yX9_noteFault : MethodName := ⟨RX9, "noteFault", "(II)V"⟩
abbrev cX9_nextToken : ByteArray := prog_11_method_16_code
def yX9_nextToken : MethodName := ⟨RX9, "nextToken", "()V"⟩
abbrev cX9_readDigits : ByteArray := prog_11_method_17_code
def yX9_readDigits : MethodName := ⟨RX9, "readDigits", "(I)I"⟩
abbrev cX9_isBlank : ByteArray := prog_11_method_18_code
def yX9_isBlank : MethodName := ⟨RX9, "isBlank", "(I)Z"⟩
abbrev cX9_isLetter : ByteArray := prog_11_method_19_code
def yX9_isLetter : MethodName := ⟨RX9, "isLetter", "(I)Z"⟩
abbrev cX9_isDigit : ByteArray := prog_11_method_20_code
def yX9_isDigit : MethodName := ⟨RX9, "isDigit", "(I)Z"⟩
def RX10 : String := "QuotaParish$Told"
def TX10 : u_T := fun k => match k with
  | 0 => ("QuotaParish$Told", "tape", "[I", true)
  | 1 => ("QuotaParish$Told", "length", "I", false)
  | 2 => ("QuotaParish$Told", "parishes", "[LQuotaParish$Parish;", true)
  | 3 => ("QuotaParish$Told", "years", "[LQuotaParish$Pairs;", true)
  | 4 => ("QuotaParish$Told", "logs", "[LQuotaParish$Pairs;", true)
  | 5 => ("QuotaParish$Told", "counts", "[I", true)
  | 6 => ("QuotaParish$Told", "fault", "I", false)
  | _ => ("QuotaParish$Told", "place", "I", false)
def tyX10 : Nat → FieldType := fun k => match k with
  | 0 => .array .int
  | 1 => .int
  | 2 => .array (.object "QuotaParish$Parish")
  | 3 => .array (.object "QuotaParish$Pairs")
  | 4 => .array (.object "QuotaParish$Pairs")
  | 5 => .array .int
  | 6 => .int
  | _ => .int
abbrev wsX100 : List Cond := u_ws RX10 TX10 8
theorem nmX10 : ∀ a, a < 8 → ∀ b, b < 8 → a ≠ b → (TX10 a).2.1 ≠ (TX10 b).2.1 := by decide +kernel
theorem tyX10_ok : ∀ k, k < 8 → parseFieldDescriptor (TX10 k).2.2.1 = some (tyX10 k) := by decide +kernel
abbrev cX10_init : ByteArray := prog_12_method_1_code
def yX10_init : MethodName := ⟨RX10, "<init>", "()V"⟩
abbrev cX10_append : ByteArray := prog_12_method_2_code
def yX10_append : MethodName := ⟨RX10, "append", "(I)V"⟩
abbrev cX10_byteAt : ByteArray := prog_12_method_3_code
def yX10_byteAt : MethodName := ⟨RX10, "byteAt", "(I)I"⟩
abbrev cX10_has : ByteArray := prog_12_method_4_code
def yX10_has : MethodName := ⟨RX10, "has", "(II)Z"⟩
abbrev cX10_hasHouse : ByteArray := prog_12_method_5_code
def yX10_hasHouse : MethodName := ⟨RX10, "hasHouse", "(II)Z"⟩
abbrev cX10_slotFor : ByteArray := prog_12_method_6_code
def yX10_slotFor : MethodName := ⟨RX10, "slotFor", "(II)I"⟩
abbrev cX10_growTo : ByteArray := prog_12_method_7_code
def yX10_growTo : MethodName := ⟨RX10, "growTo", "(II)V"⟩
abbrev cX10_copyFrom : ByteArray := prog_12_method_8_code
def yX10_copyFrom : MethodName := ⟨RX10, "copyFrom", "(LQuotaParish$Told;)V"⟩
def RX11 : String := "QuotaParish"
def TX11 : u_T := fun k => match k with
  | 0 => ("QuotaParish", "told", "LQuotaParish$Told;", true)
  | 1 => ("QuotaParish", "images", "[LQuotaParish$Told;", true)
  | 2 => ("QuotaParish", "kept", "[Z", true)
  | 3 => ("QuotaParish", "reader", "LQuotaParish$Reader;", true)
  | 4 => ("QuotaParish", "course", "LQuotaParish$Course;", true)
  | 5 => ("QuotaParish", "buying", "LQuotaParish$Buying;", true)
  | 6 => ("QuotaParish", "outlook", "LQuotaParish$Outlook;", true)
  | 7 => ("QuotaParish", "annals", "LQuotaParish$Annals;", true)
  | _ => ("QuotaParish", "fitting", "LQuotaParish$Fitting;", true)
def tyX11 : Nat → FieldType := fun k => match k with
  | 0 => .object "QuotaParish$Told"
  | 1 => .array (.object "QuotaParish$Told")
  | 2 => .array .boolean
  | 3 => .object "QuotaParish$Reader"
  | 4 => .object "QuotaParish$Course"
  | 5 => .object "QuotaParish$Buying"
  | 6 => .object "QuotaParish$Outlook"
  | 7 => .object "QuotaParish$Annals"
  | _ => .object "QuotaParish$Fitting"
abbrev wsX110 : List Cond := u_ws RX11 TX11 9
theorem nmX11 : ∀ a, a < 9 → ∀ b, b < 9 → a ≠ b → (TX11 a).2.1 ≠ (TX11 b).2.1 := by decide +kernel
theorem tyX11_ok : ∀ k, k < 9 → parseFieldDescriptor (TX11 k).2.2.1 = some (tyX11 k) := by decide +kernel
abbrev cX11_init : ByteArray := prog_1_method_1_code
def yX11_init : MethodName := ⟨RX11, "<init>", "()V"⟩
abbrev cX11_feed : ByteArray := prog_1_method_2_code
def yX11_feed : MethodName := ⟨RX11, "feed", "(IIIII)I"⟩
abbrev cX11_end : ByteArray := prog_1_method_3_code
def yX11_end : MethodName := ⟨RX11, "end", "(I)I"⟩
abbrev cX11_text : ByteArray := prog_1_method_4_code
def yX11_text : MethodName := ⟨RX11, "text", "(II)I"⟩
abbrev cX11_keepText : ByteArray := prog_1_method_5_code
def yX11_keepText : MethodName := ⟨RX11, "keepText", "(II)V"⟩
abbrev cX11_fault : ByteArray := prog_1_method_6_code
def yX11_fault : MethodName := ⟨RX11, "fault", "(I)I"⟩
abbrev cX11_count : ByteArray := prog_1_method_7_code
def yX11_count : MethodName := ⟨RX11, "count", "(I)I"⟩
abbrev cX11_image : ByteArray := prog_1_method_8_code
def yX11_image : MethodName := ⟨RX11, "image", "(I)Z"⟩
abbrev cX11_again : ByteArray := prog_1_method_9_code
def yX11_again : MethodName := ⟨RX11, "again", "(I)Z"⟩
abbrev cX11_parish : ByteArray := prog_1_method_10_code
def yX11_parish : MethodName := ⟨RX11, "parish", "(II)I"⟩
abbrev cX11_houseDetail : ByteArray := prog_1_method_11_code
def yX11_houseDetail : MethodName := ⟨RX11, "houseDetail", "(LQuotaParish$Parish;I)I"⟩
abbrev cX11_deed : ByteArray := prog_1_method_12_code
def yX11_deed : MethodName := ⟨RX11, "deed", "(III)I"⟩
abbrev cX11_fact : ByteArray := prog_1_method_13_code
def yX11_fact : MethodName := ⟨RX11, "fact", "(III)I"⟩
abbrev cX11_stop : ByteArray := prog_1_method_14_code
def yX11_stop : MethodName := ⟨RX11, "stop", "(II)I"⟩
abbrev cX11_state : ByteArray := prog_1_method_15_code
def yX11_state : MethodName := ⟨RX11, "state", "(IIII)I"⟩
abbrev cX11_after : ByteArray := prog_1_method_16_code
def yX11_after : MethodName := ⟨RX11, "after", "(III)I"⟩
abbrev cX11_drawn : ByteArray := prog_1_method_17_code
def yX11_drawn : MethodName := ⟨RX11, "drawn", "(IIII)I"⟩
abbrev cX11_rush : ByteArray := prog_1_method_18_code
def yX11_rush : MethodName := ⟨RX11, "rush", "(III)I"⟩
abbrev cX11_sale : ByteArray := prog_1_method_19_code
def yX11_sale : MethodName := ⟨RX11, "sale", "(III)I"⟩
abbrev cX11_strife : ByteArray := prog_1_method_20_code
def yX11_strife : MethodName := ⟨RX11, "strife", "(IIIIZ)I"⟩
abbrev cX11_seeds : ByteArray := prog_1_method_21_code
def yX11_seeds : MethodName := ⟨RX11, "seeds", "(IZ)I"⟩
abbrev cX11_cuts : ByteArray := prog_1_method_22_code
def yX11_cuts : MethodName := ⟨RX11, "cuts", "(IIZ)I"⟩
abbrev cX11_lot : ByteArray := prog_1_method_23_code
def yX11_lot : MethodName := ⟨RX11, "lot", "(IIIZ)I"⟩
abbrev cX11_spared : ByteArray := prog_1_method_24_code
def yX11_spared : MethodName := ⟨RX11, "spared", "(IIZ)I"⟩
abbrev cX11_retinue : ByteArray := prog_1_method_25_code
def yX11_retinue : MethodName := ⟨RX11, "retinue", "(II)I"⟩
abbrev cX11_chief : ByteArray := prog_1_method_26_code
def yX11_chief : MethodName := ⟨RX11, "chief", "(II)I"⟩
abbrev cX11_rank : ByteArray := prog_1_method_27_code
def yX11_rank : MethodName := ⟨RX11, "rank", "(II)I"⟩
abbrev cX11_burden : ByteArray := prog_1_method_28_code
def yX11_burden : MethodName := ⟨RX11, "burden", "(II)I"⟩
abbrev cX11_falls : ByteArray := prog_1_method_29_code
def yX11_falls : MethodName := ⟨RX11, "falls", "(III)I"⟩
abbrev cX11_harm : ByteArray := prog_1_method_30_code
def yX11_harm : MethodName := ⟨RX11, "harm", "(III)I"⟩
abbrev cX11_foe : ByteArray := prog_1_method_31_code
def yX11_foe : MethodName := ⟨RX11, "foe", "(III)I"⟩
abbrev cX11_ruin : ByteArray := prog_1_method_32_code
def yX11_ruin : MethodName := ⟨RX11, "ruin", "(IZ)I"⟩
abbrev cX11_bid : ByteArray := prog_1_method_33_code
def yX11_bid : MethodName := ⟨RX11, "bid", "(II)I"⟩
abbrev cX11_top : ByteArray := prog_1_method_34_code
def yX11_top : MethodName := ⟨RX11, "top", "(II)I"⟩
abbrev cX11_behind : ByteArray := prog_1_method_35_code
def yX11_behind : MethodName := ⟨RX11, "behind", "(III)I"⟩
abbrev cX11_passed : ByteArray := prog_1_method_36_code
def yX11_passed : MethodName := ⟨RX11, "passed", "(II)I"⟩
abbrev cX11_fits : ByteArray := prog_1_method_37_code
def yX11_fits : MethodName := ⟨RX11, "fits", "(III)I"⟩
abbrev cX11_odds : ByteArray := prog_1_method_38_code
def yX11_odds : MethodName := ⟨RX11, "odds", "(IIIZ)I"⟩
abbrev cX11_fewest : ByteArray := prog_1_method_39_code
def yX11_fewest : MethodName := ⟨RX11, "fewest", "(III)I"⟩
abbrev cX11_leastTerm : ByteArray := prog_1_method_40_code
def yX11_leastTerm : MethodName := ⟨RX11, "leastTerm", "(IIZ)I"⟩
abbrev cX11_greatestCommon : ByteArray := prog_1_method_41_code
def yX11_greatestCommon : MethodName := ⟨RX11, "greatestCommon", "(II)I"⟩
def RX12 : String := "QuotaParishModel"
def TX12 : u_T := fun k => match k with
  | 0 => ("QuotaParishModel", "all", "[I", true)
  | 1 => ("QuotaParishModel", "has", "[Z", true)
  | 2 => ("QuotaParishModel", "size", "I", false)
  | 3 => ("QuotaParishModel", "next", "I", false)
  | 4 => ("QuotaParishModel", "where", "I", false)
  | 5 => ("QuotaParishModel", "token", "I", false)
  | 6 => ("QuotaParishModel", "number", "I", false)
  | 7 => ("QuotaParishModel", "word", "I", false)
  | 8 => ("QuotaParishModel", "wrong", "Z", false)
  | 9 => ("QuotaParishModel", "farHouse", "I", false)
  | 10 => ("QuotaParishModel", "read", "[I", true)
  | 11 => ("QuotaParishModel", "p0", "I", false)
  | 12 => ("QuotaParishModel", "houses", "I", false)
  | 13 => ("QuotaParishModel", "rules", "I", false)
  | 14 => ("QuotaParishModel", "quota", "I", false)
  | 15 => ("QuotaParishModel", "price", "I", false)
  | 16 => ("QuotaParishModel", "offices", "I", false)
  | 17 => ("QuotaParishModel", "cutRules", "I", false)
  | 18 => ("QuotaParishModel", "exempt", "I", false)
  | 19 => ("QuotaParishModel", "year", "I", false)
  | 20 => ("QuotaParishModel", "paid", "I", false)
  | 21 => ("QuotaParishModel", "lost", "I", false)
  | 22 => ("QuotaParishModel", "done", "I", false)
  | 23 => ("QuotaParishModel", "paidNow", "I", false)
  | 24 => ("QuotaParishModel", "ruined", "I", false)
  | 25 => ("QuotaParishModel", "goods", "[I", true)
  | 26 => ("QuotaParishModel", "tax", "[I", true)
  | 27 => ("QuotaParishModel", "cutOff", "[I", true)
  | 28 => ("QuotaParishModel", "rushRow", "[I", true)
  | 29 => ("QuotaParishModel", "rushMany", "I", false)
  | 30 => ("QuotaParishModel", "rushRounds", "I", false)
  | 31 => ("QuotaParishModel", "rowWorth", "[I", true)
  | 32 => ("QuotaParishModel", "rank", "[I", true)
  | 33 => ("QuotaParishModel", "goodsAhead", "[I", true)
  | 34 => ("QuotaParishModel", "d0", "I", false)
  | 35 => ("QuotaParishModel", "sold", "I", false)
  | 36 => ("QuotaParishModel", "shortAt", "I", false)
  | 37 => ("QuotaParishModel", "peak", "I", false)
  | 38 => ("QuotaParishModel", "leanYear", "I", false)
  | 39 => ("QuotaParishModel", "leanPaid", "I", false)
  | 40 => ("QuotaParishModel", "bought", "[I", true)
  | 41 => ("QuotaParishModel", "l0", "I", false)
  | 42 => ("QuotaParishModel", "fitMany", "I", false)
  | 43 => ("QuotaParishModel", "fitSet", "[I", true)
  | 44 => ("QuotaParishModel", "fitTax", "[I", true)
  | 45 => ("QuotaParishModel", "fitIn", "[I", true)
  | _ => ("QuotaParishModel", "x0", "I", false)
def tyX12 : Nat → FieldType := fun k => match k with
  | 0 => .array .int
  | 1 => .array .boolean
  | 2 => .int
  | 3 => .int
  | 4 => .int
  | 5 => .int
  | 6 => .int
  | 7 => .int
  | 8 => .boolean
  | 9 => .int
  | 10 => .array .int
  | 11 => .int
  | 12 => .int
  | 13 => .int
  | 14 => .int
  | 15 => .int
  | 16 => .int
  | 17 => .int
  | 18 => .int
  | 19 => .int
  | 20 => .int
  | 21 => .int
  | 22 => .int
  | 23 => .int
  | 24 => .int
  | 25 => .array .int
  | 26 => .array .int
  | 27 => .array .int
  | 28 => .array .int
  | 29 => .int
  | 30 => .int
  | 31 => .array .int
  | 32 => .array .int
  | 33 => .array .int
  | 34 => .int
  | 35 => .int
  | 36 => .int
  | 37 => .int
  | 38 => .int
  | 39 => .int
  | 40 => .array .int
  | 41 => .int
  | 42 => .int
  | 43 => .array .int
  | 44 => .array .int
  | 45 => .array .int
  | _ => .int
abbrev wsX120 : List Cond := u_ws RX12 TX12 47
theorem nmX12 : ∀ a, a < 47 → ∀ b, b < 47 → a ≠ b → (TX12 a).2.1 ≠ (TX12 b).2.1 := by decide +kernel
theorem tyX12_ok : ∀ k, k < 47 → parseFieldDescriptor (TX12 k).2.2.1 = some (tyX12 k) := by decide +kernel
abbrev cX12_init : ByteArray := prog_14_method_1_code
def yX12_init : MethodName := ⟨RX12, "<init>", "()V"⟩
abbrev cX12_isIn : ByteArray := prog_14_method_2_code
def yX12_isIn : MethodName := ⟨RX12, "isIn", "(III)Z"⟩
abbrev cX12_feed : ByteArray := prog_14_method_3_code
def yX12_feed : MethodName := ⟨RX12, "feed", "(IIIII)I"⟩
abbrev cX12_end : ByteArray := prog_14_method_4_code
def yX12_end : MethodName := ⟨RX12, "end", "(I)I"⟩
abbrev cX12_byteAt : ByteArray := prog_14_method_5_code
def yX12_byteAt : MethodName := ⟨RX12, "byteAt", "(I)I"⟩
abbrev cX12_isLetter : ByteArray := prog_14_method_6_code
def yX12_isLetter : MethodName := ⟨RX12, "isLetter", "(I)Z"⟩
abbrev cX12_isDigit : ByteArray := prog_14_method_7_code
def yX12_isDigit : MethodName := ⟨RX12, "isDigit", "(I)Z"⟩
abbrev cX12_four : ByteArray := prog_14_method_8_code
def yX12_four : MethodName := ⟨RX12, "four", "(IIII)J"⟩
abbrev cX12_eight : ByteArray := prog_14_method_9_code
def yX12_eight : MethodName := ⟨RX12, "eight", "(IIIIIIII)J"⟩
abbrev cX12_wordOf : ByteArray := prog_14_method_10_code
def yX12_wordOf : MethodName := ⟨RX12, "wordOf", "(J)I"⟩
abbrev cX12_advance : ByteArray := prog_14_method_11_code
def yX12_advance : MethodName := ⟨RX12, "advance", "()V"⟩
abbrev cX12_ends : ByteArray := prog_14_method_12_code
def yX12_ends : MethodName := ⟨RX12, "ends", "()V"⟩
abbrev cX12_also : ByteArray := prog_14_method_13_code
def yX12_also : MethodName := ⟨RX12, "also", "(II)V"⟩
abbrev cX12_numbered : ByteArray := prog_14_method_14_code
def yX12_numbered : MethodName := ⟨RX12, "numbered", "(II)I"⟩
abbrev cX12_wordIn : ByteArray := prog_14_method_15_code
def yX12_wordIn : MethodName := ⟨RX12, "wordIn", "(II)I"⟩
abbrev cX12_endsLine : ByteArray := prog_14_method_16_code
def yX12_endsLine : MethodName := ⟨RX12, "endsLine", "()V"⟩
abbrev cX12_houseTold : ByteArray := prog_14_method_17_code
def yX12_houseTold : MethodName := ⟨RX12, "houseTold", "()I"⟩
abbrev cX12_patronTold : ByteArray := prog_14_method_18_code
def yX12_patronTold : MethodName := ⟨RX12, "patronTold", "(II)I"⟩
abbrev cX12_houseLine : ByteArray := prog_14_method_19_code
def yX12_houseLine : MethodName := ⟨RX12, "houseLine", "(I)V"⟩
abbrev cX12_ruleTold : ByteArray := prog_14_method_20_code
def yX12_ruleTold : MethodName := ⟨RX12, "ruleTold", "(IZ)V"⟩
abbrev cX12_parishLine : ByteArray := prog_14_method_21_code
def yX12_parishLine : MethodName := ⟨RX12, "parishLine", "()V"⟩
abbrev cX12_deedOf : ByteArray := prog_14_method_22_code
def yX12_deedOf : MethodName := ⟨RX12, "deedOf", "(I)I"⟩
abbrev cX12_yearsLine : ByteArray := prog_14_method_23_code
def yX12_yearsLine : MethodName := ⟨RX12, "yearsLine", "()V"⟩
abbrev cX12_logLine : ByteArray := prog_14_method_24_code
def yX12_logLine : MethodName := ⟨RX12, "logLine", "()V"⟩
abbrev cX12_placeOf : ByteArray := prog_14_method_25_code
def yX12_placeOf : MethodName := ⟨RX12, "placeOf", "(II)I"⟩
abbrev cX12_sizeOf : ByteArray := prog_14_method_26_code
def yX12_sizeOf : MethodName := ⟨RX12, "sizeOf", "(I)I"⟩
abbrev cX12_isOf : ByteArray := prog_14_method_27_code
def yX12_isOf : MethodName := ⟨RX12, "isOf", "(II)Z"⟩
abbrev cX12_text : ByteArray := prog_14_method_28_code
def yX12_text : MethodName := ⟨RX12, "text", "(II)I"⟩
abbrev cX12_fault : ByteArray := prog_14_method_29_code
def yX12_fault : MethodName := ⟨RX12, "fault", "(I)I"⟩
abbrev cX12_isParish : ByteArray := prog_14_method_30_code
def yX12_isParish : MethodName := ⟨RX12, "isParish", "(I)Z"⟩
abbrev cX12_isHouse : ByteArray := prog_14_method_31_code
def yX12_isHouse : MethodName := ⟨RX12, "isHouse", "(I)Z"⟩
abbrev cX12_everyHouse : ByteArray := prog_14_method_32_code
def yX12_everyHouse : MethodName := ⟨RX12, "everyHouse", "()I"⟩
abbrev cX12_goodsTold : ByteArray := prog_14_method_33_code
def yX12_goodsTold : MethodName := ⟨RX12, "goodsTold", "(I)I"⟩
abbrev cX12_yieldOf : ByteArray := prog_14_method_34_code
def yX12_yieldOf : MethodName := ⟨RX12, "yieldOf", "(I)I"⟩
abbrev cX12_ruleAt : ByteArray := prog_14_method_35_code
def yX12_ruleAt : MethodName := ⟨RX12, "ruleAt", "(II)I"⟩
abbrev cX12_bitsOf : ByteArray := prog_14_method_36_code
def yX12_bitsOf : MethodName := ⟨RX12, "bitsOf", "(I)I"⟩
abbrev cX12_ruleHolds : ByteArray := prog_14_method_37_code
def yX12_ruleHolds : MethodName := ⟨RX12, "ruleHolds", "(II)Z"⟩
abbrev cX12_exemptBy : ByteArray := prog_14_method_38_code
def yX12_exemptBy : MethodName := ⟨RX12, "exemptBy", "(I)I"⟩
abbrev cX12_isExempt : ByteArray := prog_14_method_39_code
def yX12_isExempt : MethodName := ⟨RX12, "isExempt", "(I)Z"⟩
abbrev cX12_shares : ByteArray := prog_14_method_40_code
def yX12_shares : MethodName := ⟨RX12, "shares", "()V"⟩
abbrev cX12_taxTogether : ByteArray := prog_14_method_41_code
def yX12_taxTogether : MethodName := ⟨RX12, "taxTogether", "()I"⟩
abbrev cX12_begins : ByteArray := prog_14_method_42_code
def yX12_begins : MethodName := ⟨RX12, "begins", "()V"⟩
abbrev cX12_goesYear : ByteArray := prog_14_method_43_code
def yX12_goesYear : MethodName := ⟨RX12, "goesYear", "()V"⟩
abbrev cX12_canBuy : ByteArray := prog_14_method_44_code
def yX12_canBuy : MethodName := ⟨RX12, "canBuy", "(I)Z"⟩
abbrev cX12_buysNow : ByteArray := prog_14_method_45_code
def yX12_buysNow : MethodName := ⟨RX12, "buysNow", "(I)V"⟩
abbrev cX12_parish : ByteArray := prog_14_method_46_code
def yX12_parish : MethodName := ⟨RX12, "parish", "(II)I"⟩
abbrev cX12_rushes : ByteArray := prog_14_method_47_code
def yX12_rushes : MethodName := ⟨RX12, "rushes", "(I)V"⟩
abbrev cX12_rush : ByteArray := prog_14_method_48_code
def yX12_rush : MethodName := ⟨RX12, "rush", "(III)I"⟩
abbrev cX12_seeds : ByteArray := prog_14_method_49_code
def yX12_seeds : MethodName := ⟨RX12, "seeds", "(IZ)I"⟩
abbrev cX12_cutsOf : ByteArray := prog_14_method_50_code
def yX12_cutsOf : MethodName := ⟨RX12, "cutsOf", "(I)I"⟩
abbrev cX12_cuts : ByteArray := prog_14_method_51_code
def yX12_cuts : MethodName := ⟨RX12, "cuts", "(IIZ)I"⟩
abbrev cX12_ruin : ByteArray := prog_14_method_52_code
def yX12_ruin : MethodName := ⟨RX12, "ruin", "(IZ)I"⟩
abbrev cX12_bid : ByteArray := prog_14_method_53_code
def yX12_bid : MethodName := ⟨RX12, "bid", "(II)I"⟩
abbrev cX12_common : ByteArray := prog_14_method_54_code
def yX12_common : MethodName := ⟨RX12, "common", "(II)I"⟩
abbrev cX12_parted : ByteArray := prog_14_method_55_code
def yX12_parted : MethodName := ⟨RX12, "parted", "(IIZ)I"⟩
abbrev cX12_burden : ByteArray := prog_14_method_56_code
def yX12_burden : MethodName := ⟨RX12, "burden", "(II)I"⟩
abbrev cX12_taxBy : ByteArray := prog_14_method_57_code
def yX12_taxBy : MethodName := ⟨RX12, "taxBy", "(II)I"⟩
abbrev cX12_falls : ByteArray := prog_14_method_58_code
def yX12_falls : MethodName := ⟨RX12, "falls", "(III)I"⟩
abbrev cX12_strifeBy : ByteArray := prog_14_method_59_code
def yX12_strifeBy : MethodName := ⟨RX12, "strifeBy", "(IIII)I"⟩
abbrev cX12_strife : ByteArray := prog_14_method_60_code
def yX12_strife : MethodName := ⟨RX12, "strife", "(IIIIZ)I"⟩
abbrev cX12_lot : ByteArray := prog_14_method_61_code
def yX12_lot : MethodName := ⟨RX12, "lot", "(IIIZ)I"⟩
abbrev cX12_spared : ByteArray := prog_14_method_62_code
def yX12_spared : MethodName := ⟨RX12, "spared", "(IIZ)I"⟩
abbrev cX12_retinue : ByteArray := prog_14_method_63_code
def yX12_retinue : MethodName := ⟨RX12, "retinue", "(II)I"⟩
abbrev cX12_chiefOf : ByteArray := prog_14_method_64_code
def yX12_chiefOf : MethodName := ⟨RX12, "chiefOf", "()I"⟩
abbrev cX12_keysOf : ByteArray := prog_14_method_65_code
def yX12_keysOf : MethodName := ⟨RX12, "keysOf", "()I"⟩
abbrev cX12_isIdle : ByteArray := prog_14_method_66_code
def yX12_isIdle : MethodName := ⟨RX12, "isIdle", "(I)Z"⟩
abbrev cX12_idleOf : ByteArray := prog_14_method_67_code
def yX12_idleOf : MethodName := ⟨RX12, "idleOf", "()I"⟩
abbrev cX12_comesTo : ByteArray := prog_14_method_68_code
def yX12_comesTo : MethodName := ⟨RX12, "comesTo", "(I)I"⟩
abbrev cX12_housesBy : ByteArray := prog_14_method_69_code
def yX12_housesBy : MethodName := ⟨RX12, "housesBy", "(Z)I"⟩
abbrev cX12_rankBy : ByteArray := prog_14_method_70_code
def yX12_rankBy : MethodName := ⟨RX12, "rankBy", "(I)I"⟩
abbrev cX12_laysRanks : ByteArray := prog_14_method_71_code
def yX12_laysRanks : MethodName := ⟨RX12, "laysRanks", "()V"⟩
abbrev cX12_chief : ByteArray := prog_14_method_72_code
def yX12_chief : MethodName := ⟨RX12, "chief", "(II)I"⟩
abbrev cX12_rank : ByteArray := prog_14_method_73_code
def yX12_rank : MethodName := ⟨RX12, "rank", "(II)I"⟩
abbrev cX12_harmOf : ByteArray := prog_14_method_74_code
def yX12_harmOf : MethodName := ⟨RX12, "harmOf", "(II)I"⟩
abbrev cX12_harm : ByteArray := prog_14_method_75_code
def yX12_harm : MethodName := ⟨RX12, "harm", "(III)I"⟩
abbrev cX12_foe : ByteArray := prog_14_method_76_code
def yX12_foe : MethodName := ⟨RX12, "foe", "(III)I"⟩
abbrev cX12_buyersBy : ByteArray := prog_14_method_77_code
def yX12_buyersBy : MethodName := ⟨RX12, "buyersBy", "(II)I"⟩
abbrev cX12_sale : ByteArray := prog_14_method_78_code
def yX12_sale : MethodName := ⟨RX12, "sale", "(III)I"⟩
abbrev cX12_isRuinedBy : ByteArray := prog_14_method_79_code
def yX12_isRuinedBy : MethodName := ⟨RX12, "isRuinedBy", "(II)Z"⟩
abbrev cX12_top : ByteArray := prog_14_method_80_code
def yX12_top : MethodName := ⟨RX12, "top", "(II)I"⟩
abbrev cX12_richestOf : ByteArray := prog_14_method_81_code
def yX12_richestOf : MethodName := ⟨RX12, "richestOf", "()I"⟩
abbrev cX12_poorestOf : ByteArray := prog_14_method_82_code
def yX12_poorestOf : MethodName := ⟨RX12, "poorestOf", "()I"⟩
abbrev cX12_goodsTogether : ByteArray := prog_14_method_83_code
def yX12_goodsTogether : MethodName := ⟨RX12, "goodsTogether", "()I"⟩
abbrev cX12_behind : ByteArray := prog_14_method_84_code
def yX12_behind : MethodName := ⟨RX12, "behind", "(III)I"⟩
abbrev cX12_passedOf : ByteArray := prog_14_method_85_code
def yX12_passedOf : MethodName := ⟨RX12, "passedOf", "()I"⟩
abbrev cX12_levelOf : ByteArray := prog_14_method_86_code
def yX12_levelOf : MethodName := ⟨RX12, "levelOf", "()I"⟩
abbrev cX12_spreadOf : ByteArray := prog_14_method_87_code
def yX12_spreadOf : MethodName := ⟨RX12, "spreadOf", "()I"⟩
abbrev cX12_unevenOf : ByteArray := prog_14_method_88_code
def yX12_unevenOf : MethodName := ⟨RX12, "unevenOf", "()I"⟩
abbrev cX12_passed : ByteArray := prog_14_method_89_code
def yX12_passed : MethodName := ⟨RX12, "passed", "(II)I"⟩
abbrev cX12_isYears : ByteArray := prog_14_method_90_code
def yX12_isYears : MethodName := ⟨RX12, "isYears", "(I)Z"⟩
abbrev cX12_deed : ByteArray := prog_14_method_91_code
def yX12_deed : MethodName := ⟨RX12, "deed", "(III)I"⟩
abbrev cX12_beginsYears : ByteArray := prog_14_method_92_code
def yX12_beginsYears : MethodName := ⟨RX12, "beginsYears", "()V"⟩
abbrev cX12_goesOn : ByteArray := prog_14_method_93_code
def yX12_goesOn : MethodName := ⟨RX12, "goesOn", "()Z"⟩
abbrev cX12_buys : ByteArray := prog_14_method_94_code
def yX12_buys : MethodName := ⟨RX12, "buys", "(I)Z"⟩
abbrev cX12_loses : ByteArray := prog_14_method_95_code
def yX12_loses : MethodName := ⟨RX12, "loses", "(I)Z"⟩
abbrev cX12_sets : ByteArray := prog_14_method_96_code
def yX12_sets : MethodName := ⟨RX12, "sets", "(ZI)Z"⟩
abbrev cX12_cutsRule : ByteArray := prog_14_method_97_code
def yX12_cutsRule : MethodName := ⟨RX12, "cutsRule", "(I)Z"⟩
abbrev cX12_does : ByteArray := prog_14_method_98_code
def yX12_does : MethodName := ⟨RX12, "does", "(II)Z"⟩
abbrev cX12_doesOne : ByteArray := prog_14_method_99_code
def yX12_doesOne : MethodName := ⟨RX12, "doesOne", "(II)Z"⟩
abbrev cX12_runs : ByteArray := prog_14_method_100_code
def yX12_runs : MethodName := ⟨RX12, "runs", "(I)V"⟩
abbrev cX12_stop : ByteArray := prog_14_method_101_code
def yX12_stop : MethodName := ⟨RX12, "stop", "(II)I"⟩
abbrev cX12_nowOf : ByteArray := prog_14_method_102_code
def yX12_nowOf : MethodName := ⟨RX12, "nowOf", "(I)I"⟩
abbrev cX12_state : ByteArray := prog_14_method_103_code
def yX12_state : MethodName := ⟨RX12, "state", "(IIII)I"⟩
abbrev cX12_buyerOf : ByteArray := prog_14_method_104_code
def yX12_buyerOf : MethodName := ⟨RX12, "buyerOf", "()I"⟩
abbrev cX12_after : ByteArray := prog_14_method_105_code
def yX12_after : MethodName := ⟨RX12, "after", "(III)I"⟩
abbrev cX12_isLog : ByteArray := prog_14_method_106_code
def yX12_isLog : MethodName := ⟨RX12, "isLog", "(I)Z"⟩
abbrev cX12_fact : ByteArray := prog_14_method_107_code
def yX12_fact : MethodName := ⟨RX12, "fact", "(III)I"⟩
abbrev cX12_isSo : ByteArray := prog_14_method_108_code
def yX12_isSo : MethodName := ⟨RX12, "isSo", "(I)Z"⟩
abbrev cX12_laysFits : ByteArray := prog_14_method_109_code
def yX12_laysFits : MethodName := ⟨RX12, "laysFits", "()V"⟩
abbrev cX12_likeTaxes : ByteArray := prog_14_method_110_code
def yX12_likeTaxes : MethodName := ⟨RX12, "likeTaxes", "(I)I"⟩
abbrev cX12_askOf : ByteArray := prog_14_method_111_code
def yX12_askOf : MethodName := ⟨RX12, "askOf", "()I"⟩
abbrev cX12_sureOf : ByteArray := prog_14_method_112_code
def yX12_sureOf : MethodName := ⟨RX12, "sureOf", "(I)I"⟩
abbrev cX12_fits : ByteArray := prog_14_method_113_code
def yX12_fits : MethodName := ⟨RX12, "fits", "(III)I"⟩
abbrev cX12_odds : ByteArray := prog_14_method_114_code
def yX12_odds : MethodName := ⟨RX12, "odds", "(IIIZ)I"⟩
abbrev cX12_alikeOf : ByteArray := prog_14_method_115_code
def yX12_alikeOf : MethodName := ⟨RX12, "alikeOf", "()I"⟩
abbrev cX12_fewOf : ByteArray := prog_14_method_116_code
def yX12_fewOf : MethodName := ⟨RX12, "fewOf", "(Z)I"⟩
abbrev cX12_fewest : ByteArray := prog_14_method_117_code
def yX12_fewest : MethodName := ⟨RX12, "fewest", "(III)I"⟩
abbrev cX12_below : ByteArray := prog_14_method_118_code
def yX12_below : MethodName := ⟨RX12, "below", "(I)I"⟩
abbrev cX12_draws : ByteArray := prog_14_method_119_code
def yX12_draws : MethodName := ⟨RX12, "draws", "()V"⟩
abbrev cX12_drawn : ByteArray := prog_14_method_120_code
def yX12_drawn : MethodName := ⟨RX12, "drawn", "(IIII)I"⟩
abbrev cX12_count : ByteArray := prog_14_method_121_code
def yX12_count : MethodName := ⟨RX12, "count", "(I)I"⟩
abbrev cX12_image : ByteArray := prog_14_method_122_code
def yX12_image : MethodName := ⟨RX12, "image", "(I)Z"⟩
abbrev cX12_again : ByteArray := prog_14_method_123_code
def yX12_again : MethodName := ⟨RX12, "again", "(I)Z"⟩
def RJ6 : String := "java/lang/Integer"
def TJ6 : u_T := fun k => match k with
  | _ => ("", "", "", false)
def tyJ6 : Nat → FieldType := fun k => match k with
  | _ => .int
abbrev wsJ60 : List Cond := u_ws RJ6 TJ6 0
theorem nmJ6 : ∀ a, a < 0 → ∀ b, b < 0 → a ≠ b → (TJ6 a).2.1 ≠ (TJ6 b).2.1 := by decide +kernel
theorem tyJ6_ok : ∀ k, k < 0 → parseFieldDescriptor (TJ6 k).2.2.1 = some (tyJ6 k) := by decide +kernel
abbrev cJ6_bitCount_0f7a4 : ByteArray := prog_15_method_49_code
def yJ6_bitCount_0f7a4 : MethodName := ⟨RJ6, "bitCount", "(I)I"⟩
def RJ9 : String := "java/lang/Math"
def TJ9 : u_T := fun k => match k with
  | _ => ("", "", "", false)
def tyJ9 : Nat → FieldType := fun k => match k with
  | _ => .int
abbrev wsJ90 : List Cond := u_ws RJ9 TJ9 0
theorem nmJ9 : ∀ a, a < 0 → ∀ b, b < 0 → a ≠ b → (TJ9 a).2.1 ≠ (TJ9 b).2.1 := by decide +kernel
theorem tyJ9_ok : ∀ k, k < 0 → parseFieldDescriptor (TJ9 k).2.2.1 = some (tyJ9 k) := by decide +kernel
abbrev cJ9_abs_0f7a4 : ByteArray := prog_16_method_59_code
def yJ9_abs_0f7a4 : MethodName := ⟨RJ9, "abs", "(I)I"⟩
abbrev cJ9_max_7cf53 : ByteArray := prog_16_method_65_code
def yJ9_max_7cf53 : MethodName := ⟨RJ9, "max", "(II)I"⟩
abbrev cJ9_min_7cf53 : ByteArray := prog_16_method_69_code
def yJ9_min_7cf53 : MethodName := ⟨RJ9, "min", "(II)I"⟩
def RJ0 : String := "java/lang/String"
def TJ0 : u_T := fun k => match k with
  | _ => ("", "", "", false)
def tyJ0 : Nat → FieldType := fun k => match k with
  | _ => .int
abbrev wsJ00 : List Cond := u_ws RJ0 TJ0 0
theorem nmJ0 : ∀ a, a < 0 → ∀ b, b < 0 → a ≠ b → (TJ0 a).2.1 ≠ (TJ0 b).2.1 := by decide +kernel
theorem tyJ0_ok : ∀ k, k < 0 → parseFieldDescriptor (TJ0 k).2.2.1 = some (tyJ0 k) := by decide +kernel
abbrev cJ0_length_8abf5 : ByteArray := prog_17_method_54_code
def yJ0_length_8abf5 : MethodName := ⟨RJ0, "length", "()I"⟩
abbrev cJ0_charAt_5068e : ByteArray := prog_17_method_56_code
def yJ0_charAt_5068e : MethodName := ⟨RJ0, "charAt", "(I)C"⟩
abbrev cJ0_coder_7d493 : ByteArray := prog_17_method_152_code
def yJ0_coder_7d493 : MethodName := ⟨RJ0, "coder", "()B"⟩
abbrev cJ0_isLatin1_aae02 : ByteArray := prog_17_method_154_code
def yJ0_isLatin1_aae02 : MethodName := ⟨RJ0, "isLatin1", "()Z"⟩
abbrev cJ0_checkIndex_df160 : ByteArray := prog_17_method_155_code
def yJ0_checkIndex_df160 : MethodName := ⟨RJ0, "checkIndex", "(II)V"⟩
def RJ1 : String := "java/lang/StringLatin1"
def TJ1 : u_T := fun k => match k with
  | _ => ("", "", "", false)
def tyJ1 : Nat → FieldType := fun k => match k with
  | _ => .int
abbrev wsJ10 : List Cond := u_ws RJ1 TJ1 0
theorem nmJ1 : ∀ a, a < 0 → ∀ b, b < 0 → a ≠ b → (TJ1 a).2.1 ≠ (TJ1 b).2.1 := by decide +kernel
theorem tyJ1_ok : ∀ k, k < 0 → parseFieldDescriptor (TJ1 k).2.2.1 = some (tyJ1 k) := by decide +kernel
abbrev cJ1_charAt_3b067 : ByteArray := prog_18_method_2_code
def yJ1_charAt_3b067 : MethodName := ⟨RJ1, "charAt", "([BI)C"⟩
def RJ2 : String := "java/lang/StringUTF16"
def TJ2 : u_T := fun k => match k with
  | _ => ("", "", "", false)
def tyJ2 : Nat → FieldType := fun k => match k with
  | _ => .int
abbrev wsJ20 : List Cond := u_ws RJ2 TJ2 0
theorem nmJ2 : ∀ a, a < 0 → ∀ b, b < 0 → a ≠ b → (TJ2 a).2.1 ≠ (TJ2 b).2.1 := by decide +kernel
theorem tyJ2_ok : ∀ k, k < 0 → parseFieldDescriptor (TJ2 k).2.2.1 = some (tyJ2 k) := by decide +kernel
abbrev cJ2_getChar_3b067 : ByteArray := prog_19_method_5_code
def yJ2_getChar_3b067 : MethodName := ⟨RJ2, "getChar", "([BI)C"⟩
abbrev cJ2_length_9d52b : ByteArray := prog_19_method_6_code
def yJ2_length_9d52b : MethodName := ⟨RJ2, "length", "([B)I"⟩
abbrev cJ2_charAt_3b067 : ByteArray := prog_19_method_83_code
def yJ2_charAt_3b067 : MethodName := ⟨RJ2, "charAt", "([BI)C"⟩
abbrev cJ2_checkIndex_2214a : ByteArray := prog_19_method_91_code
def yJ2_checkIndex_2214a : MethodName := ⟨RJ2, "checkIndex", "(I[B)V"⟩
def RJ10 : String := "java/lang/System"
def TJ10 : u_T := fun k => match k with
  | _ => ("", "", "", false)
def tyJ10 : Nat → FieldType := fun k => match k with
  | _ => .int
abbrev wsJ100 : List Cond := u_ws RJ10 TJ10 0
theorem nmJ10 : ∀ a, a < 0 → ∀ b, b < 0 → a ≠ b → (TJ10 a).2.1 ≠ (TJ10 b).2.1 := by decide +kernel
theorem tyJ10_ok : ∀ k, k < 0 → parseFieldDescriptor (TJ10 k).2.2.1 = some (tyJ10 k) := by decide +kernel
def RJ3 : String := "jdk/internal/util/Preconditions"
def TJ3 : u_T := fun k => match k with
  | _ => ("", "", "", false)
def tyJ3 : Nat → FieldType := fun k => match k with
  | _ => .int
abbrev wsJ30 : List Cond := u_ws RJ3 TJ3 0
theorem nmJ3 : ∀ a, a < 0 → ∀ b, b < 0 → a ≠ b → (TJ3 a).2.1 ≠ (TJ3 b).2.1 := by decide +kernel
theorem tyJ3_ok : ∀ k, k < 0 → parseFieldDescriptor (TJ3 k).2.2.1 = some (tyJ3 k) := by decide +kernel
abbrev cJ3_checkIndex_8e157 : ByteArray := prog_21_method_11_code
def yJ3_checkIndex_8e157 : MethodName := ⟨RJ3, "checkIndex", "(IILjava/util/function/BiFunction;)I"⟩
def RL : String := "QuotaParishLaw"
abbrev cL_law : ByteArray := code
def yL_law : MethodName := ⟨RL, "law", "([I)Z"⟩
abbrev vwCl : List vw_C := [(RX0, TX0, 7), (RX2, TX2, 8), (RX3, TX3, 10), (RX4, TX4, 6), (RX5, TX5, 3), (RX6, TX6, 2), (RX7, TX7, 3), (RX8, TX8, 11), (RX9, TX9, 12), (RX10, TX10, 8), (RX11, TX11, 9), (RX12, TX12, 47)]
def gdW (w : Cond) : Bool := decide ((w.onTables && w.keeps) = true) || (match w with
  | .arrayClass _ => true
  | _ => false)
/-- the tables' words that hold in every later state -/
def TB : List Cond := lw_tbl.filter gdW
theorem TB_in {w : Cond} (h : w ∈ TB) : w ∈ lw_tbl := (List.mem_filter.mp h).1
theorem TB_gd {w : Cond} (h : w ∈ TB) : (w.onTables && w.keeps) = true ∨ ∃ ty, w = .arrayClass ty := by
  have h := (List.mem_filter.mp h).2
  unfold gdW at h
  rcases (Bool.or_eq_true _ _).mp h with h | h
  · exact Or.inl (of_decide_eq_true h)
  · cases w <;> first | exact Or.inr ⟨_, rfl⟩ | cases h
theorem TB_at {w : Cond} (i : Nat) (h : lw_tbl[i]? = some w) (g : gdW w = true) : w ∈ TB := List.mem_filter.mpr ⟨List.mem_of_getElem? h, g⟩
end
section
/-! THE PURE MACHINE: the same bytecode over whole numbers, cells by their places; one theorem (part 04) carries its runs over to the machine itself -/
abbrev PV : Type := Int ⊕ Int ⊕ Option Nat
abbrev vI (x : Int) : PV := Sum.inl x
abbrev vL (x : Int) : PV := Sum.inr (Sum.inl x)
abbrev vR (r : Option Nat) : PV := Sum.inr (Sum.inr r)
abbrev PE : Type := (FieldType × Nat × ((Nat → Int) ⊕ (Nat → Int) ⊕ (Nat → Option Nat))) ⊕ (Nat × List PV)
abbrev PHp : Type := List PE
abbrev PL : Type := List (Option PV)
/-- byte pc, instruction, length, resolved numbers, a constant -/
abbrev PEn : Type := Nat × Instr × Nat × List Nat × Int
/-- ordinal, locals, stack, heap, cells made, slots made -/
abbrev PC : Type := Nat × PL × List PV × PHp × Nat × Nat
abbrev PO : Type := PC ⊕ (Option PV) ⊕ (Nat × List PV × List PV)
abbrev PK : Nat := 1000000
/-- what lies outside the system's cells and is only read: strings (0..10), static rows (11..13), the script (14) -/
abbrev PX : Type := Nat → Nat × (Nat → Int)
def iAnd (a b : Int) : Int := (Int32.ofInt a &&& Int32.ofInt b).toInt
def iOr (a b : Int) : Int := (Int32.ofInt a ||| Int32.ofInt b).toInt
def iXor (a b : Int) : Int := (Int32.ofInt a ^^^ Int32.ofInt b).toInt
def iShl (a b : Int) : Int := (Int32.ofInt a <<< (Int32.ofInt b &&& 31)).toInt
def iShr (a b : Int) : Int := (Int32.ofInt a >>> (Int32.ofInt b &&& 31)).toInt
def iUshr (a b : Int) : Int := ((Int32.ofInt a).toUInt32 >>> ((Int32.ofInt b).toUInt32 &&& Int32.toUInt32 31)).toInt32.toInt
def iDiv (a b : Int) : Int := (Int32.ofInt a / Int32.ofInt b).toInt
def iRem (a b : Int) : Int := (Int32.ofInt a - Int32.ofInt a / Int32.ofInt b * Int32.ofInt b).toInt
def iL2i (a : Int) : Int := (Int64.ofInt a).toInt32.toInt
def iI2l (a : Int) : Int := (Int32.ofInt a).toInt
def lOr (a b : Int) : Int := (Int64.ofInt a ||| Int64.ofInt b).toInt
def lShl (a b : Int) : Int := (Int64.ofInt a <<< ((Int32.ofInt b).toInt64 &&& 63)).toInt
def lShr (a b : Int) : Int := (Int64.ofInt a >>> ((Int32.ofInt b).toInt64 &&& 63)).toInt
def lCmp (a b : Int) : Int := if Int64.ofInt a < Int64.ofInt b then -1 else if Int64.ofInt a = Int64.ofInt b then 0 else 1
def iCmp (cd : ClassFile.Cond) (a b : Int) : Bool := match cd with
  | .eq => decide (Int32.ofInt a = Int32.ofInt b)
  | .ne => !decide (Int32.ofInt a = Int32.ofInt b)
  | .lt => decide (Int32.ofInt a < Int32.ofInt b)
  | .ge => !decide (Int32.ofInt a < Int32.ofInt b)
  | .gt => decide (Int32.ofInt b < Int32.ofInt a)
  | .le => !decide (Int32.ofInt b < Int32.ofInt a)
def nx (i : Nat) (L : PL) (st : List PV) (h : PHp) (cs sl : Nat) : Option PO := some (.inl (i, L, st, h, cs, sl))
def lget (L : PL) (i : Nat) : Option PV := match L[i]? with
  | some (some v) => some v
  | _ => none
def isLg (v : Option (Option PV)) : Bool := match v with
  | some (some (.inr (.inl _))) => true
  | _ => false
def lclr (L : PL) (i : Nat) : PL := match i with
  | 0 => L
  | j + 1 => if isLg L[j]? = true then L.set j none else L
def lput (L : PL) (i : Nat) (v : PV) : PL := (lclr L i).set i (some v)
def lput2 (L : PL) (i : Nat) (v : PV) : PL := ((lclr L i).set i (some v)).set (i + 1) none
def hObj (h : PHp) (c ci : Nat) : Option (List PV) := if c < PK then (match h[c]? with
  | some (.inr (cj, fs)) => if cj = ci then some fs else none
  | _ => none) else none
def hInt (ty : FieldType) (h : PHp) (c : Nat) : Option (Nat × (Nat → Int)) := if c < PK then (match h[c]? with
  | some (.inl (t, n, .inl f)) => if t = ty then some (n, f) else none
  | _ => none) else none
def hLong (h : PHp) (c : Nat) : Option (Nat × (Nat → Int)) := if c < PK then (match h[c]? with
  | some (.inl (t, n, .inr (.inl f))) => if t = .long then some (n, f) else none
  | _ => none) else none
def hRef (h : PHp) (c : Nat) : Option (FieldType × Nat × (Nat → Option Nat)) := if c < PK then (match h[c]? with
  | some (.inl (t, n, .inr (.inr f))) => some (t, n, f)
  | _ => none) else none
def xInt (X : PX) (h : PHp) (c : Nat) : Option (Nat × (Nat → Int)) := if c < PK then hInt .int h c else if c < PK + 11 then none else if c < PK + 15 then some (X (c - PK)) else none
def at2 (n : Nat) (f : Nat → Int) (i : Int) : Option Int := if 0 ≤ i ∧ i < n then some (f i.toNat) else none
def up {α : Type} (f : Nat → α) (k : Nat) (x : α) : Nat → α := fun j => if j = k then x else f j
def cpy (f g : Nat → Int) (sp dp n : Nat) : Nat → Int := fun k => if dp ≤ k ∧ k < dp + n then f (sp + (k - dp)) else g k
def fitF (t : Nat) (v : PV) : Bool := match v with
  | .inl x => t == 0 || (t == 1 && (x == 0 || x == 1))
  | .inr (.inr (some _)) => t == 2
  | _ => false
def catS (st : List PV) : Nat := (st.map fun v => match v with
  | .inr (.inl _) => 2
  | _ => 1).sum
def i2 (st : List PV) (f : Int → Int → Option PV) : Option (List PV) := match st with
  | .inl y :: .inl x :: r => (f x y).map (· :: r)
  | _ => none
def l2 (st : List PV) (f : Int → Int → Option PV) : Option (List PV) := match st with
  | .inr (.inl y) :: .inr (.inl x) :: r => (f x y).map (· :: r)
  | _ => none
def li2 (st : List PV) (f : Int → Int → Option PV) : Option (List PV) := match st with
  | .inl y :: .inr (.inl x) :: r => (f x y).map (· :: r)
  | _ => none
def ld (L : PL) (k : Nat) (j : Nat) : Option PV := match lget L j with
  | some (.inl x) => if k = 0 then some (vI x) else none
  | some (.inr (.inl x)) => if k = 1 then some (vL x) else none
  | some (.inr (.inr (some x))) => if k = 2 then some (vR (some x)) else none
  | _ => none
def ord (ar : List Nat) (k : Nat) : Nat := ar.getD k 0
def fdef (fs : List Nat) : List PV := fs.map fun t => if t = 2 then vR none else vI 0
/-- one instruction -/
def stp (X : PX) (e : PEn) (c : PC) : Option PO :=
  match e, c with
  | (_, ins, _, ar, z), (i, L, st, h, cs, sl) =>
  match ins with
  | .iconst _ => nx (i + 1) L (vI z :: st) h cs sl
  | .bipush _ => nx (i + 1) L (vI z :: st) h cs sl
  | .sipush _ => nx (i + 1) L (vI z :: st) h cs sl
  | .ldc _ => if ar = [] then nx (i + 1) L (vI z :: st) h cs sl else if ord ar 0 < 11 then nx (i + 1) L (vR (some (PK + ord ar 0)) :: st) h cs sl else none
  | .ldc_w _ => nx (i + 1) L (vI z :: st) h cs sl
  | .lconst _ => nx (i + 1) L (vL z :: st) h cs sl
  | .ldc2_w _ => nx (i + 1) L (vL z :: st) h cs sl
  | .iload_n j => (ld L 0 j).bind fun v => nx (i + 1) L (v :: st) h cs sl
  | .iload j => (ld L 0 j).bind fun v => nx (i + 1) L (v :: st) h cs sl
  | .lload_n j => (ld L 1 j).bind fun v => nx (i + 1) L (v :: st) h cs sl
  | .lload j => (ld L 1 j).bind fun v => nx (i + 1) L (v :: st) h cs sl
  | .aload_n j => (ld L 2 j).bind fun v => nx (i + 1) L (v :: st) h cs sl
  | .aload j => (ld L 2 j).bind fun v => nx (i + 1) L (v :: st) h cs sl
  | .istore_n j => match st with
    | .inl x :: r => if (j : Nat) < L.length then nx (i + 1) (lput L j (vI x)) r h cs sl else none
    | _ => none
  | .istore j => match st with
    | .inl x :: r => if j < L.length then nx (i + 1) (lput L j (vI x)) r h cs sl else none
    | _ => none
  | .lstore_n j => match st with
    | .inr (.inl x) :: r => if (j : Nat) + 1 < L.length then nx (i + 1) (lput2 L j (vL x)) r h cs sl else none
    | _ => none
  | .lstore j => match st with
    | .inr (.inl x) :: r => if j + 1 < L.length then nx (i + 1) (lput2 L j (vL x)) r h cs sl else none
    | _ => none
  | .astore_n j => match st with
    | .inr (.inr (some x)) :: r => if (j : Nat) < L.length then nx (i + 1) (lput L j (vR (some x))) r h cs sl else none
    | _ => none
  | .astore j => match st with
    | .inr (.inr (some x)) :: r => if j < L.length then nx (i + 1) (lput L j (vR (some x))) r h cs sl else none
    | _ => none
  | .iinc j n => match lget L j with
    | some (.inl x) => nx (i + 1) (lput L j (vI (x + n))) st h cs sl
    | _ => none
  | .iadd => (i2 st fun x y => some (vI (x + y))).bind fun s => nx (i + 1) L s h cs sl
  | .isub => (i2 st fun x y => some (vI (x - y))).bind fun s => nx (i + 1) L s h cs sl
  | .imul => (i2 st fun x y => some (vI (x * y))).bind fun s => nx (i + 1) L s h cs sl
  | .idiv => (i2 st fun x y => if Int32.ofInt y = 0 then none else some (vI (iDiv x y))).bind fun s => nx (i + 1) L s h cs sl
  | .irem => (i2 st fun x y => if Int32.ofInt y = 0 then none else some (vI (iRem x y))).bind fun s => nx (i + 1) L s h cs sl
  | .iand => (i2 st fun x y => some (vI (iAnd x y))).bind fun s => nx (i + 1) L s h cs sl
  | .ior => (i2 st fun x y => some (vI (iOr x y))).bind fun s => nx (i + 1) L s h cs sl
  | .ixor => (i2 st fun x y => some (vI (iXor x y))).bind fun s => nx (i + 1) L s h cs sl
  | .ishl => (i2 st fun x y => some (vI (iShl x y))).bind fun s => nx (i + 1) L s h cs sl
  | .ishr => (i2 st fun x y => some (vI (iShr x y))).bind fun s => nx (i + 1) L s h cs sl
  | .iushr => (i2 st fun x y => some (vI (iUshr x y))).bind fun s => nx (i + 1) L s h cs sl
  | .ladd => (l2 st fun x y => some (vL (x + y))).bind fun s => nx (i + 1) L s h cs sl
  | .lsub => (l2 st fun x y => some (vL (x - y))).bind fun s => nx (i + 1) L s h cs sl
  | .lmul => (l2 st fun x y => some (vL (x * y))).bind fun s => nx (i + 1) L s h cs sl
  | .lor => (l2 st fun x y => some (vL (lOr x y))).bind fun s => nx (i + 1) L s h cs sl
  | .lshl => (li2 st fun x y => some (vL (lShl x y))).bind fun s => nx (i + 1) L s h cs sl
  | .lshr => (li2 st fun x y => some (vL (lShr x y))).bind fun s => nx (i + 1) L s h cs sl
  | .lcmp => (l2 st fun x y => some (vI (lCmp x y))).bind fun s => nx (i + 1) L s h cs sl
  | .ineg => match st with
    | .inl x :: r => nx (i + 1) L (vI (-x) :: r) h cs sl
    | _ => none
  | .i2l => match st with
    | .inl x :: r => nx (i + 1) L (vL (iI2l x) :: r) h cs sl
    | _ => none
  | .l2i => match st with
    | .inr (.inl x) :: r => nx (i + 1) L (vI (iL2i x) :: r) h cs sl
    | _ => none
  | .dup => match st with
    | .inl x :: r => nx (i + 1) L (vI x :: vI x :: r) h cs sl
    | .inr (.inr (some x)) :: r => nx (i + 1) L (vR (some x) :: vR (some x) :: r) h cs sl
    | _ => none
  | .dup2 => match st with
    | .inl x :: .inr (.inr (some y)) :: r => nx (i + 1) L (vI x :: vR (some y) :: vI x :: vR (some y) :: r) h cs sl
    | _ => none
  | .pop => match st with
    | .inl _ :: r => nx (i + 1) L r h cs sl
    | _ => none
  | .goto _ => nx (ord ar 0) L st h cs sl
  | .ifCond cd _ => match st with
    | .inl x :: r => nx (if iCmp cd x 0 = true then ord ar 0 else i + 1) L r h cs sl
    | _ => none
  | .if_icmp cd _ => match st with
    | .inl y :: .inl x :: r => nx (if iCmp cd x y = true then ord ar 0 else i + 1) L r h cs sl
    | _ => none
  | .tableswitch _ lo hi _ => match st with
    | .inl x :: r => nx (if (Int32.ofInt x).toInt < lo ∨ hi < (Int32.ofInt x).toInt then ord ar 0 else ord ar (1 + ((Int32.ofInt x).toInt - lo).toNat)) L r h cs sl
    | _ => none
  | .lookupswitch _ ps => match st with
    | .inl x :: r => nx (match ps.toList.findIdx? (fun p => p.1 == (Int32.ofInt x).toInt) with
      | some k => ord ar (k + 1)
      | none => ord ar 0) L r h cs sl
    | _ => none
  | .getfield _ => match st with
    | .inr (.inr (some c)) :: r => (hObj h c (ord ar 0)).bind fun fs => match fs[ord ar 1]? with
      | some v => nx (i + 1) L (v :: r) h cs sl
      | none => none
    | _ => none
  | .putfield _ => match st with
    | v :: .inr (.inr (some c)) :: r => (hObj h c (ord ar 0)).bind fun fs => if ord ar 1 < fs.length ∧ fitF (ord ar 2) v = true then nx (i + 1) L r (h.set c (.inr (ord ar 0, fs.set (ord ar 1) v))) cs sl else none
    | _ => none
  | .getstatic _ => if 11 ≤ ord ar 0 ∧ ord ar 0 < 14 then nx (i + 1) L (vR (some (PK + ord ar 0)) :: st) h cs sl else none
  | .iaload => match st with
    | .inl j :: .inr (.inr (some c)) :: r => (xInt X h c).bind fun a => (at2 a.1 a.2 j).bind fun x => nx (i + 1) L (vI x :: r) h cs sl
    | _ => none
  | .baload => match st with
    | .inl j :: .inr (.inr (some c)) :: r => (hInt .boolean h c).bind fun a => (at2 a.1 a.2 j).bind fun x => nx (i + 1) L (vI x :: r) h cs sl
    | _ => none
  | .laload => match st with
    | .inl j :: .inr (.inr (some c)) :: r => (hLong h c).bind fun a => (at2 a.1 a.2 j).bind fun x => nx (i + 1) L (vL x :: r) h cs sl
    | _ => none
  | .aaload => match st with
    | .inl j :: .inr (.inr (some c)) :: r => (hRef h c).bind fun a => if 0 ≤ j ∧ j < a.2.1 then nx (i + 1) L (vR (a.2.2 j.toNat) :: r) h cs sl else none
    | _ => none
  | .iastore => match st with
    | .inl x :: .inl j :: .inr (.inr (some c)) :: r => (hInt .int h c).bind fun a => if 0 ≤ j ∧ j < a.1 then nx (i + 1) L r (h.set c (.inl (.int, a.1, .inl (up a.2 j.toNat x)))) cs sl else none
    | _ => none
  | .bastore => match st with
    | .inl x :: .inl j :: .inr (.inr (some c)) :: r => (hInt .boolean h c).bind fun a => if 0 ≤ j ∧ j < a.1 ∧ (x = 0 ∨ x = 1) then nx (i + 1) L r (h.set c (.inl (.boolean, a.1, .inl (up a.2 j.toNat x)))) cs sl else none
    | _ => none
  | .lastore => match st with
    | .inr (.inl x) :: .inl j :: .inr (.inr (some c)) :: r => (hLong h c).bind fun a => if 0 ≤ j ∧ j < a.1 then nx (i + 1) L r (h.set c (.inl (.long, a.1, .inr (.inl (up a.2 j.toNat x))))) cs sl else none
    | _ => none
  | .aastore => match st with
    | .inr (.inr (some v)) :: .inl j :: .inr (.inr (some c)) :: r => (hRef h c).bind fun a => if 0 ≤ j ∧ j < a.2.1 ∧ (hObj h v (ord ar 0)).isSome = true ∧ a.1 = .object ((vwCl.getD (ord ar 0) (RX0, TX0, 7)).1) ∧ ord ar 0 < 12 then nx (i + 1) L r (h.set c (.inl (a.1, a.2.1, .inr (.inr (up a.2.2 j.toNat (some v)))))) cs sl else none
    | _ => none
  | .arraylength => match st with
    | .inr (.inr (some c)) :: r => (xInt X h c).bind fun a => nx (i + 1) L (vI a.1 :: r) h cs sl
    | _ => none
  | .newarray at_ => match st with
    | .inl n :: r => if 0 ≤ n ∧ n ≤ 100000 ∧ h.length < PK then (match at_ with
      | .int => nx (i + 1) L (vR (some h.length) :: r) (h ++ [.inl (.int, n.toNat, .inl fun _ => 0)]) (cs + 1) (sl + n.toNat)
      | .boolean => nx (i + 1) L (vR (some h.length) :: r) (h ++ [.inl (.boolean, n.toNat, .inl fun _ => 0)]) (cs + 1) (sl + n.toNat)
      | .long => nx (i + 1) L (vR (some h.length) :: r) (h ++ [.inl (.long, n.toNat, .inr (.inl fun _ => 0))]) (cs + 1) (sl + n.toNat)
      | _ => none) else none
    | _ => none
  | .anewarray _ => match st with
    | .inl n :: r => if 0 ≤ n ∧ n ≤ 100000 ∧ h.length < PK ∧ ord ar 0 < 12 then nx (i + 1) L (vR (some h.length) :: r) (h ++ [.inl (.object ((vwCl.getD (ord ar 0) (RX0, TX0, 7)).1), n.toNat, .inr (.inr fun _ => none))]) (cs + 1) (sl + n.toNat) else none
    | _ => none
  | .new _ => if h.length < PK then nx (i + 1) L (vR (some h.length) :: st) (h ++ [.inr (ord ar 0, fdef (ar.drop 1))]) (cs + 1) (sl + (ar.drop 1).length) else none
  | .ireturn => match st with
    | [.inl x] => if cs = ord ar 1 ∧ sl = ord ar 2 ∧ (ord ar 0 = 0 ∨ x = 0 ∨ x = 1) then some (.inr (.inl (some (vI x)))) else none
    | _ => none
  | .lreturn => match st with
    | [.inr (.inl x)] => if cs = ord ar 1 ∧ sl = ord ar 2 then some (.inr (.inl (some (vL x)))) else none
    | _ => none
  | .return_ => match st with
    | [] => if cs = ord ar 1 ∧ sl = ord ar 2 then some (.inr (.inl none)) else none
    | _ => none
  | .invokevirtual _ => if ord ar 0 = 902 then (match st with
      | .inr (.inr (some c)) :: r => if PK ≤ c ∧ c < PK + 11 ∧ catS r ≤ 8 then nx (i + 1) L (vI (X (c - PK)).1 :: r) h cs sl else none
      | _ => none)
    else if ord ar 0 = 903 then (match st with
      | .inl j :: .inr (.inr (some c)) :: r => if PK ≤ c ∧ c < PK + 11 ∧ catS r ≤ 8 then (at2 (X (c - PK)).1 (X (c - PK)).2 j).bind fun x => nx (i + 1) L (vI x :: r) h cs sl else none
      | _ => none)
    else match st.drop (ord ar 1) with
      | .inr (.inr (some c)) :: r => if (hObj h c (ord ar 2)).isSome = true ∧ catS r ≤ 8 then some (.inr (.inr (ord ar 0, vR (some c) :: (st.take (ord ar 1)).reverse, r))) else none
      | _ => none
  | .invokespecial _ => match st.drop (ord ar 1) with
    | .inr (.inr (some c)) :: r => if ord ar 0 = 900 then (if catS r ≤ 8 ∧ ord ar 1 = 0 then nx (i + 1) L r h cs sl else none) else if catS r ≤ 8 then some (.inr (.inr (ord ar 0, vR (some c) :: (st.take (ord ar 1)).reverse, r))) else none
    | _ => none
  | .invokestatic _ => if ord ar 0 = 901 then (match st with
      | .inl n :: .inl dp :: .inr (.inr (some d)) :: .inl sp :: .inr (.inr (some s)) :: r => (hInt .int h s).bind fun a => (hInt .int h d).bind fun b =>
        if 0 ≤ sp ∧ 0 ≤ dp ∧ 0 ≤ n ∧ sp + n ≤ a.1 ∧ dp + n ≤ b.1 ∧ a.1 ≤ 100000 ∧ b.1 ≤ 100000 ∧ catS r ≤ 8 then nx (i + 1) L r (h.set d (.inl (.int, b.1, .inl (cpy a.2 b.2 sp.toNat dp.toNat n.toNat)))) cs sl else none
      | _ => none)
    else if ord ar 1 ≤ st.length ∧ catS (st.drop (ord ar 1)) ≤ 8 then some (.inr (.inr (ord ar 0, (st.take (ord ar 1)).reverse, st.drop (ord ar 1)))) else none
  | _ => none
/-- the locals at a method's entry: a long takes two -/
def pargs : List PV → PL
  | [] => []
  | .inr (.inl x) :: r => some (vL x) :: none :: pargs r
  | v :: r => some v :: pargs r
def pent (mL : Nat) (as : List PV) : PL := pargs as ++ List.replicate (mL - (pargs as).length) none
/-- a run: fuel, the code of each method with its number of locals, its made cells and slots -/
def run (X : PX) (cd : Nat → List PEn) (mi : Nat → Nat × Nat × Nat) : Nat → Nat → PC → Option (Option PV × PHp)
  | 0, _, _ => none
  | n + 1, k, c => match (cd k)[c.1]? with
    | none => none
    | some e => match stp X e c with
      | none => none
      | some (.inl d) => run X cd mi n k d
      | some (.inr (.inl v)) => some (v, c.2.2.2.1)
      | some (.inr (.inr (k2, as, r))) => match run X cd mi n k2 (0, pent (mi k2).1 as, [], c.2.2.2.1, 0, 0) with
        | none => none
        | some (v, h) => run X cd mi n k (c.1 + 1, c.2.1, v.toList ++ r, h, c.2.2.2.2.1 + (mi k2).2.1, c.2.2.2.2.2 + (mi k2).2.2)
end
