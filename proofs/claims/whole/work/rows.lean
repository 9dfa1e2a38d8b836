section
-- ===== PART A: goes FIRST, ahead of the names: the tables' words, and 'selects' of the private methods out of them =====
/-- a private method of a class that the tables say can be made, by its rows of tables_1 -/
def lw_okq (q : MethodName × Nat) : Prop := (q.1.cls ≠ "java/lang/invoke/MethodHandle" ∧ q.1.cls ≠ "java/lang/invoke/VarHandle") ∧ Cond.instantiable q.1.cls q.2 ∈ tables_1 ∧ Cond.privateMethod q.1 ∈ tables_1 ∧ Cond.instanceMethod q.1 ∈ tables_1
theorem lw_p0 : lw_okq (⟨"QuotaParish$Reader", "nextToken", "()V"⟩, 12) := ⟨⟨by decide +kernel, by decide +kernel⟩, List.mem_of_getElem? (i := 173) (by decide +kernel), List.mem_of_getElem? (i := 470) (by decide +kernel), List.mem_of_getElem? (i := 471) (by decide +kernel)⟩
theorem lw_p1 : lw_okq (⟨"QuotaParish$Reader", "readDigits", "(I)I"⟩, 12) := ⟨⟨by decide +kernel, by decide +kernel⟩, List.mem_of_getElem? (i := 173) (by decide +kernel), List.mem_of_getElem? (i := 487) (by decide +kernel), List.mem_of_getElem? (i := 488) (by decide +kernel)⟩
theorem lw_p2 : lw_okq (⟨"QuotaParish$Reader", "readLine", "(I)V"⟩, 12) := ⟨⟨by decide +kernel, by decide +kernel⟩, List.mem_of_getElem? (i := 173) (by decide +kernel), List.mem_of_getElem? (i := 491) (by decide +kernel), List.mem_of_getElem? (i := 492) (by decide +kernel)⟩
theorem lw_p3 : lw_okq (⟨"QuotaParish$Reader", "lineOf", "(I)I"⟩, 12) := ⟨⟨by decide +kernel, by decide +kernel⟩, List.mem_of_getElem? (i := 173) (by decide +kernel), List.mem_of_getElem? (i := 495) (by decide +kernel), List.mem_of_getElem? (i := 496) (by decide +kernel)⟩
theorem lw_p4 : lw_okq (⟨"QuotaParish$Reader", "parishLine", "()I"⟩, 12) := ⟨⟨by decide +kernel, by decide +kernel⟩, List.mem_of_getElem? (i := 173) (by decide +kernel), List.mem_of_getElem? (i := 499) (by decide +kernel), List.mem_of_getElem? (i := 500) (by decide +kernel)⟩
theorem lw_p5 : lw_okq (⟨"QuotaParish$Reader", "spells", "(Ljava/lang/String;)Z"⟩, 12) := ⟨⟨by decide +kernel, by decide +kernel⟩, List.mem_of_getElem? (i := 173) (by decide +kernel), List.mem_of_getElem? (i := 504) (by decide +kernel), List.mem_of_getElem? (i := 505) (by decide +kernel)⟩
theorem lw_p6 : lw_okq (⟨"QuotaParish$Reader", "yearsLine", "()I"⟩, 12) := ⟨⟨by decide +kernel, by decide +kernel⟩, List.mem_of_getElem? (i := 173) (by decide +kernel), List.mem_of_getElem? (i := 561) (by decide +kernel), List.mem_of_getElem? (i := 562) (by decide +kernel)⟩
theorem lw_p7 : lw_okq (⟨"QuotaParish$Reader", "breakOff", "()V"⟩, 12) := ⟨⟨by decide +kernel, by decide +kernel⟩, List.mem_of_getElem? (i := 173) (by decide +kernel), List.mem_of_getElem? (i := 570) (by decide +kernel), List.mem_of_getElem? (i := 571) (by decide +kernel)⟩
theorem lw_p8 : lw_okq (⟨"QuotaParish$Reader", "isFull", "(II)Z"⟩, 12) := ⟨⟨by decide +kernel, by decide +kernel⟩, List.mem_of_getElem? (i := 173) (by decide +kernel), List.mem_of_getElem? (i := 574) (by decide +kernel), List.mem_of_getElem? (i := 575) (by decide +kernel)⟩
theorem lw_p9 : lw_okq (⟨"QuotaParish$Reader", "isRule", "(II)Z"⟩, 12) := ⟨⟨by decide +kernel, by decide +kernel⟩, List.mem_of_getElem? (i := 173) (by decide +kernel), List.mem_of_getElem? (i := 578) (by decide +kernel), List.mem_of_getElem? (i := 579) (by decide +kernel)⟩
theorem lw_p10 : lw_okq (⟨"QuotaParish$Reader", "noteFault", "(II)V"⟩, 12) := ⟨⟨by decide +kernel, by decide +kernel⟩, List.mem_of_getElem? (i := 173) (by decide +kernel), List.mem_of_getElem? (i := 582) (by decide +kernel), List.mem_of_getElem? (i := 583) (by decide +kernel)⟩
theorem lw_p11 : lw_okq (⟨"QuotaParish$Reader", "limitOf", "(III)I"⟩, 12) := ⟨⟨by decide +kernel, by decide +kernel⟩, List.mem_of_getElem? (i := 173) (by decide +kernel), List.mem_of_getElem? (i := 586) (by decide +kernel), List.mem_of_getElem? (i := 587) (by decide +kernel)⟩
theorem lw_p12 : lw_okq (⟨"QuotaParish$Reader", "isRepeated", "(I)Z"⟩, 12) := ⟨⟨by decide +kernel, by decide +kernel⟩, List.mem_of_getElem? (i := 173) (by decide +kernel), List.mem_of_getElem? (i := 596) (by decide +kernel), List.mem_of_getElem? (i := 597) (by decide +kernel)⟩
theorem lw_p13 : lw_okq (⟨"QuotaParish$Reader", "keepLine", "(II)V"⟩, 12) := ⟨⟨by decide +kernel, by decide +kernel⟩, List.mem_of_getElem? (i := 173) (by decide +kernel), List.mem_of_getElem? (i := 600) (by decide +kernel), List.mem_of_getElem? (i := 601) (by decide +kernel)⟩
theorem lw_p14 : lw_okq (⟨"QuotaParish$Reader", "keepParishLine", "(I)V"⟩, 12) := ⟨⟨by decide +kernel, by decide +kernel⟩, List.mem_of_getElem? (i := 173) (by decide +kernel), List.mem_of_getElem? (i := 608) (by decide +kernel), List.mem_of_getElem? (i := 609) (by decide +kernel)⟩
theorem lw_p15 : lw_okq (⟨"QuotaParish", "keepText", "(II)V"⟩, 9) := ⟨⟨by decide +kernel, by decide +kernel⟩, List.mem_of_getElem? (i := 22) (by decide +kernel), List.mem_of_getElem? (i := 620) (by decide +kernel), List.mem_of_getElem? (i := 621) (by decide +kernel)⟩
def lw_privs_1 : List (MethodName × Nat) := [(⟨"QuotaParish$Reader", "nextToken", "()V"⟩, 12), (⟨"QuotaParish$Reader", "readDigits", "(I)I"⟩, 12), (⟨"QuotaParish$Reader", "readLine", "(I)V"⟩, 12), (⟨"QuotaParish$Reader", "lineOf", "(I)I"⟩, 12), (⟨"QuotaParish$Reader", "parishLine", "()I"⟩, 12), (⟨"QuotaParish$Reader", "spells", "(Ljava/lang/String;)Z"⟩, 12), (⟨"QuotaParish$Reader", "yearsLine", "()I"⟩, 12), (⟨"QuotaParish$Reader", "breakOff", "()V"⟩, 12), (⟨"QuotaParish$Reader", "isFull", "(II)Z"⟩, 12), (⟨"QuotaParish$Reader", "isRule", "(II)Z"⟩, 12), (⟨"QuotaParish$Reader", "noteFault", "(II)V"⟩, 12), (⟨"QuotaParish$Reader", "limitOf", "(III)I"⟩, 12), (⟨"QuotaParish$Reader", "isRepeated", "(I)Z"⟩, 12), (⟨"QuotaParish$Reader", "keepLine", "(II)V"⟩, 12), (⟨"QuotaParish$Reader", "keepParishLine", "(I)V"⟩, 12), (⟨"QuotaParish", "keepText", "(II)V"⟩, 9)]
theorem lw_r1 : ∀ q ∈ lw_privs_1, lw_okq q := List.forall_mem_cons.mpr ⟨lw_p0, List.forall_mem_cons.mpr ⟨lw_p1, List.forall_mem_cons.mpr ⟨lw_p2, List.forall_mem_cons.mpr ⟨lw_p3, List.forall_mem_cons.mpr ⟨lw_p4, List.forall_mem_cons.mpr ⟨lw_p5, List.forall_mem_cons.mpr ⟨lw_p6, List.forall_mem_cons.mpr ⟨lw_p7, List.forall_mem_cons.mpr ⟨lw_p8, List.forall_mem_cons.mpr ⟨lw_p9, List.forall_mem_cons.mpr ⟨lw_p10, List.forall_mem_cons.mpr ⟨lw_p11, List.forall_mem_cons.mpr ⟨lw_p12, List.forall_mem_cons.mpr ⟨lw_p13, List.forall_mem_cons.mpr ⟨lw_p14, List.forall_mem_cons.mpr ⟨lw_p15, fun _ h => absurd h List.not_mem_nil⟩⟩⟩⟩⟩⟩⟩⟩⟩⟩⟩⟩⟩⟩⟩⟩
theorem lw_p16 : lw_okq (⟨"QuotaParish$Levy", "giveOneMore", "()V"⟩, 3) := ⟨⟨by decide +kernel, by decide +kernel⟩, List.mem_of_getElem? (i := 234) (by decide +kernel), List.mem_of_getElem? (i := 694) (by decide +kernel), List.mem_of_getElem? (i := 695) (by decide +kernel)⟩
theorem lw_p17 : lw_okq (⟨"QuotaParish", "houseDetail", "(LQuotaParish$Parish;I)I"⟩, 9) := ⟨⟨by decide +kernel, by decide +kernel⟩, List.mem_of_getElem? (i := 22) (by decide +kernel), List.mem_of_getElem? (i := 698) (by decide +kernel), List.mem_of_getElem? (i := 699) (by decide +kernel)⟩
theorem lw_p18 : lw_okq (⟨"QuotaParish$Course", "loseOffice", "(I)Z"⟩, 10) := ⟨⟨by decide +kernel, by decide +kernel⟩, List.mem_of_getElem? (i := 226) (by decide +kernel), List.mem_of_getElem? (i := 763) (by decide +kernel), List.mem_of_getElem? (i := 764) (by decide +kernel)⟩
theorem lw_p19 : lw_okq (⟨"QuotaParish$Course", "changeQuota", "(I)Z"⟩, 10) := ⟨⟨by decide +kernel, by decide +kernel⟩, List.mem_of_getElem? (i := 226) (by decide +kernel), List.mem_of_getElem? (i := 767) (by decide +kernel), List.mem_of_getElem? (i := 768) (by decide +kernel)⟩
theorem lw_p20 : lw_okq (⟨"QuotaParish$Course", "changePrice", "(I)Z"⟩, 10) := ⟨⟨by decide +kernel, by decide +kernel⟩, List.mem_of_getElem? (i := 226) (by decide +kernel), List.mem_of_getElem? (i := 771) (by decide +kernel), List.mem_of_getElem? (i := 772) (by decide +kernel)⟩
theorem lw_p21 : lw_okq (⟨"QuotaParish$Course", "cutRule", "(I)Z"⟩, 10) := ⟨⟨by decide +kernel, by decide +kernel⟩, List.mem_of_getElem? (i := 226) (by decide +kernel), List.mem_of_getElem? (i := 775) (by decide +kernel), List.mem_of_getElem? (i := 776) (by decide +kernel)⟩
theorem lw_p22 : lw_okq (⟨"QuotaParish$Annals", "note", "(III)V"⟩, 7) := ⟨⟨by decide +kernel, by decide +kernel⟩, List.mem_of_getElem? (i := 349) (by decide +kernel), List.mem_of_getElem? (i := 780) (by decide +kernel), List.mem_of_getElem? (i := 781) (by decide +kernel)⟩
theorem lw_p23 : lw_okq (⟨"QuotaParish$Outlook", "draw", "(I)I"⟩, 2) := ⟨⟨by decide +kernel, by decide +kernel⟩, List.mem_of_getElem? (i := 336) (by decide +kernel), List.mem_of_getElem? (i := 816) (by decide +kernel), List.mem_of_getElem? (i := 817) (by decide +kernel)⟩
theorem lw_p24 : lw_okq (⟨"QuotaParish$Buying", "isDriven", "(II)Z"⟩, 8) := ⟨⟨by decide +kernel, by decide +kernel⟩, List.mem_of_getElem? (i := 300) (by decide +kernel), List.mem_of_getElem? (i := 831) (by decide +kernel), List.mem_of_getElem? (i := 832) (by decide +kernel)⟩
theorem lw_p25 : lw_okq (⟨"QuotaParish$Buying", "noteBuyer", "(I)V"⟩, 8) := ⟨⟨by decide +kernel, by decide +kernel⟩, List.mem_of_getElem? (i := 300) (by decide +kernel), List.mem_of_getElem? (i := 841) (by decide +kernel), List.mem_of_getElem? (i := 842) (by decide +kernel)⟩
theorem lw_p26 : lw_okq (⟨"QuotaParish$Buying", "fillMargins", "(LQuotaParish$Parish;II)V"⟩, 8) := ⟨⟨by decide +kernel, by decide +kernel⟩, List.mem_of_getElem? (i := 300) (by decide +kernel), List.mem_of_getElem? (i := 866) (by decide +kernel), List.mem_of_getElem? (i := 867) (by decide +kernel)⟩
theorem lw_p27 : lw_okq (⟨"QuotaParish$Buying", "goodsOf", "(I)I"⟩, 8) := ⟨⟨by decide +kernel, by decide +kernel⟩, List.mem_of_getElem? (i := 300) (by decide +kernel), List.mem_of_getElem? (i := 871) (by decide +kernel), List.mem_of_getElem? (i := 872) (by decide +kernel)⟩
theorem lw_p28 : lw_okq (⟨"QuotaParish$Buying", "takeTurn", "(LQuotaParish$Parish;III)V"⟩, 8) := ⟨⟨by decide +kernel, by decide +kernel⟩, List.mem_of_getElem? (i := 300) (by decide +kernel), List.mem_of_getElem? (i := 876) (by decide +kernel), List.mem_of_getElem? (i := 877) (by decide +kernel)⟩
theorem lw_p29 : lw_okq (⟨"QuotaParish$Fitting", "isAsLogged", "(LQuotaParish$Parish;LQuotaParish$Pairs;)Z"⟩, 6) := ⟨⟨by decide +kernel, by decide +kernel⟩, List.mem_of_getElem? (i := 381) (by decide +kernel), List.mem_of_getElem? (i := 1099) (by decide +kernel), List.mem_of_getElem? (i := 1100) (by decide +kernel)⟩
theorem lw_p30 : lw_okq (⟨"QuotaParish$Fitting", "packedTaxes", "()J"⟩, 6) := ⟨⟨by decide +kernel, by decide +kernel⟩, List.mem_of_getElem? (i := 381) (by decide +kernel), List.mem_of_getElem? (i := 1105) (by decide +kernel), List.mem_of_getElem? (i := 1106) (by decide +kernel)⟩
theorem lw_p31 : lw_okq (⟨"QuotaParish$Fitting", "leftAtWorst", "(I)I"⟩, 6) := ⟨⟨by decide +kernel, by decide +kernel⟩, List.mem_of_getElem? (i := 381) (by decide +kernel), List.mem_of_getElem? (i := 1113) (by decide +kernel), List.mem_of_getElem? (i := 1114) (by decide +kernel)⟩
def lw_privs_2 : List (MethodName × Nat) := [(⟨"QuotaParish$Levy", "giveOneMore", "()V"⟩, 3), (⟨"QuotaParish", "houseDetail", "(LQuotaParish$Parish;I)I"⟩, 9), (⟨"QuotaParish$Course", "loseOffice", "(I)Z"⟩, 10), (⟨"QuotaParish$Course", "changeQuota", "(I)Z"⟩, 10), (⟨"QuotaParish$Course", "changePrice", "(I)Z"⟩, 10), (⟨"QuotaParish$Course", "cutRule", "(I)Z"⟩, 10), (⟨"QuotaParish$Annals", "note", "(III)V"⟩, 7), (⟨"QuotaParish$Outlook", "draw", "(I)I"⟩, 2), (⟨"QuotaParish$Buying", "isDriven", "(II)Z"⟩, 8), (⟨"QuotaParish$Buying", "noteBuyer", "(I)V"⟩, 8), (⟨"QuotaParish$Buying", "fillMargins", "(LQuotaParish$Parish;II)V"⟩, 8), (⟨"QuotaParish$Buying", "goodsOf", "(I)I"⟩, 8), (⟨"QuotaParish$Buying", "takeTurn", "(LQuotaParish$Parish;III)V"⟩, 8), (⟨"QuotaParish$Fitting", "isAsLogged", "(LQuotaParish$Parish;LQuotaParish$Pairs;)Z"⟩, 6), (⟨"QuotaParish$Fitting", "packedTaxes", "()J"⟩, 6), (⟨"QuotaParish$Fitting", "leftAtWorst", "(I)I"⟩, 6)]
theorem lw_r2 : ∀ q ∈ lw_privs_2, lw_okq q := List.forall_mem_cons.mpr ⟨lw_p16, List.forall_mem_cons.mpr ⟨lw_p17, List.forall_mem_cons.mpr ⟨lw_p18, List.forall_mem_cons.mpr ⟨lw_p19, List.forall_mem_cons.mpr ⟨lw_p20, List.forall_mem_cons.mpr ⟨lw_p21, List.forall_mem_cons.mpr ⟨lw_p22, List.forall_mem_cons.mpr ⟨lw_p23, List.forall_mem_cons.mpr ⟨lw_p24, List.forall_mem_cons.mpr ⟨lw_p25, List.forall_mem_cons.mpr ⟨lw_p26, List.forall_mem_cons.mpr ⟨lw_p27, List.forall_mem_cons.mpr ⟨lw_p28, List.forall_mem_cons.mpr ⟨lw_p29, List.forall_mem_cons.mpr ⟨lw_p30, List.forall_mem_cons.mpr ⟨lw_p31, fun _ h => absurd h List.not_mem_nil⟩⟩⟩⟩⟩⟩⟩⟩⟩⟩⟩⟩⟩⟩⟩⟩
theorem lw_p32 : lw_okq (⟨"QuotaParishModel", "isOf", "(II)Z"⟩, 47) := ⟨⟨by decide +kernel, by decide +kernel⟩, List.mem_of_getElem? (i := 1153) (by decide +kernel), List.mem_of_getElem? (i := 1316) (by decide +kernel), List.mem_of_getElem? (i := 1317) (by decide +kernel)⟩
theorem lw_p33 : lw_okq (⟨"QuotaParishModel", "advance", "()V"⟩, 47) := ⟨⟨by decide +kernel, by decide +kernel⟩, List.mem_of_getElem? (i := 1153) (by decide +kernel), List.mem_of_getElem? (i := 1320) (by decide +kernel), List.mem_of_getElem? (i := 1321) (by decide +kernel)⟩
theorem lw_p34 : lw_okq (⟨"QuotaParishModel", "byteAt", "(I)I"⟩, 47) := ⟨⟨by decide +kernel, by decide +kernel⟩, List.mem_of_getElem? (i := 1153) (by decide +kernel), List.mem_of_getElem? (i := 1324) (by decide +kernel), List.mem_of_getElem? (i := 1325) (by decide +kernel)⟩
theorem lw_p35 : lw_okq (⟨"QuotaParishModel", "parishLine", "()V"⟩, 47) := ⟨⟨by decide +kernel, by decide +kernel⟩, List.mem_of_getElem? (i := 1153) (by decide +kernel), List.mem_of_getElem? (i := 1346) (by decide +kernel), List.mem_of_getElem? (i := 1347) (by decide +kernel)⟩
theorem lw_p36 : lw_okq (⟨"QuotaParishModel", "wordIn", "(II)I"⟩, 47) := ⟨⟨by decide +kernel, by decide +kernel⟩, List.mem_of_getElem? (i := 1153) (by decide +kernel), List.mem_of_getElem? (i := 1350) (by decide +kernel), List.mem_of_getElem? (i := 1351) (by decide +kernel)⟩
theorem lw_p37 : lw_okq (⟨"QuotaParishModel", "ends", "()V"⟩, 47) := ⟨⟨by decide +kernel, by decide +kernel⟩, List.mem_of_getElem? (i := 1153) (by decide +kernel), List.mem_of_getElem? (i := 1354) (by decide +kernel), List.mem_of_getElem? (i := 1355) (by decide +kernel)⟩
theorem lw_p38 : lw_okq (⟨"QuotaParishModel", "houseTold", "()I"⟩, 47) := ⟨⟨by decide +kernel, by decide +kernel⟩, List.mem_of_getElem? (i := 1153) (by decide +kernel), List.mem_of_getElem? (i := 1358) (by decide +kernel), List.mem_of_getElem? (i := 1359) (by decide +kernel)⟩
theorem lw_p39 : lw_okq (⟨"QuotaParishModel", "numbered", "(II)I"⟩, 47) := ⟨⟨by decide +kernel, by decide +kernel⟩, List.mem_of_getElem? (i := 1153) (by decide +kernel), List.mem_of_getElem? (i := 1362) (by decide +kernel), List.mem_of_getElem? (i := 1363) (by decide +kernel)⟩
theorem lw_p40 : lw_okq (⟨"QuotaParishModel", "also", "(II)V"⟩, 47) := ⟨⟨by decide +kernel, by decide +kernel⟩, List.mem_of_getElem? (i := 1153) (by decide +kernel), List.mem_of_getElem? (i := 1366) (by decide +kernel), List.mem_of_getElem? (i := 1367) (by decide +kernel)⟩
theorem lw_p41 : lw_okq (⟨"QuotaParishModel", "houseLine", "(I)V"⟩, 47) := ⟨⟨by decide +kernel, by decide +kernel⟩, List.mem_of_getElem? (i := 1153) (by decide +kernel), List.mem_of_getElem? (i := 1370) (by decide +kernel), List.mem_of_getElem? (i := 1371) (by decide +kernel)⟩
theorem lw_p42 : lw_okq (⟨"QuotaParishModel", "ruleTold", "(IZ)V"⟩, 47) := ⟨⟨by decide +kernel, by decide +kernel⟩, List.mem_of_getElem? (i := 1153) (by decide +kernel), List.mem_of_getElem? (i := 1374) (by decide +kernel), List.mem_of_getElem? (i := 1375) (by decide +kernel)⟩
theorem lw_p43 : lw_okq (⟨"QuotaParishModel", "patronTold", "(II)I"⟩, 47) := ⟨⟨by decide +kernel, by decide +kernel⟩, List.mem_of_getElem? (i := 1153) (by decide +kernel), List.mem_of_getElem? (i := 1378) (by decide +kernel), List.mem_of_getElem? (i := 1379) (by decide +kernel)⟩
theorem lw_p44 : lw_okq (⟨"QuotaParishModel", "endsLine", "()V"⟩, 47) := ⟨⟨by decide +kernel, by decide +kernel⟩, List.mem_of_getElem? (i := 1153) (by decide +kernel), List.mem_of_getElem? (i := 1382) (by decide +kernel), List.mem_of_getElem? (i := 1383) (by decide +kernel)⟩
theorem lw_p45 : lw_okq (⟨"QuotaParishModel", "yearsLine", "()V"⟩, 47) := ⟨⟨by decide +kernel, by decide +kernel⟩, List.mem_of_getElem? (i := 1153) (by decide +kernel), List.mem_of_getElem? (i := 1386) (by decide +kernel), List.mem_of_getElem? (i := 1387) (by decide +kernel)⟩
theorem lw_p46 : lw_okq (⟨"QuotaParishModel", "logLine", "()V"⟩, 47) := ⟨⟨by decide +kernel, by decide +kernel⟩, List.mem_of_getElem? (i := 1153) (by decide +kernel), List.mem_of_getElem? (i := 1393) (by decide +kernel), List.mem_of_getElem? (i := 1394) (by decide +kernel)⟩
theorem lw_p47 : lw_okq (⟨"QuotaParishModel", "isParish", "(I)Z"⟩, 47) := ⟨⟨by decide +kernel, by decide +kernel⟩, List.mem_of_getElem? (i := 1153) (by decide +kernel), List.mem_of_getElem? (i := 1411) (by decide +kernel), List.mem_of_getElem? (i := 1412) (by decide +kernel)⟩
def lw_privs_3 : List (MethodName × Nat) := [(⟨"QuotaParishModel", "isOf", "(II)Z"⟩, 47), (⟨"QuotaParishModel", "advance", "()V"⟩, 47), (⟨"QuotaParishModel", "byteAt", "(I)I"⟩, 47), (⟨"QuotaParishModel", "parishLine", "()V"⟩, 47), (⟨"QuotaParishModel", "wordIn", "(II)I"⟩, 47), (⟨"QuotaParishModel", "ends", "()V"⟩, 47), (⟨"QuotaParishModel", "houseTold", "()I"⟩, 47), (⟨"QuotaParishModel", "numbered", "(II)I"⟩, 47), (⟨"QuotaParishModel", "also", "(II)V"⟩, 47), (⟨"QuotaParishModel", "houseLine", "(I)V"⟩, 47), (⟨"QuotaParishModel", "ruleTold", "(IZ)V"⟩, 47), (⟨"QuotaParishModel", "patronTold", "(II)I"⟩, 47), (⟨"QuotaParishModel", "endsLine", "()V"⟩, 47), (⟨"QuotaParishModel", "yearsLine", "()V"⟩, 47), (⟨"QuotaParishModel", "logLine", "()V"⟩, 47), (⟨"QuotaParishModel", "isParish", "(I)Z"⟩, 47)]
theorem lw_r3 : ∀ q ∈ lw_privs_3, lw_okq q := List.forall_mem_cons.mpr ⟨lw_p32, List.forall_mem_cons.mpr ⟨lw_p33, List.forall_mem_cons.mpr ⟨lw_p34, List.forall_mem_cons.mpr ⟨lw_p35, List.forall_mem_cons.mpr ⟨lw_p36, List.forall_mem_cons.mpr ⟨lw_p37, List.forall_mem_cons.mpr ⟨lw_p38, List.forall_mem_cons.mpr ⟨lw_p39, List.forall_mem_cons.mpr ⟨lw_p40, List.forall_mem_cons.mpr ⟨lw_p41, List.forall_mem_cons.mpr ⟨lw_p42, List.forall_mem_cons.mpr ⟨lw_p43, List.forall_mem_cons.mpr ⟨lw_p44, List.forall_mem_cons.mpr ⟨lw_p45, List.forall_mem_cons.mpr ⟨lw_p46, List.forall_mem_cons.mpr ⟨lw_p47, fun _ h => absurd h List.not_mem_nil⟩⟩⟩⟩⟩⟩⟩⟩⟩⟩⟩⟩⟩⟩⟩⟩
theorem lw_p48 : lw_okq (⟨"QuotaParishModel", "begins", "()V"⟩, 47) := ⟨⟨by decide +kernel, by decide +kernel⟩, List.mem_of_getElem? (i := 1153) (by decide +kernel), List.mem_of_getElem? (i := 1415) (by decide +kernel), List.mem_of_getElem? (i := 1416) (by decide +kernel)⟩
theorem lw_p49 : lw_okq (⟨"QuotaParishModel", "goodsTold", "(I)I"⟩, 47) := ⟨⟨by decide +kernel, by decide +kernel⟩, List.mem_of_getElem? (i := 1153) (by decide +kernel), List.mem_of_getElem? (i := 1419) (by decide +kernel), List.mem_of_getElem? (i := 1420) (by decide +kernel)⟩
theorem lw_p50 : lw_okq (⟨"QuotaParishModel", "shares", "()V"⟩, 47) := ⟨⟨by decide +kernel, by decide +kernel⟩, List.mem_of_getElem? (i := 1153) (by decide +kernel), List.mem_of_getElem? (i := 1423) (by decide +kernel), List.mem_of_getElem? (i := 1424) (by decide +kernel)⟩
theorem lw_p51 : lw_okq (⟨"QuotaParishModel", "exemptBy", "(I)I"⟩, 47) := ⟨⟨by decide +kernel, by decide +kernel⟩, List.mem_of_getElem? (i := 1153) (by decide +kernel), List.mem_of_getElem? (i := 1427) (by decide +kernel), List.mem_of_getElem? (i := 1428) (by decide +kernel)⟩
theorem lw_p52 : lw_okq (⟨"QuotaParishModel", "ruleHolds", "(II)Z"⟩, 47) := ⟨⟨by decide +kernel, by decide +kernel⟩, List.mem_of_getElem? (i := 1153) (by decide +kernel), List.mem_of_getElem? (i := 1431) (by decide +kernel), List.mem_of_getElem? (i := 1432) (by decide +kernel)⟩
theorem lw_p53 : lw_okq (⟨"QuotaParishModel", "ruleAt", "(II)I"⟩, 47) := ⟨⟨by decide +kernel, by decide +kernel⟩, List.mem_of_getElem? (i := 1153) (by decide +kernel), List.mem_of_getElem? (i := 1435) (by decide +kernel), List.mem_of_getElem? (i := 1436) (by decide +kernel)⟩
theorem lw_p54 : lw_okq (⟨"QuotaParishModel", "isExempt", "(I)Z"⟩, 47) := ⟨⟨by decide +kernel, by decide +kernel⟩, List.mem_of_getElem? (i := 1153) (by decide +kernel), List.mem_of_getElem? (i := 1439) (by decide +kernel), List.mem_of_getElem? (i := 1440) (by decide +kernel)⟩
theorem lw_p55 : lw_okq (⟨"QuotaParishModel", "taxTogether", "()I"⟩, 47) := ⟨⟨by decide +kernel, by decide +kernel⟩, List.mem_of_getElem? (i := 1153) (by decide +kernel), List.mem_of_getElem? (i := 1443) (by decide +kernel), List.mem_of_getElem? (i := 1444) (by decide +kernel)⟩
theorem lw_p56 : lw_okq (⟨"QuotaParishModel", "isHouse", "(I)Z"⟩, 47) := ⟨⟨by decide +kernel, by decide +kernel⟩, List.mem_of_getElem? (i := 1153) (by decide +kernel), List.mem_of_getElem? (i := 1447) (by decide +kernel), List.mem_of_getElem? (i := 1448) (by decide +kernel)⟩
theorem lw_p57 : lw_okq (⟨"QuotaParishModel", "yieldOf", "(I)I"⟩, 47) := ⟨⟨by decide +kernel, by decide +kernel⟩, List.mem_of_getElem? (i := 1153) (by decide +kernel), List.mem_of_getElem? (i := 1451) (by decide +kernel), List.mem_of_getElem? (i := 1452) (by decide +kernel)⟩
theorem lw_p58 : lw_okq (⟨"QuotaParishModel", "rushes", "(I)V"⟩, 47) := ⟨⟨by decide +kernel, by decide +kernel⟩, List.mem_of_getElem? (i := 1153) (by decide +kernel), List.mem_of_getElem? (i := 1459) (by decide +kernel), List.mem_of_getElem? (i := 1460) (by decide +kernel)⟩
theorem lw_p59 : lw_okq (⟨"QuotaParishModel", "canBuy", "(I)Z"⟩, 47) := ⟨⟨by decide +kernel, by decide +kernel⟩, List.mem_of_getElem? (i := 1153) (by decide +kernel), List.mem_of_getElem? (i := 1463) (by decide +kernel), List.mem_of_getElem? (i := 1464) (by decide +kernel)⟩
theorem lw_p60 : lw_okq (⟨"QuotaParishModel", "buysNow", "(I)V"⟩, 47) := ⟨⟨by decide +kernel, by decide +kernel⟩, List.mem_of_getElem? (i := 1153) (by decide +kernel), List.mem_of_getElem? (i := 1467) (by decide +kernel), List.mem_of_getElem? (i := 1468) (by decide +kernel)⟩
theorem lw_p61 : lw_okq (⟨"QuotaParishModel", "everyHouse", "()I"⟩, 47) := ⟨⟨by decide +kernel, by decide +kernel⟩, List.mem_of_getElem? (i := 1153) (by decide +kernel), List.mem_of_getElem? (i := 1475) (by decide +kernel), List.mem_of_getElem? (i := 1476) (by decide +kernel)⟩
theorem lw_p62 : lw_okq (⟨"QuotaParishModel", "cutsOf", "(I)I"⟩, 47) := ⟨⟨by decide +kernel, by decide +kernel⟩, List.mem_of_getElem? (i := 1153) (by decide +kernel), List.mem_of_getElem? (i := 1486) (by decide +kernel), List.mem_of_getElem? (i := 1487) (by decide +kernel)⟩
theorem lw_p63 : lw_okq (⟨"QuotaParishModel", "goesYear", "()V"⟩, 47) := ⟨⟨by decide +kernel, by decide +kernel⟩, List.mem_of_getElem? (i := 1153) (by decide +kernel), List.mem_of_getElem? (i := 1494) (by decide +kernel), List.mem_of_getElem? (i := 1495) (by decide +kernel)⟩
def lw_privs_4 : List (MethodName × Nat) := [(⟨"QuotaParishModel", "begins", "()V"⟩, 47), (⟨"QuotaParishModel", "goodsTold", "(I)I"⟩, 47), (⟨"QuotaParishModel", "shares", "()V"⟩, 47), (⟨"QuotaParishModel", "exemptBy", "(I)I"⟩, 47), (⟨"QuotaParishModel", "ruleHolds", "(II)Z"⟩, 47), (⟨"QuotaParishModel", "ruleAt", "(II)I"⟩, 47), (⟨"QuotaParishModel", "isExempt", "(I)Z"⟩, 47), (⟨"QuotaParishModel", "taxTogether", "()I"⟩, 47), (⟨"QuotaParishModel", "isHouse", "(I)Z"⟩, 47), (⟨"QuotaParishModel", "yieldOf", "(I)I"⟩, 47), (⟨"QuotaParishModel", "rushes", "(I)V"⟩, 47), (⟨"QuotaParishModel", "canBuy", "(I)Z"⟩, 47), (⟨"QuotaParishModel", "buysNow", "(I)V"⟩, 47), (⟨"QuotaParishModel", "everyHouse", "()I"⟩, 47), (⟨"QuotaParishModel", "cutsOf", "(I)I"⟩, 47), (⟨"QuotaParishModel", "goesYear", "()V"⟩, 47)]
theorem lw_r4 : ∀ q ∈ lw_privs_4, lw_okq q := List.forall_mem_cons.mpr ⟨lw_p48, List.forall_mem_cons.mpr ⟨lw_p49, List.forall_mem_cons.mpr ⟨lw_p50, List.forall_mem_cons.mpr ⟨lw_p51, List.forall_mem_cons.mpr ⟨lw_p52, List.forall_mem_cons.mpr ⟨lw_p53, List.forall_mem_cons.mpr ⟨lw_p54, List.forall_mem_cons.mpr ⟨lw_p55, List.forall_mem_cons.mpr ⟨lw_p56, List.forall_mem_cons.mpr ⟨lw_p57, List.forall_mem_cons.mpr ⟨lw_p58, List.forall_mem_cons.mpr ⟨lw_p59, List.forall_mem_cons.mpr ⟨lw_p60, List.forall_mem_cons.mpr ⟨lw_p61, List.forall_mem_cons.mpr ⟨lw_p62, List.forall_mem_cons.mpr ⟨lw_p63, fun _ h => absurd h List.not_mem_nil⟩⟩⟩⟩⟩⟩⟩⟩⟩⟩⟩⟩⟩⟩⟩⟩
theorem lw_p64 : lw_okq (⟨"QuotaParishModel", "taxBy", "(II)I"⟩, 47) := ⟨⟨by decide +kernel, by decide +kernel⟩, List.mem_of_getElem? (i := 1153) (by decide +kernel), List.mem_of_getElem? (i := 1516) (by decide +kernel), List.mem_of_getElem? (i := 1517) (by decide +kernel)⟩
theorem lw_p65 : lw_okq (⟨"QuotaParishModel", "strifeBy", "(IIII)I"⟩, 47) := ⟨⟨by decide +kernel, by decide +kernel⟩, List.mem_of_getElem? (i := 1153) (by decide +kernel), List.mem_of_getElem? (i := 1524) (by decide +kernel), List.mem_of_getElem? (i := 1525) (by decide +kernel)⟩
theorem lw_p66 : lw_okq (⟨"QuotaParishModel", "chiefOf", "()I"⟩, 47) := ⟨⟨by decide +kernel, by decide +kernel⟩, List.mem_of_getElem? (i := 1153) (by decide +kernel), List.mem_of_getElem? (i := 1545) (by decide +kernel), List.mem_of_getElem? (i := 1546) (by decide +kernel)⟩
theorem lw_p67 : lw_okq (⟨"QuotaParishModel", "keysOf", "()I"⟩, 47) := ⟨⟨by decide +kernel, by decide +kernel⟩, List.mem_of_getElem? (i := 1153) (by decide +kernel), List.mem_of_getElem? (i := 1549) (by decide +kernel), List.mem_of_getElem? (i := 1550) (by decide +kernel)⟩
theorem lw_p68 : lw_okq (⟨"QuotaParishModel", "idleOf", "()I"⟩, 47) := ⟨⟨by decide +kernel, by decide +kernel⟩, List.mem_of_getElem? (i := 1153) (by decide +kernel), List.mem_of_getElem? (i := 1553) (by decide +kernel), List.mem_of_getElem? (i := 1554) (by decide +kernel)⟩
theorem lw_p69 : lw_okq (⟨"QuotaParishModel", "isIdle", "(I)Z"⟩, 47) := ⟨⟨by decide +kernel, by decide +kernel⟩, List.mem_of_getElem? (i := 1153) (by decide +kernel), List.mem_of_getElem? (i := 1557) (by decide +kernel), List.mem_of_getElem? (i := 1558) (by decide +kernel)⟩
theorem lw_p70 : lw_okq (⟨"QuotaParishModel", "housesBy", "(Z)I"⟩, 47) := ⟨⟨by decide +kernel, by decide +kernel⟩, List.mem_of_getElem? (i := 1153) (by decide +kernel), List.mem_of_getElem? (i := 1561) (by decide +kernel), List.mem_of_getElem? (i := 1562) (by decide +kernel)⟩
theorem lw_p71 : lw_okq (⟨"QuotaParishModel", "comesTo", "(I)I"⟩, 47) := ⟨⟨by decide +kernel, by decide +kernel⟩, List.mem_of_getElem? (i := 1153) (by decide +kernel), List.mem_of_getElem? (i := 1565) (by decide +kernel), List.mem_of_getElem? (i := 1566) (by decide +kernel)⟩
theorem lw_p72 : lw_okq (⟨"QuotaParishModel", "laysRanks", "()V"⟩, 47) := ⟨⟨by decide +kernel, by decide +kernel⟩, List.mem_of_getElem? (i := 1153) (by decide +kernel), List.mem_of_getElem? (i := 1569) (by decide +kernel), List.mem_of_getElem? (i := 1570) (by decide +kernel)⟩
theorem lw_p73 : lw_okq (⟨"QuotaParishModel", "rankBy", "(I)I"⟩, 47) := ⟨⟨by decide +kernel, by decide +kernel⟩, List.mem_of_getElem? (i := 1153) (by decide +kernel), List.mem_of_getElem? (i := 1573) (by decide +kernel), List.mem_of_getElem? (i := 1574) (by decide +kernel)⟩
theorem lw_p74 : lw_okq (⟨"QuotaParishModel", "harmOf", "(II)I"⟩, 47) := ⟨⟨by decide +kernel, by decide +kernel⟩, List.mem_of_getElem? (i := 1153) (by decide +kernel), List.mem_of_getElem? (i := 1585) (by decide +kernel), List.mem_of_getElem? (i := 1586) (by decide +kernel)⟩
theorem lw_p75 : lw_okq (⟨"QuotaParishModel", "buyersBy", "(II)I"⟩, 47) := ⟨⟨by decide +kernel, by decide +kernel⟩, List.mem_of_getElem? (i := 1153) (by decide +kernel), List.mem_of_getElem? (i := 1597) (by decide +kernel), List.mem_of_getElem? (i := 1598) (by decide +kernel)⟩
theorem lw_p76 : lw_okq (⟨"QuotaParishModel", "isRuinedBy", "(II)Z"⟩, 47) := ⟨⟨by decide +kernel, by decide +kernel⟩, List.mem_of_getElem? (i := 1153) (by decide +kernel), List.mem_of_getElem? (i := 1605) (by decide +kernel), List.mem_of_getElem? (i := 1606) (by decide +kernel)⟩
theorem lw_p77 : lw_okq (⟨"QuotaParishModel", "goodsTogether", "()I"⟩, 47) := ⟨⟨by decide +kernel, by decide +kernel⟩, List.mem_of_getElem? (i := 1153) (by decide +kernel), List.mem_of_getElem? (i := 1613) (by decide +kernel), List.mem_of_getElem? (i := 1614) (by decide +kernel)⟩
theorem lw_p78 : lw_okq (⟨"QuotaParishModel", "richestOf", "()I"⟩, 47) := ⟨⟨by decide +kernel, by decide +kernel⟩, List.mem_of_getElem? (i := 1153) (by decide +kernel), List.mem_of_getElem? (i := 1617) (by decide +kernel), List.mem_of_getElem? (i := 1618) (by decide +kernel)⟩
theorem lw_p79 : lw_okq (⟨"QuotaParishModel", "poorestOf", "()I"⟩, 47) := ⟨⟨by decide +kernel, by decide +kernel⟩, List.mem_of_getElem? (i := 1153) (by decide +kernel), List.mem_of_getElem? (i := 1621) (by decide +kernel), List.mem_of_getElem? (i := 1622) (by decide +kernel)⟩
def lw_privs_5 : List (MethodName × Nat) := [(⟨"QuotaParishModel", "taxBy", "(II)I"⟩, 47), (⟨"QuotaParishModel", "strifeBy", "(IIII)I"⟩, 47), (⟨"QuotaParishModel", "chiefOf", "()I"⟩, 47), (⟨"QuotaParishModel", "keysOf", "()I"⟩, 47), (⟨"QuotaParishModel", "idleOf", "()I"⟩, 47), (⟨"QuotaParishModel", "isIdle", "(I)Z"⟩, 47), (⟨"QuotaParishModel", "housesBy", "(Z)I"⟩, 47), (⟨"QuotaParishModel", "comesTo", "(I)I"⟩, 47), (⟨"QuotaParishModel", "laysRanks", "()V"⟩, 47), (⟨"QuotaParishModel", "rankBy", "(I)I"⟩, 47), (⟨"QuotaParishModel", "harmOf", "(II)I"⟩, 47), (⟨"QuotaParishModel", "buyersBy", "(II)I"⟩, 47), (⟨"QuotaParishModel", "isRuinedBy", "(II)Z"⟩, 47), (⟨"QuotaParishModel", "goodsTogether", "()I"⟩, 47), (⟨"QuotaParishModel", "richestOf", "()I"⟩, 47), (⟨"QuotaParishModel", "poorestOf", "()I"⟩, 47)]
theorem lw_r5 : ∀ q ∈ lw_privs_5, lw_okq q := List.forall_mem_cons.mpr ⟨lw_p64, List.forall_mem_cons.mpr ⟨lw_p65, List.forall_mem_cons.mpr ⟨lw_p66, List.forall_mem_cons.mpr ⟨lw_p67, List.forall_mem_cons.mpr ⟨lw_p68, List.forall_mem_cons.mpr ⟨lw_p69, List.forall_mem_cons.mpr ⟨lw_p70, List.forall_mem_cons.mpr ⟨lw_p71, List.forall_mem_cons.mpr ⟨lw_p72, List.forall_mem_cons.mpr ⟨lw_p73, List.forall_mem_cons.mpr ⟨lw_p74, List.forall_mem_cons.mpr ⟨lw_p75, List.forall_mem_cons.mpr ⟨lw_p76, List.forall_mem_cons.mpr ⟨lw_p77, List.forall_mem_cons.mpr ⟨lw_p78, List.forall_mem_cons.mpr ⟨lw_p79, fun _ h => absurd h List.not_mem_nil⟩⟩⟩⟩⟩⟩⟩⟩⟩⟩⟩⟩⟩⟩⟩⟩
theorem lw_p80 : lw_okq (⟨"QuotaParishModel", "passedOf", "()I"⟩, 47) := ⟨⟨by decide +kernel, by decide +kernel⟩, List.mem_of_getElem? (i := 1153) (by decide +kernel), List.mem_of_getElem? (i := 1629) (by decide +kernel), List.mem_of_getElem? (i := 1630) (by decide +kernel)⟩
theorem lw_p81 : lw_okq (⟨"QuotaParishModel", "levelOf", "()I"⟩, 47) := ⟨⟨by decide +kernel, by decide +kernel⟩, List.mem_of_getElem? (i := 1153) (by decide +kernel), List.mem_of_getElem? (i := 1633) (by decide +kernel), List.mem_of_getElem? (i := 1634) (by decide +kernel)⟩
theorem lw_p82 : lw_okq (⟨"QuotaParishModel", "spreadOf", "()I"⟩, 47) := ⟨⟨by decide +kernel, by decide +kernel⟩, List.mem_of_getElem? (i := 1153) (by decide +kernel), List.mem_of_getElem? (i := 1637) (by decide +kernel), List.mem_of_getElem? (i := 1638) (by decide +kernel)⟩
theorem lw_p83 : lw_okq (⟨"QuotaParishModel", "unevenOf", "()I"⟩, 47) := ⟨⟨by decide +kernel, by decide +kernel⟩, List.mem_of_getElem? (i := 1153) (by decide +kernel), List.mem_of_getElem? (i := 1641) (by decide +kernel), List.mem_of_getElem? (i := 1642) (by decide +kernel)⟩
theorem lw_p84 : lw_okq (⟨"QuotaParishModel", "isYears", "(I)Z"⟩, 47) := ⟨⟨by decide +kernel, by decide +kernel⟩, List.mem_of_getElem? (i := 1153) (by decide +kernel), List.mem_of_getElem? (i := 1649) (by decide +kernel), List.mem_of_getElem? (i := 1650) (by decide +kernel)⟩
theorem lw_p85 : lw_okq (⟨"QuotaParishModel", "runs", "(I)V"⟩, 47) := ⟨⟨by decide +kernel, by decide +kernel⟩, List.mem_of_getElem? (i := 1153) (by decide +kernel), List.mem_of_getElem? (i := 1657) (by decide +kernel), List.mem_of_getElem? (i := 1658) (by decide +kernel)⟩
theorem lw_p86 : lw_okq (⟨"QuotaParishModel", "beginsYears", "()V"⟩, 47) := ⟨⟨by decide +kernel, by decide +kernel⟩, List.mem_of_getElem? (i := 1153) (by decide +kernel), List.mem_of_getElem? (i := 1661) (by decide +kernel), List.mem_of_getElem? (i := 1662) (by decide +kernel)⟩
theorem lw_p87 : lw_okq (⟨"QuotaParishModel", "doesOne", "(II)Z"⟩, 47) := ⟨⟨by decide +kernel, by decide +kernel⟩, List.mem_of_getElem? (i := 1153) (by decide +kernel), List.mem_of_getElem? (i := 1665) (by decide +kernel), List.mem_of_getElem? (i := 1666) (by decide +kernel)⟩
theorem lw_p88 : lw_okq (⟨"QuotaParishModel", "does", "(II)Z"⟩, 47) := ⟨⟨by decide +kernel, by decide +kernel⟩, List.mem_of_getElem? (i := 1153) (by decide +kernel), List.mem_of_getElem? (i := 1669) (by decide +kernel), List.mem_of_getElem? (i := 1670) (by decide +kernel)⟩
theorem lw_p89 : lw_okq (⟨"QuotaParishModel", "goesOn", "()Z"⟩, 47) := ⟨⟨by decide +kernel, by decide +kernel⟩, List.mem_of_getElem? (i := 1153) (by decide +kernel), List.mem_of_getElem? (i := 1673) (by decide +kernel), List.mem_of_getElem? (i := 1674) (by decide +kernel)⟩
theorem lw_p90 : lw_okq (⟨"QuotaParishModel", "buys", "(I)Z"⟩, 47) := ⟨⟨by decide +kernel, by decide +kernel⟩, List.mem_of_getElem? (i := 1153) (by decide +kernel), List.mem_of_getElem? (i := 1677) (by decide +kernel), List.mem_of_getElem? (i := 1678) (by decide +kernel)⟩
theorem lw_p91 : lw_okq (⟨"QuotaParishModel", "loses", "(I)Z"⟩, 47) := ⟨⟨by decide +kernel, by decide +kernel⟩, List.mem_of_getElem? (i := 1153) (by decide +kernel), List.mem_of_getElem? (i := 1681) (by decide +kernel), List.mem_of_getElem? (i := 1682) (by decide +kernel)⟩
theorem lw_p92 : lw_okq (⟨"QuotaParishModel", "sets", "(ZI)Z"⟩, 47) := ⟨⟨by decide +kernel, by decide +kernel⟩, List.mem_of_getElem? (i := 1153) (by decide +kernel), List.mem_of_getElem? (i := 1685) (by decide +kernel), List.mem_of_getElem? (i := 1686) (by decide +kernel)⟩
theorem lw_p93 : lw_okq (⟨"QuotaParishModel", "cutsRule", "(I)Z"⟩, 47) := ⟨⟨by decide +kernel, by decide +kernel⟩, List.mem_of_getElem? (i := 1153) (by decide +kernel), List.mem_of_getElem? (i := 1689) (by decide +kernel), List.mem_of_getElem? (i := 1690) (by decide +kernel)⟩
theorem lw_p94 : lw_okq (⟨"QuotaParishModel", "nowOf", "(I)I"⟩, 47) := ⟨⟨by decide +kernel, by decide +kernel⟩, List.mem_of_getElem? (i := 1153) (by decide +kernel), List.mem_of_getElem? (i := 1697) (by decide +kernel), List.mem_of_getElem? (i := 1698) (by decide +kernel)⟩
theorem lw_p95 : lw_okq (⟨"QuotaParishModel", "buyerOf", "()I"⟩, 47) := ⟨⟨by decide +kernel, by decide +kernel⟩, List.mem_of_getElem? (i := 1153) (by decide +kernel), List.mem_of_getElem? (i := 1705) (by decide +kernel), List.mem_of_getElem? (i := 1706) (by decide +kernel)⟩
def lw_privs_6 : List (MethodName × Nat) := [(⟨"QuotaParishModel", "passedOf", "()I"⟩, 47), (⟨"QuotaParishModel", "levelOf", "()I"⟩, 47), (⟨"QuotaParishModel", "spreadOf", "()I"⟩, 47), (⟨"QuotaParishModel", "unevenOf", "()I"⟩, 47), (⟨"QuotaParishModel", "isYears", "(I)Z"⟩, 47), (⟨"QuotaParishModel", "runs", "(I)V"⟩, 47), (⟨"QuotaParishModel", "beginsYears", "()V"⟩, 47), (⟨"QuotaParishModel", "doesOne", "(II)Z"⟩, 47), (⟨"QuotaParishModel", "does", "(II)Z"⟩, 47), (⟨"QuotaParishModel", "goesOn", "()Z"⟩, 47), (⟨"QuotaParishModel", "buys", "(I)Z"⟩, 47), (⟨"QuotaParishModel", "loses", "(I)Z"⟩, 47), (⟨"QuotaParishModel", "sets", "(ZI)Z"⟩, 47), (⟨"QuotaParishModel", "cutsRule", "(I)Z"⟩, 47), (⟨"QuotaParishModel", "nowOf", "(I)I"⟩, 47), (⟨"QuotaParishModel", "buyerOf", "()I"⟩, 47)]
theorem lw_r6 : ∀ q ∈ lw_privs_6, lw_okq q := List.forall_mem_cons.mpr ⟨lw_p80, List.forall_mem_cons.mpr ⟨lw_p81, List.forall_mem_cons.mpr ⟨lw_p82, List.forall_mem_cons.mpr ⟨lw_p83, List.forall_mem_cons.mpr ⟨lw_p84, List.forall_mem_cons.mpr ⟨lw_p85, List.forall_mem_cons.mpr ⟨lw_p86, List.forall_mem_cons.mpr ⟨lw_p87, List.forall_mem_cons.mpr ⟨lw_p88, List.forall_mem_cons.mpr ⟨lw_p89, List.forall_mem_cons.mpr ⟨lw_p90, List.forall_mem_cons.mpr ⟨lw_p91, List.forall_mem_cons.mpr ⟨lw_p92, List.forall_mem_cons.mpr ⟨lw_p93, List.forall_mem_cons.mpr ⟨lw_p94, List.forall_mem_cons.mpr ⟨lw_p95, fun _ h => absurd h List.not_mem_nil⟩⟩⟩⟩⟩⟩⟩⟩⟩⟩⟩⟩⟩⟩⟩⟩
theorem lw_p96 : lw_okq (⟨"QuotaParishModel", "isLog", "(I)Z"⟩, 47) := ⟨⟨by decide +kernel, by decide +kernel⟩, List.mem_of_getElem? (i := 1153) (by decide +kernel), List.mem_of_getElem? (i := 1713) (by decide +kernel), List.mem_of_getElem? (i := 1714) (by decide +kernel)⟩
theorem lw_p97 : lw_okq (⟨"QuotaParishModel", "laysFits", "()V"⟩, 47) := ⟨⟨by decide +kernel, by decide +kernel⟩, List.mem_of_getElem? (i := 1153) (by decide +kernel), List.mem_of_getElem? (i := 1721) (by decide +kernel), List.mem_of_getElem? (i := 1722) (by decide +kernel)⟩
theorem lw_p98 : lw_okq (⟨"QuotaParishModel", "isSo", "(I)Z"⟩, 47) := ⟨⟨by decide +kernel, by decide +kernel⟩, List.mem_of_getElem? (i := 1153) (by decide +kernel), List.mem_of_getElem? (i := 1725) (by decide +kernel), List.mem_of_getElem? (i := 1726) (by decide +kernel)⟩
theorem lw_p99 : lw_okq (⟨"QuotaParishModel", "askOf", "()I"⟩, 47) := ⟨⟨by decide +kernel, by decide +kernel⟩, List.mem_of_getElem? (i := 1153) (by decide +kernel), List.mem_of_getElem? (i := 1729) (by decide +kernel), List.mem_of_getElem? (i := 1730) (by decide +kernel)⟩
theorem lw_p100 : lw_okq (⟨"QuotaParishModel", "likeTaxes", "(I)I"⟩, 47) := ⟨⟨by decide +kernel, by decide +kernel⟩, List.mem_of_getElem? (i := 1153) (by decide +kernel), List.mem_of_getElem? (i := 1733) (by decide +kernel), List.mem_of_getElem? (i := 1734) (by decide +kernel)⟩
theorem lw_p101 : lw_okq (⟨"QuotaParishModel", "sureOf", "(I)I"⟩, 47) := ⟨⟨by decide +kernel, by decide +kernel⟩, List.mem_of_getElem? (i := 1153) (by decide +kernel), List.mem_of_getElem? (i := 1737) (by decide +kernel), List.mem_of_getElem? (i := 1738) (by decide +kernel)⟩
theorem lw_p102 : lw_okq (⟨"QuotaParishModel", "fewOf", "(Z)I"⟩, 47) := ⟨⟨by decide +kernel, by decide +kernel⟩, List.mem_of_getElem? (i := 1153) (by decide +kernel), List.mem_of_getElem? (i := 1749) (by decide +kernel), List.mem_of_getElem? (i := 1750) (by decide +kernel)⟩
theorem lw_p103 : lw_okq (⟨"QuotaParishModel", "alikeOf", "()I"⟩, 47) := ⟨⟨by decide +kernel, by decide +kernel⟩, List.mem_of_getElem? (i := 1153) (by decide +kernel), List.mem_of_getElem? (i := 1753) (by decide +kernel), List.mem_of_getElem? (i := 1754) (by decide +kernel)⟩
theorem lw_p104 : lw_okq (⟨"QuotaParishModel", "draws", "()V"⟩, 47) := ⟨⟨by decide +kernel, by decide +kernel⟩, List.mem_of_getElem? (i := 1153) (by decide +kernel), List.mem_of_getElem? (i := 1761) (by decide +kernel), List.mem_of_getElem? (i := 1762) (by decide +kernel)⟩
theorem lw_p105 : lw_okq (⟨"QuotaParishModel", "below", "(I)I"⟩, 47) := ⟨⟨by decide +kernel, by decide +kernel⟩, List.mem_of_getElem? (i := 1153) (by decide +kernel), List.mem_of_getElem? (i := 1765) (by decide +kernel), List.mem_of_getElem? (i := 1766) (by decide +kernel)⟩
def lw_privs_7 : List (MethodName × Nat) := [(⟨"QuotaParishModel", "isLog", "(I)Z"⟩, 47), (⟨"QuotaParishModel", "laysFits", "()V"⟩, 47), (⟨"QuotaParishModel", "isSo", "(I)Z"⟩, 47), (⟨"QuotaParishModel", "askOf", "()I"⟩, 47), (⟨"QuotaParishModel", "likeTaxes", "(I)I"⟩, 47), (⟨"QuotaParishModel", "sureOf", "(I)I"⟩, 47), (⟨"QuotaParishModel", "fewOf", "(Z)I"⟩, 47), (⟨"QuotaParishModel", "alikeOf", "()I"⟩, 47), (⟨"QuotaParishModel", "draws", "()V"⟩, 47), (⟨"QuotaParishModel", "below", "(I)I"⟩, 47)]
theorem lw_r7 : ∀ q ∈ lw_privs_7, lw_okq q := List.forall_mem_cons.mpr ⟨lw_p96, List.forall_mem_cons.mpr ⟨lw_p97, List.forall_mem_cons.mpr ⟨lw_p98, List.forall_mem_cons.mpr ⟨lw_p99, List.forall_mem_cons.mpr ⟨lw_p100, List.forall_mem_cons.mpr ⟨lw_p101, List.forall_mem_cons.mpr ⟨lw_p102, List.forall_mem_cons.mpr ⟨lw_p103, List.forall_mem_cons.mpr ⟨lw_p104, List.forall_mem_cons.mpr ⟨lw_p105, fun _ h => absurd h List.not_mem_nil⟩⟩⟩⟩⟩⟩⟩⟩⟩⟩
def lw_privs : List (MethodName × Nat) := lw_privs_1 ++ (lw_privs_2 ++ (lw_privs_3 ++ (lw_privs_4 ++ (lw_privs_5 ++ (lw_privs_6 ++ (lw_privs_7))))))
def lw_tbl : List Cond := k2_sels lw_privs ++ tables_1
theorem lw_privs_ok : ∀ q ∈ lw_privs, lw_okq q := by
  show ∀ q ∈ lw_privs_1 ++ (lw_privs_2 ++ (lw_privs_3 ++ (lw_privs_4 ++ (lw_privs_5 ++ (lw_privs_6 ++ (lw_privs_7)))))), lw_okq q
  exact List.forall_mem_append.mpr ⟨lw_r1, List.forall_mem_append.mpr ⟨lw_r2, List.forall_mem_append.mpr ⟨lw_r3, List.forall_mem_append.mpr ⟨lw_r4, List.forall_mem_append.mpr ⟨lw_r5, List.forall_mem_append.mpr ⟨lw_r6, lw_r7⟩⟩⟩⟩⟩⟩
-- ===== end of PART A; then your names; then what follows =====
/-! ===== BEGIN words of one list among another's, by their places ===== -/
theorem goodIn_r {big : List Cond} (ws : List Cond) (ps : List Nat) (hp : ws = ps.filterMap (fun i => big[i]?)) (h : ws.all goodWord = true) : GoodIn big ws := by
  intro w hw
  have h1 := List.all_eq_true.mp h w hw
  rw [hp] at hw
  obtain ⟨i, -, hi⟩ := List.mem_filterMap.mp hw
  have hm : w ∈ big := by first | exact List.mem_of_getElem? hi | exact List.getElem?_mem hi
  exact ⟨hm, good_of_word h1⟩
theorem goodIn_app {big a b : List Cond} (ha : GoodIn big a) (hb : GoodIn big b) : GoodIn big (a ++ b) := fun w h => (List.mem_append.mp h).elim (ha w) (hb w)
theorem goodIn_ca {big a b : List Cond} {c : Cond} (ha : GoodIn big (c :: a)) (hb : GoodIn big b) : GoodIn big (c :: (a ++ b)) := fun w h => (List.mem_cons.mp h).elim (fun e => ha w (List.mem_cons.mpr (Or.inl e))) (fun h => (List.mem_append.mp h).elim (fun h => ha w (List.mem_cons.mpr (Or.inr h))) (hb w))
theorem goodIn_sub {big ws : List Cond} (hm : ∀ w ∈ ws, w ∈ big) (h : ws.all goodWord = true) : GoodIn big ws := fun w hw => ⟨hm w hw, good_of_word (List.all_eq_true.mp h w hw)⟩
/-! ===== END ===== -/

/-! ===== BEGIN printed: names, fields, word lists, decode rows ===== -/
def RX0 : String := "QuotaParish$Annals"
def TX0 : u_T := fun k => match k with
  | 0 => ("QuotaParish$Annals", "course", "LQuotaParish$Course;", true)
  | 1 => ("QuotaParish$Annals", "purchases", "[I", true)
  | 2 => ("QuotaParish$Annals", "sold", "I", false)
  | 3 => ("QuotaParish$Annals", "shortDeed", "I", false)
  | 4 => ("QuotaParish$Annals", "peak", "I", false)
  | 5 => ("QuotaParish$Annals", "leanYear", "I", false)
  | _ => ("QuotaParish$Annals", "leastPaid", "I", false)
def tyX0 : Nat → FieldType := fun k => match k with
  | 0 => .object "QuotaParish$Course"
  | 1 => .array .int
  | 2 => .int
  | 3 => .int
  | 4 => .int
  | 5 => .int
  | _ => .int
abbrev wsX00 : List Cond := u_ws RX0 TX0 7
theorem nmX0 : ∀ a, a < 7 → ∀ b, b < 7 → a ≠ b → (TX0 a).2.1 ≠ (TX0 b).2.1 := by decide +kernel
theorem tyX0_ok : ∀ k, k < 7 → parseFieldDescriptor (TX0 k).2.2.1 = some (tyX0 k) := by decide +kernel
abbrev cX0_init : ByteArray := prog_2_method_1_code
def yX0_init : MethodName := ⟨RX0, "<init>", "(LQuotaParish$Course;)V"⟩
abbrev cX0_run : ByteArray := prog_2_method_2_code
def yX0_run : MethodName := ⟨RX0, "run", "(LQuotaParish$Parish;LQuotaParish$Pairs;I)I"⟩
abbrev cX0_note : ByteArray := prog_2_method_3_code
def yX0_note : MethodName := ⟨RX0, "note", "(III)V"⟩
abbrev cX0_mostFrequentBuyer : ByteArray := prog_2_method_4_code
def yX0_mostFrequentBuyer : MethodName := ⟨RX0, "mostFrequentBuyer", "()I"⟩
def RX1 : String := "QuotaParish$Bonds"
def TX1 : u_T := fun k => match k with
  | _ => ("", "", "", false)
def tyX1 : Nat → FieldType := fun k => match k with
  | _ => .int
abbrev wsX10 : List Cond := u_ws RX1 TX1 0
theorem nmX1 : ∀ a, a < 0 → ∀ b, b < 0 → a ≠ b → (TX1 a).2.1 ≠ (TX1 b).2.1 := by decide +kernel
theorem tyX1_ok : ∀ k, k < 0 → parseFieldDescriptor (TX1 k).2.2.1 = some (tyX1 k) := by decide +kernel
abbrev cX1_fewestSeeds : ByteArray := prog_3_method_2_code
def yX1_fewestSeeds : MethodName := ⟨RX1, "fewestSeeds", "(LQuotaParish$Parish;)I"⟩
abbrev cX1_fewestCuts : ByteArray := prog_3_method_3_code
def yX1_fewestCuts : MethodName := ⟨RX1, "fewestCuts", "(LQuotaParish$Parish;I)I"⟩
abbrev cX1_exemptCases : ByteArray := prog_3_method_4_code
def yX1_exemptCases : MethodName := ⟨RX1, "exemptCases", "(LQuotaParish$Parish;II)I"⟩
abbrev cX1_setsOf : ByteArray := prog_3_method_5_code
def yX1_setsOf : MethodName := ⟨RX1, "setsOf", "(LQuotaParish$Parish;I)I"⟩
abbrev cX1_retinueSize : ByteArray := prog_3_method_6_code
def yX1_retinueSize : MethodName := ⟨RX1, "retinueSize", "(LQuotaParish$Parish;I)I"⟩
abbrev cX1_chiefOf : ByteArray := prog_3_method_7_code
def yX1_chiefOf : MethodName := ⟨RX1, "chiefOf", "(LQuotaParish$Parish;)I"⟩
abbrev cX1_keysOf : ByteArray := prog_3_method_8_code
def yX1_keysOf : MethodName := ⟨RX1, "keysOf", "(LQuotaParish$Parish;)I"⟩
abbrev cX1_idleOf : ByteArray := prog_3_method_9_code
def yX1_idleOf : MethodName := ⟨RX1, "idleOf", "(LQuotaParish$Parish;)I"⟩
abbrev cX1_ringedOf : ByteArray := prog_3_method_10_code
def yX1_ringedOf : MethodName := ⟨RX1, "ringedOf", "(LQuotaParish$Parish;)I"⟩
abbrev cX1_aboveByTies : ByteArray := prog_3_method_11_code
def yX1_aboveByTies : MethodName := ⟨RX1, "aboveByTies", "(LQuotaParish$Parish;I)I"⟩
abbrev cX1_loneOf : ByteArray := prog_3_method_12_code
def yX1_loneOf : MethodName := ⟨RX1, "loneOf", "(LQuotaParish$Parish;)I"⟩
abbrev cX1_rankOf : ByteArray := prog_3_method_13_code
def yX1_rankOf : MethodName := ⟨RX1, "rankOf", "(LQuotaParish$Parish;I)I"⟩
abbrev cX1_deepestOf : ByteArray := prog_3_method_14_code
def yX1_deepestOf : MethodName := ⟨RX1, "deepestOf", "(LQuotaParish$Parish;)I"⟩
def RX2 : String := "QuotaParish$Buying"
def TX2 : u_T := fun k => match k with
  | 0 => ("QuotaParish$Buying", "course", "LQuotaParish$Course;", true)
  | 1 => ("QuotaParish$Buying", "buyers", "[I", true)
  | 2 => ("QuotaParish$Buying", "bought", "I", false)
  | 3 => ("QuotaParish$Buying", "rounds", "I", false)
  | 4 => ("QuotaParish$Buying", "salePrice", "I", false)
  | 5 => ("QuotaParish$Buying", "saleSum", "I", false)
  | 6 => ("QuotaParish$Buying", "saleBuyers", "I", false)
  | _ => ("QuotaParish$Buying", "margins", "[I", true)
def tyX2 : Nat → FieldType := fun k => match k with
  | 0 => .object "QuotaParish$Course"
  | 1 => .array .int
  | 2 => .int
  | 3 => .int
  | 4 => .int
  | 5 => .int
  | 6 => .int
  | _ => .array .int
abbrev wsX20 : List Cond := u_ws RX2 TX2 8
theorem nmX2 : ∀ a, a < 8 → ∀ b, b < 8 → a ≠ b → (TX2 a).2.1 ≠ (TX2 b).2.1 := by decide +kernel
theorem tyX2_ok : ∀ k, k < 8 → parseFieldDescriptor (TX2 k).2.2.1 = some (tyX2 k) := by decide +kernel
abbrev cX2_init : ByteArray := prog_4_method_1_code
def yX2_init : MethodName := ⟨RX2, "<init>", "(LQuotaParish$Course;)V"⟩
abbrev cX2_rushOf : ByteArray := prog_4_method_2_code
def yX2_rushOf : MethodName := ⟨RX2, "rushOf", "(LQuotaParish$Parish;II)V"⟩
abbrev cX2_isDriven : ByteArray := prog_4_method_3_code
def yX2_isDriven : MethodName := ⟨RX2, "isDriven", "(II)Z"⟩
abbrev cX2_noteBuyer : ByteArray := prog_4_method_4_code
def yX2_noteBuyer : MethodName := ⟨RX2, "noteBuyer", "(I)V"⟩
abbrev cX2_buyer : ByteArray := prog_4_method_5_code
def yX2_buyer : MethodName := ⟨RX2, "buyer", "(I)I"⟩
abbrev cX2_findSale : ByteArray := prog_4_method_6_code
def yX2_findSale : MethodName := ⟨RX2, "findSale", "(LQuotaParish$Parish;I)V"⟩
abbrev cX2_margin : ByteArray := prog_4_method_7_code
def yX2_margin : MethodName := ⟨RX2, "margin", "(LQuotaParish$Parish;III)I"⟩
abbrev cX2_opening : ByteArray := prog_4_method_8_code
def yX2_opening : MethodName := ⟨RX2, "opening", "(LQuotaParish$Parish;III)I"⟩
abbrev cX2_fillMargins : ByteArray := prog_4_method_9_code
def yX2_fillMargins : MethodName := ⟨RX2, "fillMargins", "(LQuotaParish$Parish;II)V"⟩
abbrev cX2_goodsOf : ByteArray := prog_4_method_10_code
def yX2_goodsOf : MethodName := ⟨RX2, "goodsOf", "(I)I"⟩
abbrev cX2_takeTurn : ByteArray := prog_4_method_11_code
def yX2_takeTurn : MethodName := ⟨RX2, "takeTurn", "(LQuotaParish$Parish;III)V"⟩
def RX3 : String := "QuotaParish$Course"
def TX3 : u_T := fun k => match k with
  | 0 => ("QuotaParish$Course", "now", "LQuotaParish$Parish;", true)
  | 1 => ("QuotaParish$Course", "levy", "LQuotaParish$Levy;", true)
  | 2 => ("QuotaParish$Course", "year", "I", false)
  | 3 => ("QuotaParish$Course", "paid", "I", false)
  | 4 => ("QuotaParish$Course", "lost", "I", false)
  | 5 => ("QuotaParish$Course", "cut", "I", false)
  | 6 => ("QuotaParish$Course", "exempt", "I", false)
  | 7 => ("QuotaParish$Course", "paidLately", "I", false)
  | 8 => ("QuotaParish$Course", "ruined", "I", false)
  | _ => ("QuotaParish$Course", "changed", "Z", false)
def tyX3 : Nat → FieldType := fun k => match k with
  | 0 => .object "QuotaParish$Parish"
  | 1 => .object "QuotaParish$Levy"
  | 2 => .int
  | 3 => .int
  | 4 => .int
  | 5 => .int
  | 6 => .int
  | 7 => .int
  | 8 => .int
  | _ => .boolean
abbrev wsX30 : List Cond := u_ws RX3 TX3 10
theorem nmX3 : ∀ a, a < 10 → ∀ b, b < 10 → a ≠ b → (TX3 a).2.1 ≠ (TX3 b).2.1 := by decide +kernel
theorem tyX3_ok : ∀ k, k < 10 → parseFieldDescriptor (TX3 k).2.2.1 = some (tyX3 k) := by decide +kernel
abbrev cX3_init : ByteArray := prog_5_method_1_code
def yX3_init : MethodName := ⟨RX3, "<init>", "()V"⟩
abbrev cX3_begin : ByteArray := prog_5_method_2_code
def yX3_begin : MethodName := ⟨RX3, "begin", "(LQuotaParish$Parish;)V"⟩
abbrev cX3_assess : ByteArray := prog_5_method_3_code
def yX3_assess : MethodName := ⟨RX3, "assess", "()V"⟩
abbrev cX3_isExempt : ByteArray := prog_5_method_4_code
def yX3_isExempt : MethodName := ⟨RX3, "isExempt", "(I)Z"⟩
abbrev cX3_act : ByteArray := prog_5_method_5_code
def yX3_act : MethodName := ⟨RX3, "act", "(II)Z"⟩
abbrev cX3_collect : ByteArray := prog_5_method_6_code
def yX3_collect : MethodName := ⟨RX3, "collect", "()Z"⟩
abbrev cX3_canBuy : ByteArray := prog_5_method_7_code
def yX3_canBuy : MethodName := ⟨RX3, "canBuy", "(I)Z"⟩
abbrev cX3_buyOffice : ByteArray := prog_5_method_8_code
def yX3_buyOffice : MethodName := ⟨RX3, "buyOffice", "(I)Z"⟩
abbrev cX3_loseOffice : ByteArray := prog_5_method_9_code
def yX3_loseOffice : MethodName := ⟨RX3, "loseOffice", "(I)Z"⟩
abbrev cX3_changeQuota : ByteArray := prog_5_method_10_code
def yX3_changeQuota : MethodName := ⟨RX3, "changeQuota", "(I)Z"⟩
abbrev cX3_changePrice : ByteArray := prog_5_method_11_code
def yX3_changePrice : MethodName := ⟨RX3, "changePrice", "(I)Z"⟩
abbrev cX3_cutRule : ByteArray := prog_5_method_12_code
def yX3_cutRule : MethodName := ⟨RX3, "cutRule", "(I)Z"⟩
abbrev cX3_detail : ByteArray := prog_5_method_13_code
def yX3_detail : MethodName := ⟨RX3, "detail", "(I)I"⟩
def RX4 : String := "QuotaParish$Fitting"
def TX4 : u_T := fun k => match k with
  | 0 => ("QuotaParish$Fitting", "size", "I", false)
  | 1 => ("QuotaParish$Fitting", "houses", "I", false)
  | 2 => ("QuotaParish$Fitting", "sets", "[I", true)
  | 3 => ("QuotaParish$Fitting", "taxes", "[J", true)
  | 4 => ("QuotaParish$Fitting", "tally", "[I", true)
  | _ => ("QuotaParish$Fitting", "levy", "LQuotaParish$Levy;", true)
def tyX4 : Nat → FieldType := fun k => match k with
  | 0 => .int
  | 1 => .int
  | 2 => .array .int
  | 3 => .array .long
  | 4 => .array .int
  | _ => .object "QuotaParish$Levy"
abbrev wsX40 : List Cond := u_ws RX4 TX4 6
theorem nmX4 : ∀ a, a < 6 → ∀ b, b < 6 → a ≠ b → (TX4 a).2.1 ≠ (TX4 b).2.1 := by decide +kernel
theorem tyX4_ok : ∀ k, k < 6 → parseFieldDescriptor (TX4 k).2.2.1 = some (tyX4 k) := by decide +kernel
abbrev cX4_init : ByteArray := prog_6_method_1_code
def yX4_init : MethodName := ⟨RX4, "<init>", "()V"⟩
abbrev cX4_find : ByteArray := prog_6_method_2_code
def yX4_find : MethodName := ⟨RX4, "find", "(LQuotaParish$Parish;LQuotaParish$Pairs;)V"⟩
abbrev cX4_isAsLogged : ByteArray := prog_6_method_3_code
def yX4_isAsLogged : MethodName := ⟨RX4, "isAsLogged", "(LQuotaParish$Parish;LQuotaParish$Pairs;)Z"⟩
abbrev cX4_packedTaxes : ByteArray := prog_6_method_4_code
def yX4_packedTaxes : MethodName := ⟨RX4, "packedTaxes", "()J"⟩
abbrev cX4_fittingSet : ByteArray := prog_6_method_5_code
def yX4_fittingSet : MethodName := ⟨RX4, "fittingSet", "(I)I"⟩
abbrev cX4_holding : ByteArray := prog_6_method_6_code
def yX4_holding : MethodName := ⟨RX4, "holding", "(I)I"⟩
abbrev cX4_sureOf : ByteArray := prog_6_method_7_code
def yX4_sureOf : MethodName := ⟨RX4, "sureOf", "(I)I"⟩
abbrev cX4_bestQuestion : ByteArray := prog_6_method_8_code
def yX4_bestQuestion : MethodName := ⟨RX4, "bestQuestion", "()I"⟩
abbrev cX4_leftAtWorst : ByteArray := prog_6_method_9_code
def yX4_leftAtWorst : MethodName := ⟨RX4, "leftAtWorst", "(I)I"⟩
abbrev cX4_fewestHouses : ByteArray := prog_6_method_10_code
def yX4_fewestHouses : MethodName := ⟨RX4, "fewestHouses", "()I"⟩
abbrev cX4_mostHouses : ByteArray := prog_6_method_11_code
def yX4_mostHouses : MethodName := ⟨RX4, "mostHouses", "()I"⟩
abbrev cX4_alikeCouples : ByteArray := prog_6_method_12_code
def yX4_alikeCouples : MethodName := ⟨RX4, "alikeCouples", "()I"⟩
def RX5 : String := "QuotaParish$Levy"
def TX5 : u_T := fun k => match k with
  | 0 => ("QuotaParish$Levy", "lost", "I", false)
  | 1 => ("QuotaParish$Levy", "tax", "[I", true)
  | _ => ("QuotaParish$Levy", "cutOff", "[I", true)
def tyX5 : Nat → FieldType := fun k => match k with
  | 0 => .int
  | 1 => .array .int
  | _ => .array .int
abbrev wsX50 : List Cond := u_ws RX5 TX5 3
theorem nmX5 : ∀ a, a < 3 → ∀ b, b < 3 → a ≠ b → (TX5 a).2.1 ≠ (TX5 b).2.1 := by decide +kernel
theorem tyX5_ok : ∀ k, k < 3 → parseFieldDescriptor (TX5 k).2.2.1 = some (tyX5 k) := by decide +kernel
abbrev cX5_init : ByteArray := prog_7_method_1_code
def yX5_init : MethodName := ⟨RX5, "<init>", "()V"⟩
abbrev cX5_taxOf : ByteArray := prog_7_method_2_code
def yX5_taxOf : MethodName := ⟨RX5, "taxOf", "(I)I"⟩
abbrev cX5_share : ByteArray := prog_7_method_3_code
def yX5_share : MethodName := ⟨RX5, "share", "(LQuotaParish$Parish;II)V"⟩
abbrev cX5_giveOneMore : ByteArray := prog_7_method_4_code
def yX5_giveOneMore : MethodName := ⟨RX5, "giveOneMore", "()V"⟩
def RX6 : String := "QuotaParish$Outlook"
def TX6 : u_T := fun k => match k with
  | 0 => ("QuotaParish$Outlook", "course", "LQuotaParish$Course;", true)
  | _ => ("QuotaParish$Outlook", "drawState", "I", false)
def tyX6 : Nat → FieldType := fun k => match k with
  | 0 => .object "QuotaParish$Course"
  | _ => .int
abbrev wsX60 : List Cond := u_ws RX6 TX6 2
theorem nmX6 : ∀ a, a < 2 → ∀ b, b < 2 → a ≠ b → (TX6 a).2.1 ≠ (TX6 b).2.1 := by decide +kernel
theorem tyX6_ok : ∀ k, k < 2 → parseFieldDescriptor (TX6 k).2.2.1 = some (tyX6 k) := by decide +kernel
abbrev cX6_init : ByteArray := prog_8_method_1_code
def yX6_init : MethodName := ⟨RX6, "<init>", "(LQuotaParish$Course;)V"⟩
abbrev cX6_goYears : ByteArray := prog_8_method_2_code
def yX6_goYears : MethodName := ⟨RX6, "goYears", "(LQuotaParish$Parish;I)V"⟩
abbrev cX6_ruinYear : ByteArray := prog_8_method_3_code
def yX6_ruinYear : MethodName := ⟨RX6, "ruinYear", "(LQuotaParish$Parish;II)I"⟩
abbrev cX6_topQuota : ByteArray := prog_8_method_4_code
def yX6_topQuota : MethodName := ⟨RX6, "topQuota", "(LQuotaParish$Parish;I)I"⟩
abbrev cX6_passedYear : ByteArray := prog_8_method_5_code
def yX6_passedYear : MethodName := ⟨RX6, "passedYear", "(LQuotaParish$Parish;)I"⟩
abbrev cX6_levelYear : ByteArray := prog_8_method_6_code
def yX6_levelYear : MethodName := ⟨RX6, "levelYear", "(LQuotaParish$Parish;)I"⟩
abbrev cX6_spreadOf : ByteArray := prog_8_method_7_code
def yX6_spreadOf : MethodName := ⟨RX6, "spreadOf", "(LQuotaParish$Parish;)I"⟩
abbrev cX6_unevenOf : ByteArray := prog_8_method_8_code
def yX6_unevenOf : MethodName := ⟨RX6, "unevenOf", "(LQuotaParish$Parish;)I"⟩
abbrev cX6_mostBurdened : ByteArray := prog_8_method_9_code
def yX6_mostBurdened : MethodName := ⟨RX6, "mostBurdened", "(LQuotaParish$Parish;)I"⟩
abbrev cX6_fallOf : ByteArray := prog_8_method_10_code
def yX6_fallOf : MethodName := ⟨RX6, "fallOf", "(LQuotaParish$Parish;II)I"⟩
abbrev cX6_harmOf : ByteArray := prog_8_method_11_code
def yX6_harmOf : MethodName := ⟨RX6, "harmOf", "(LQuotaParish$Parish;II)I"⟩
abbrev cX6_strongest : ByteArray := prog_8_method_12_code
def yX6_strongest : MethodName := ⟨RX6, "strongest", "(LQuotaParish$Parish;IZ)I"⟩
abbrev cX6_beginDrawing : ByteArray := prog_8_method_13_code
def yX6_beginDrawing : MethodName := ⟨RX6, "beginDrawing", "(LQuotaParish$Parish;I)V"⟩
abbrev cX6_drawDeed : ByteArray := prog_8_method_14_code
def yX6_drawDeed : MethodName := ⟨RX6, "drawDeed", "()V"⟩
abbrev cX6_draw : ByteArray := prog_8_method_15_code
def yX6_draw : MethodName := ⟨RX6, "draw", "(I)I"⟩
def RX7 : String := "QuotaParish$Pairs"
def TX7 : u_T := fun k => match k with
  | 0 => ("QuotaParish$Pairs", "size", "I", false)
  | 1 => ("QuotaParish$Pairs", "firsts", "[I", true)
  | _ => ("QuotaParish$Pairs", "seconds", "[I", true)
def tyX7 : Nat → FieldType := fun k => match k with
  | 0 => .int
  | 1 => .array .int
  | _ => .array .int
abbrev wsX70 : List Cond := u_ws RX7 TX7 3
theorem nmX7 : ∀ a, a < 3 → ∀ b, b < 3 → a ≠ b → (TX7 a).2.1 ≠ (TX7 b).2.1 := by decide +kernel
theorem tyX7_ok : ∀ k, k < 3 → parseFieldDescriptor (TX7 k).2.2.1 = some (tyX7 k) := by decide +kernel
abbrev cX7_init : ByteArray := prog_9_method_1_code
def yX7_init : MethodName := ⟨RX7, "<init>", "()V"⟩
abbrev cX7_has : ByteArray := prog_9_method_2_code
def yX7_has : MethodName := ⟨RX7, "has", "(I)Z"⟩
abbrev cX7_add : ByteArray := prog_9_method_3_code
def yX7_add : MethodName := ⟨RX7, "add", "(II)V"⟩
abbrev cX7_detail : ByteArray := prog_9_method_4_code
def yX7_detail : MethodName := ⟨RX7, "detail", "(II)I"⟩
abbrev cX7_copyFrom : ByteArray := prog_9_method_5_code
def yX7_copyFrom : MethodName := ⟨RX7, "copyFrom", "(LQuotaParish$Pairs;)V"⟩
def RX8 : String := "QuotaParish$Parish"
def TX8 : u_T := fun k => match k with
  | 0 => ("QuotaParish$Parish", "quota", "I", false)
  | 1 => ("QuotaParish$Parish", "price", "I", false)
  | 2 => ("QuotaParish$Parish", "houses", "I", false)
  | 3 => ("QuotaParish$Parish", "offices", "I", false)
  | 4 => ("QuotaParish$Parish", "rules", "I", false)
  | 5 => ("QuotaParish$Parish", "goods", "[I", true)
  | 6 => ("QuotaParish$Parish", "yields", "[I", true)
  | 7 => ("QuotaParish$Parish", "ruleHouse", "[I", true)
  | 8 => ("QuotaParish$Parish", "rulePatron", "[I", true)
  | 9 => ("QuotaParish$Parish", "ruleSecond", "[I", true)
  | _ => ("QuotaParish$Parish", "ruleNeeds", "[I", true)
def tyX8 : Nat → FieldType := fun k => match k with
  | 0 => .int
  | 1 => .int
  | 2 => .int
  | 3 => .int
  | 4 => .int
  | 5 => .array .int
  | 6 => .array .int
  | 7 => .array .int
  | 8 => .array .int
  | 9 => .array .int
  | _ => .array .int
abbrev wsX80 : List Cond := u_ws RX8 TX8 11
theorem nmX8 : ∀ a, a < 11 → ∀ b, b < 11 → a ≠ b → (TX8 a).2.1 ≠ (TX8 b).2.1 := by decide +kernel
theorem tyX8_ok : ∀ k, k < 11 → parseFieldDescriptor (TX8 k).2.2.1 = some (tyX8 k) := by decide +kernel
abbrev cX8_init : ByteArray := prog_10_method_1_code
def yX8_init : MethodName := ⟨RX8, "<init>", "()V"⟩
abbrev cX8_clear : ByteArray := prog_10_method_2_code
def yX8_clear : MethodName := ⟨RX8, "clear", "()V"⟩
abbrev cX8_copyFrom : ByteArray := prog_10_method_3_code
def yX8_copyFrom : MethodName := ⟨RX8, "copyFrom", "(LQuotaParish$Parish;)V"⟩
abbrev cX8_addHouse : ByteArray := prog_10_method_4_code
def yX8_addHouse : MethodName := ⟨RX8, "addHouse", "(II)V"⟩
abbrev cX8_addRule : ByteArray := prog_10_method_5_code
def yX8_addRule : MethodName := ⟨RX8, "addRule", "(III)V"⟩
abbrev cX8_hasHouse : ByteArray := prog_10_method_6_code
def yX8_hasHouse : MethodName := ⟨RX8, "hasHouse", "(I)Z"⟩
abbrev cX8_hasRule : ByteArray := prog_10_method_7_code
def yX8_hasRule : MethodName := ⟨RX8, "hasRule", "(I)Z"⟩
abbrev cX8_everyHouse : ByteArray := prog_10_method_8_code
def yX8_everyHouse : MethodName := ⟨RX8, "everyHouse", "()I"⟩
abbrev cX8_ruleDetail : ByteArray := prog_10_method_9_code
def yX8_ruleDetail : MethodName := ⟨RX8, "ruleDetail", "(I)I"⟩
abbrev cX8_exemptBy : ByteArray := prog_10_method_10_code
def yX8_exemptBy : MethodName := ⟨RX8, "exemptBy", "(II)I"⟩
abbrev cX8_oneStepFrom : ByteArray := prog_10_method_11_code
def yX8_oneStepFrom : MethodName := ⟨RX8, "oneStepFrom", "(I)I"⟩
abbrev cX8_goodsTogether : ByteArray := prog_10_method_12_code
def yX8_goodsTogether : MethodName := ⟨RX8, "goodsTogether", "()I"⟩
abbrev cX8_richest : ByteArray := prog_10_method_13_code
def yX8_richest : MethodName := ⟨RX8, "richest", "()I"⟩
abbrev cX8_poorest : ByteArray := prog_10_method_14_code
def yX8_poorest : MethodName := ⟨RX8, "poorest", "()I"⟩
def RX9 : String := "QuotaParish$Reader"
def TX9 : u_T := fun k => match k with
  | 0 => ("QuotaParish$Reader", "parish", "LQuotaParish$Parish;", true)
  | 1 => ("QuotaParish$Reader", "years", "LQuotaParish$Pairs;", true)
  | 2 => ("QuotaParish$Reader", "log", "LQuotaParish$Pairs;", true)
  | 3 => ("QuotaParish$Reader", "fault", "I", false)
  | 4 => ("QuotaParish$Reader", "place", "I", false)
  | 5 => ("QuotaParish$Reader", "told", "LQuotaParish$Told;", true)
  | 6 => ("QuotaParish$Reader", "numbers", "[I", true)
  | 7 => ("QuotaParish$Reader", "token", "I", false)
  | 8 => ("QuotaParish$Reader", "tokenStart", "I", false)
  | 9 => ("QuotaParish$Reader", "tokenEnd", "I", false)
  | 10 => ("QuotaParish$Reader", "value", "I", false)
  | _ => ("QuotaParish$Reader", "housesToldOf", "I", false)
def tyX9 : Nat → FieldType := fun k => match k with
  | 0 => .object "QuotaParish$Parish"
  | 1 => .object "QuotaParish$Pairs"
  | 2 => .object "QuotaParish$Pairs"
  | 3 => .int
  | 4 => .int
  | 5 => .object "QuotaParish$Told"
  | 6 => .array .int
  | 7 => .int
  | 8 => .int
  | 9 => .int
  | 10 => .int
  | _ => .int
abbrev wsX90 : List Cond := u_ws RX9 TX9 12
theorem nmX9 : ∀ a, a < 12 → ∀ b, b < 12 → a ≠ b → (TX9 a).2.1 ≠ (TX9 b).2.1 := by decide +kernel
theorem tyX9_ok : ∀ k, k < 12 → parseFieldDescriptor (TX9 k).2.2.1 = some (tyX9 k) := by decide +kernel
abbrev cX9_init : ByteArray := prog_11_method_1_code
def yX9_init : MethodName := ⟨RX9, "<init>", "(LQuotaParish$Told;)V"⟩
abbrev cX9_read : ByteArray := prog_11_method_2_code
def yX9_read : MethodName := ⟨RX9, "read", "(I)V"⟩
abbrev cX9_readLine : ByteArray := prog_11_method_3_code
def yX9_readLine : MethodName := ⟨RX9, "readLine", "(I)V"⟩
abbrev cX9_keepLine : ByteArray := prog_11_method_4_code
def yX9_keepLine : MethodName := ⟨RX9, "keepLine", "(II)V"⟩
abbrev cX9_keepParishLine : ByteArray := prog_11_method_5_code
def yX9_keepParishLine : MethodName := ⟨RX9, "keepParishLine", "(I)V"⟩
abbrev cX9_isFull : ByteArray := prog_11_method_6_code
def yX9_isFull : MethodName := ⟨RX9, "isFull", "(II)Z"⟩
abbrev cX9_isRule : ByteArray := prog_11_method_7_code
def yX9_isRule : MethodName := ⟨RX9, "isRule", "(II)Z"⟩
abbrev cX9_isRepeated : ByteArray := prog_11_method_8_code
def yX9_isRepeated : MethodName := ⟨RX9, "isRepeated", "(I)Z"⟩
abbrev cX9_limitOf : ByteArray := prog_11_method_9_code
def yX9_limitOf : MethodName := ⟨RX9, "limitOf", "(III)I"⟩
abbrev cX9_lineOf : ByteArray := prog_11_method_10_code
def yX9_lineOf : MethodName := ⟨RX9, "lineOf", "(I)I"⟩
abbrev cX9_parishLine : ByteArray := prog_11_method_11_code
def yX9_parishLine : MethodName := ⟨RX9, "parishLine", "()I"⟩
abbrev cX9_yearsLine : ByteArray := prog_11_method_12_code
def yX9_yearsLine : MethodName := ⟨RX9, "yearsLine", "()I"⟩
abbrev cX9_spells : ByteArray := prog_11_method_13_code
def yX9_spells : MethodName := ⟨RX9, "spells", "(Ljava/lang/String;)Z"⟩
abbrev cX9_breakOff : ByteArray := prog_11_method_14_code
def yX9_breakOff : MethodName := ⟨RX9, "breakOff", "()V"⟩
abbrev cX9_noteFault : ByteArray := prog_11_method_15_code
def yX9_noteFault : MethodName := ⟨RX9, "noteFault", "(II)V"⟩
abbrev cX9_nextToken : ByteArray := prog_11_method_16_code
def yX9_nextToken : MethodName := ⟨RX9, "nextToken", "()V"⟩
abbrev cX9_readDigits : ByteArray := prog_11_method_17_code
def yX9_readDigits : MethodName := ⟨RX9, "readDigits", "(I)I"⟩
abbrev cX9_isBlank : ByteArray := prog_11_method_18_code
def yX9_isBlank : MethodName := ⟨RX9, "isBlank", "(I)Z"⟩
abbrev cX9_isLetter : ByteArray := prog_11_method_19_code
def yX9_isLetter : MethodName := ⟨RX9, "isLetter", "(I)Z"⟩
abbrev cX9_isDigit : ByteArray := prog_11_method_20_code
def yX9_isDigit : MethodName := ⟨RX9, "isDigit", "(I)Z"⟩
def RX10 : String := "QuotaParish$Told"
def TX10 : u_T := fun k => match k with
  | 0 => ("QuotaParish$Told", "tape", "[I", true)
  | 1 => ("QuotaParish$Told", "length", "I", false)
  | 2 => ("QuotaParish$Told", "parishes", "[LQuotaParish$Parish;", true)
  | 3 => ("QuotaParish$Told", "years", "[LQuotaParish$Pairs;", true)
  | 4 => ("QuotaParish$Told", "logs", "[LQuotaParish$Pairs;", true)
  | 5 => ("QuotaParish$Told", "counts", "[I", true)
  | 6 => ("QuotaParish$Told", "fault", "I", false)
  | _ => ("QuotaParish$Told", "place", "I", false)
def tyX10 : Nat → FieldType := fun k => match k with
  | 0 => .array .int
  | 1 => .int
  | 2 => .array (.object "QuotaParish$Parish")
  | 3 => .array (.object "QuotaParish$Pairs")
  | 4 => .array (.object "QuotaParish$Pairs")
  | 5 => .array .int
  | 6 => .int
  | _ => .int
abbrev wsX100 : List Cond := u_ws RX10 TX10 8
theorem nmX10 : ∀ a, a < 8 → ∀ b, b < 8 → a ≠ b → (TX10 a).2.1 ≠ (TX10 b).2.1 := by decide +kernel
theorem tyX10_ok : ∀ k, k < 8 → parseFieldDescriptor (TX10 k).2.2.1 = some (tyX10 k) := by decide +kernel
abbrev cX10_init : ByteArray := prog_12_method_1_code
def yX10_init : MethodName := ⟨RX10, "<init>", "()V"⟩
abbrev cX10_append : ByteArray := prog_12_method_2_code
def yX10_append : MethodName := ⟨RX10, "append", "(I)V"⟩
abbrev cX10_byteAt : ByteArray := prog_12_method_3_code
def yX10_byteAt : MethodName := ⟨RX10, "byteAt", "(I)I"⟩
abbrev cX10_has : ByteArray := prog_12_method_4_code
def yX10_has : MethodName := ⟨RX10, "has", "(II)Z"⟩
abbrev cX10_hasHouse : ByteArray := prog_12_method_5_code
def yX10_hasHouse : MethodName := ⟨RX10, "hasHouse", "(II)Z"⟩
abbrev cX10_slotFor : ByteArray := prog_12_method_6_code
def yX10_slotFor : MethodName := ⟨RX10, "slotFor", "(II)I"⟩
abbrev cX10_growTo : ByteArray := prog_12_method_7_code
def yX10_growTo : MethodName := ⟨RX10, "growTo", "(II)V"⟩
abbrev cX10_copyFrom : ByteArray := prog_12_method_8_code
def yX10_copyFrom : MethodName := ⟨RX10, "copyFrom", "(LQuotaParish$Told;)V"⟩
def RX11 : String := "QuotaParish"
def TX11 : u_T := fun k => match k with
  | 0 => ("QuotaParish", "told", "LQuotaParish$Told;", true)
  | 1 => ("QuotaParish", "images", "[LQuotaParish$Told;", true)
  | 2 => ("QuotaParish", "kept", "[Z", true)
  | 3 => ("QuotaParish", "reader", "LQuotaParish$Reader;", true)
  | 4 => ("QuotaParish", "course", "LQuotaParish$Course;", true)
  | 5 => ("QuotaParish", "buying", "LQuotaParish$Buying;", true)
  | 6 => ("QuotaParish", "outlook", "LQuotaParish$Outlook;", true)
  | 7 => ("QuotaParish", "annals", "LQuotaParish$Annals;", true)
  | _ => ("QuotaParish", "fitting", "LQuotaParish$Fitting;", true)
def tyX11 : Nat → FieldType := fun k => match k with
  | 0 => .object "QuotaParish$Told"
  | 1 => .array (.object "QuotaParish$Told")
  | 2 => .array .boolean
  | 3 => .object "QuotaParish$Reader"
  | 4 => .object "QuotaParish$Course"
  | 5 => .object "QuotaParish$Buying"
  | 6 => .object "QuotaParish$Outlook"
  | 7 => .object "QuotaParish$Annals"
  | _ => .object "QuotaParish$Fitting"
abbrev wsX110 : List Cond := u_ws RX11 TX11 9
theorem nmX11 : ∀ a, a < 9 → ∀ b, b < 9 → a ≠ b → (TX11 a).2.1 ≠ (TX11 b).2.1 := by decide +kernel
theorem tyX11_ok : ∀ k, k < 9 → parseFieldDescriptor (TX11 k).2.2.1 = some (tyX11 k) := by decide +kernel
abbrev cX11_init : ByteArray := prog_1_method_1_code
def yX11_init : MethodName := ⟨RX11, "<init>", "()V"⟩
abbrev cX11_feed : ByteArray := prog_1_method_2_code
def yX11_feed : MethodName := ⟨RX11, "feed", "(IIIII)I"⟩
abbrev cX11_end : ByteArray := prog_1_method_3_code
def yX11_end : MethodName := ⟨RX11, "end", "(I)I"⟩
abbrev cX11_text : ByteArray := prog_1_method_4_code
def yX11_text : MethodName := ⟨RX11, "text", "(II)I"⟩
abbrev cX11_keepText : ByteArray := prog_1_method_5_code
def yX11_keepText : MethodName := ⟨RX11, "keepText", "(II)V"⟩
abbrev cX11_fault : ByteArray := prog_1_method_6_code
def yX11_fault : MethodName := ⟨RX11, "fault", "(I)I"⟩
abbrev cX11_count : ByteArray := prog_1_method_7_code
def yX11_count : MethodName := ⟨RX11, "count", "(I)I"⟩
abbrev cX11_image : ByteArray := prog_1_method_8_code
def yX11_image : MethodName := ⟨RX11, "image", "(I)Z"⟩
abbrev cX11_again : ByteArray := prog_1_method_9_code
def yX11_again : MethodName := ⟨RX11, "again", "(I)Z"⟩
abbrev cX11_parish : ByteArray := prog_1_method_10_code
def yX11_parish : MethodName := ⟨RX11, "parish", "(II)I"⟩
abbrev cX11_houseDetail : ByteArray := prog_1_method_11_code
def yX11_houseDetail : MethodName := ⟨RX11, "houseDetail", "(LQuotaParish$Parish;I)I"⟩
abbrev cX11_deed : ByteArray := prog_1_method_12_code
def yX11_deed : MethodName := ⟨RX11, "deed", "(III)I"⟩
abbrev cX11_fact : ByteArray := prog_1_method_13_code
def yX11_fact : MethodName := ⟨RX11, "fact", "(III)I"⟩
abbrev cX11_stop : ByteArray := prog_1_method_14_code
def yX11_stop : MethodName := ⟨RX11, "stop", "(II)I"⟩
abbrev cX11_state : ByteArray := prog_1_method_15_code
def yX11_state : MethodName := ⟨RX11, "state", "(IIII)I"⟩
abbrev cX11_after : ByteArray := prog_1_method_16_code
def yX11_after : MethodName := ⟨RX11, "after", "(III)I"⟩
abbrev cX11_drawn : ByteArray := prog_1_method_17_code
def yX11_drawn : MethodName := ⟨RX11, "drawn", "(IIII)I"⟩
abbrev cX11_rush : ByteArray := prog_1_method_18_code
def yX11_rush : MethodName := ⟨RX11, "rush", "(III)I"⟩
abbrev cX11_sale : ByteArray := prog_1_method_19_code
def yX11_sale : MethodName := ⟨RX11, "sale", "(III)I"⟩
abbrev cX11_strife : ByteArray := prog_1_method_20_code
def yX11_strife : MethodName := ⟨RX11, "strife", "(IIIIZ)I"⟩
abbrev cX11_seeds : ByteArray := prog_1_method_21_code
def yX11_seeds : MethodName := ⟨RX11, "seeds", "(IZ)I"⟩
abbrev cX11_cuts : ByteArray := prog_1_method_22_code
def yX11_cuts : MethodName := ⟨RX11, "cuts", "(IIZ)I"⟩
abbrev cX11_lot : ByteArray := prog_1_method_23_code
def yX11_lot : MethodName := ⟨RX11, "lot", "(IIIZ)I"⟩
abbrev cX11_spared : ByteArray := prog_1_method_24_code
def yX11_spared : MethodName := ⟨RX11, "spared", "(IIZ)I"⟩
abbrev cX11_retinue : ByteArray := prog_1_method_25_code
def yX11_retinue : MethodName := ⟨RX11, "retinue", "(II)I"⟩
abbrev cX11_chief : ByteArray := prog_1_method_26_code
def yX11_chief : MethodName := ⟨RX11, "chief", "(II)I"⟩
abbrev cX11_rank : ByteArray := prog_1_method_27_code
def yX11_rank : MethodName := ⟨RX11, "rank", "(II)I"⟩
abbrev cX11_burden : ByteArray := prog_1_method_28_code
def yX11_burden : MethodName := ⟨RX11, "burden", "(II)I"⟩
abbrev cX11_falls : ByteArray := prog_1_method_29_code
def yX11_falls : MethodName := ⟨RX11, "falls", "(III)I"⟩
abbrev cX11_harm : ByteArray := prog_1_method_30_code
def yX11_harm : MethodName := ⟨RX11, "harm", "(III)I"⟩
abbrev cX11_foe : ByteArray := prog_1_method_31_code
def yX11_foe : MethodName := ⟨RX11, "foe", "(III)I"⟩
abbrev cX11_ruin : ByteArray := prog_1_method_32_code
def yX11_ruin : MethodName := ⟨RX11, "ruin", "(IZ)I"⟩
abbrev cX11_bid : ByteArray := prog_1_method_33_code
def yX11_bid : MethodName := ⟨RX11, "bid", "(II)I"⟩
abbrev cX11_top : ByteArray := prog_1_method_34_code
def yX11_top : MethodName := ⟨RX11, "top", "(II)I"⟩
abbrev cX11_behind : ByteArray := prog_1_method_35_code
def yX11_behind : MethodName := ⟨RX11, "behind", "(III)I"⟩
abbrev cX11_passed : ByteArray := prog_1_method_36_code
def yX11_passed : MethodName := ⟨RX11, "passed", "(II)I"⟩
abbrev cX11_fits : ByteArray := prog_1_method_37_code
def yX11_fits : MethodName := ⟨RX11, "fits", "(III)I"⟩
abbrev cX11_odds : ByteArray := prog_1_method_38_code
def yX11_odds : MethodName := ⟨RX11, "odds", "(IIIZ)I"⟩
abbrev cX11_fewest : ByteArray := prog_1_method_39_code
def yX11_fewest : MethodName := ⟨RX11, "fewest", "(III)I"⟩
abbrev cX11_leastTerm : ByteArray := prog_1_method_40_code
def yX11_leastTerm : MethodName := ⟨RX11, "leastTerm", "(IIZ)I"⟩
abbrev cX11_greatestCommon : ByteArray := prog_1_method_41_code
def yX11_greatestCommon : MethodName := ⟨RX11, "greatestCommon", "(II)I"⟩
def RX12 : String := "QuotaParishModel"
def TX12 : u_T := fun k => match k with
  | 0 => ("QuotaParishModel", "all", "[I", true)
  | 1 => ("QuotaParishModel", "has", "[Z", true)
  | 2 => ("QuotaParishModel", "size", "I", false)
  | 3 => ("QuotaParishModel", "next", "I", false)
  | 4 => ("QuotaParishModel", "where", "I", false)
  | 5 => ("QuotaParishModel", "token", "I", false)
  | 6 => ("QuotaParishModel", "number", "I", false)
  | 7 => ("QuotaParishModel", "word", "I", false)
  | 8 => ("QuotaParishModel", "wrong", "Z", false)
  | 9 => ("QuotaParishModel", "farHouse", "I", false)
  | 10 => ("QuotaParishModel", "read", "[I", true)
  | 11 => ("QuotaParishModel", "p0", "I", false)
  | 12 => ("QuotaParishModel", "houses", "I", false)
  | 13 => ("QuotaParishModel", "rules", "I", false)
  | 14 => ("QuotaParishModel", "quota", "I", false)
  | 15 => ("QuotaParishModel", "price", "I", false)
  | 16 => ("QuotaParishModel", "offices", "I", false)
  | 17 => ("QuotaParishModel", "cutRules", "I", false)
  | 18 => ("QuotaParishModel", "exempt", "I", false)
  | 19 => ("QuotaParishModel", "year", "I", false)
  | 20 => ("QuotaParishModel", "paid", "I", false)
  | 21 => ("QuotaParishModel", "lost", "I", false)
  | 22 => ("QuotaParishModel", "done", "I", false)
  | 23 => ("QuotaParishModel", "paidNow", "I", false)
  | 24 => ("QuotaParishModel", "ruined", "I", false)
  | 25 => ("QuotaParishModel", "goods", "[I", true)
  | 26 => ("QuotaParishModel", "tax", "[I", true)
  | 27 => ("QuotaParishModel", "cutOff", "[I", true)
  | 28 => ("QuotaParishModel", "rushRow", "[I", true)
  | 29 => ("QuotaParishModel", "rushMany", "I", false)
  | 30 => ("QuotaParishModel", "rushRounds", "I", false)
  | 31 => ("QuotaParishModel", "rowWorth", "[I", true)
  | 32 => ("QuotaParishModel", "rank", "[I", true)
  | 33 => ("QuotaParishModel", "goodsAhead", "[I", true)
  | 34 => ("QuotaParishModel", "d0", "I", false)
  | 35 => ("QuotaParishModel", "sold", "I", false)
  | 36 => ("QuotaParishModel", "shortAt", "I", false)
  | 37 => ("QuotaParishModel", "peak", "I", false)
  | 38 => ("QuotaParishModel", "leanYear", "I", false)
  | 39 => ("QuotaParishModel", "leanPaid", "I", false)
  | 40 => ("QuotaParishModel", "bought", "[I", true)
  | 41 => ("QuotaParishModel", "l0", "I", false)
  | 42 => ("QuotaParishModel", "fitMany", "I", false)
  | 43 => ("QuotaParishModel", "fitSet", "[I", true)
  | 44 => ("QuotaParishModel", "fitTax", "[I", true)
  | 45 => ("QuotaParishModel", "fitIn", "[I", true)
  | _ => ("QuotaParishModel", "x0", "I", false)
def tyX12 : Nat → FieldType := fun k => match k with
  | 0 => .array .int
  | 1 => .array .boolean
  | 2 => .int
  | 3 => .int
  | 4 => .int
  | 5 => .int
  | 6 => .int
  | 7 => .int
  | 8 => .boolean
  | 9 => .int
  | 10 => .array .int
  | 11 => .int
  | 12 => .int
  | 13 => .int
  | 14 => .int
  | 15 => .int
  | 16 => .int
  | 17 => .int
  | 18 => .int
  | 19 => .int
  | 20 => .int
  | 21 => .int
  | 22 => .int
  | 23 => .int
  | 24 => .int
  | 25 => .array .int
  | 26 => .array .int
  | 27 => .array .int
  | 28 => .array .int
  | 29 => .int
  | 30 => .int
  | 31 => .array .int
  | 32 => .array .int
  | 33 => .array .int
  | 34 => .int
  | 35 => .int
  | 36 => .int
  | 37 => .int
  | 38 => .int
  | 39 => .int
  | 40 => .array .int
  | 41 => .int
  | 42 => .int
  | 43 => .array .int
  | 44 => .array .int
  | 45 => .array .int
  | _ => .int
abbrev wsX120 : List Cond := u_ws RX12 TX12 47
theorem nmX12 : ∀ a, a < 47 → ∀ b, b < 47 → a ≠ b → (TX12 a).2.1 ≠ (TX12 b).2.1 := by decide +kernel
theorem tyX12_ok : ∀ k, k < 47 → parseFieldDescriptor (TX12 k).2.2.1 = some (tyX12 k) := by decide +kernel
abbrev cX12_init : ByteArray := prog_14_method_1_code
def yX12_init : MethodName := ⟨RX12, "<init>", "()V"⟩
abbrev cX12_isIn : ByteArray := prog_14_method_2_code
def yX12_isIn : MethodName := ⟨RX12, "isIn", "(III)Z"⟩
abbrev cX12_feed : ByteArray := prog_14_method_3_code
def yX12_feed : MethodName := ⟨RX12, "feed", "(IIIII)I"⟩
abbrev cX12_end : ByteArray := prog_14_method_4_code
def yX12_end : MethodName := ⟨RX12, "end", "(I)I"⟩
abbrev cX12_byteAt : ByteArray := prog_14_method_5_code
def yX12_byteAt : MethodName := ⟨RX12, "byteAt", "(I)I"⟩
abbrev cX12_isLetter : ByteArray := prog_14_method_6_code
def yX12_isLetter : MethodName := ⟨RX12, "isLetter", "(I)Z"⟩
abbrev cX12_isDigit : ByteArray := prog_14_method_7_code
def yX12_isDigit : MethodName := ⟨RX12, "isDigit", "(I)Z"⟩
abbrev cX12_four : ByteArray := prog_14_method_8_code
def yX12_four : MethodName := ⟨RX12, "four", "(IIII)J"⟩
abbrev cX12_eight : ByteArray := prog_14_method_9_code
def yX12_eight : MethodName := ⟨RX12, "eight", "(IIIIIIII)J"⟩
abbrev cX12_wordOf : ByteArray := prog_14_method_10_code
def yX12_wordOf : MethodName := ⟨RX12, "wordOf", "(J)I"⟩
abbrev cX12_advance : ByteArray := prog_14_method_11_code
def yX12_advance : MethodName := ⟨RX12, "advance", "()V"⟩
abbrev cX12_ends : ByteArray := prog_14_method_12_code
def yX12_ends : MethodName := ⟨RX12, "ends", "()V"⟩
abbrev cX12_also : ByteArray := prog_14_method_13_code
def yX12_also : MethodName := ⟨RX12, "also", "(II)V"⟩
abbrev cX12_numbered : ByteArray := prog_14_method_14_code
def yX12_numbered : MethodName := ⟨RX12, "numbered", "(II)I"⟩
abbrev cX12_wordIn : ByteArray := prog_14_method_15_code
def yX12_wordIn : MethodName := ⟨RX12, "wordIn", "(II)I"⟩
abbrev cX12_endsLine : ByteArray := prog_14_method_16_code
def yX12_endsLine : MethodName := ⟨RX12, "endsLine", "()V"⟩
abbrev cX12_houseTold : ByteArray := prog_14_method_17_code
def yX12_houseTold : MethodName := ⟨RX12, "houseTold", "()I"⟩
abbrev cX12_patronTold : ByteArray := prog_14_method_18_code
def yX12_patronTold : MethodName := ⟨RX12, "patronTold", "(II)I"⟩
abbrev cX12_houseLine : ByteArray := prog_14_method_19_code
def yX12_houseLine : MethodName := ⟨RX12, "houseLine", "(I)V"⟩
abbrev cX12_ruleTold : ByteArray := prog_14_method_20_code
def yX12_ruleTold : MethodName := ⟨RX12, "ruleTold", "(IZ)V"⟩
abbrev cX12_parishLine : ByteArray := prog_14_method_21_code
def yX12_parishLine : MethodName := ⟨RX12, "parishLine", "()V"⟩
abbrev cX12_deedOf : ByteArray := prog_14_method_22_code
def yX12_deedOf : MethodName := ⟨RX12, "deedOf", "(I)I"⟩
abbrev cX12_yearsLine : ByteArray := prog_14_method_23_code
def yX12_yearsLine : MethodName := ⟨RX12, "yearsLine", "()V"⟩
abbrev cX12_logLine : ByteArray := prog_14_method_24_code
def yX12_logLine : MethodName := ⟨RX12, "logLine", "()V"⟩
abbrev cX12_placeOf : ByteArray := prog_14_method_25_code
def yX12_placeOf : MethodName := ⟨RX12, "placeOf", "(II)I"⟩
abbrev cX12_sizeOf : ByteArray := prog_14_method_26_code
def yX12_sizeOf : MethodName := ⟨RX12, "sizeOf", "(I)I"⟩
abbrev cX12_isOf : ByteArray := prog_14_method_27_code
def yX12_isOf : MethodName := ⟨RX12, "isOf", "(II)Z"⟩
abbrev cX12_text : ByteArray := prog_14_method_28_code
def yX12_text : MethodName := ⟨RX12, "text", "(II)I"⟩
abbrev cX12_fault : ByteArray := prog_14_method_29_code
def yX12_fault : MethodName := ⟨RX12, "fault", "(I)I"⟩
abbrev cX12_isParish : ByteArray := prog_14_method_30_code
def yX12_isParish : MethodName := ⟨RX12, "isParish", "(I)Z"⟩
abbrev cX12_isHouse : ByteArray := prog_14_method_31_code
def yX12_isHouse : MethodName := ⟨RX12, "isHouse", "(I)Z"⟩
abbrev cX12_everyHouse : ByteArray := prog_14_method_32_code
def yX12_everyHouse : MethodName := ⟨RX12, "everyHouse", "()I"⟩
abbrev cX12_goodsTold : ByteArray := prog_14_method_33_code
def yX12_goodsTold : MethodName := ⟨RX12, "goodsTold", "(I)I"⟩
abbrev cX12_yieldOf : ByteArray := prog_14_method_34_code
def yX12_yieldOf : MethodName := ⟨RX12, "yieldOf", "(I)I"⟩
abbrev cX12_ruleAt : ByteArray := prog_14_method_35_code
def yX12_ruleAt : MethodName := ⟨RX12, "ruleAt", "(II)I"⟩
abbrev cX12_bitsOf : ByteArray := prog_14_method_36_code
def yX12_bitsOf : MethodName := ⟨RX12, "bitsOf", "(I)I"⟩
abbrev cX12_ruleHolds : ByteArray := prog_14_method_37_code
def yX12_ruleHolds : MethodName := ⟨RX12, "ruleHolds", "(II)Z"⟩
abbrev cX12_exemptBy : ByteArray := prog_14_method_38_code
def yX12_exemptBy : MethodName := ⟨RX12, "exemptBy", "(I)I"⟩
abbrev cX12_isExempt : ByteArray := prog_14_method_39_code
def yX12_isExempt : MethodName := ⟨RX12, "isExempt", "(I)Z"⟩
abbrev cX12_shares : ByteArray := prog_14_method_40_code
def yX12_shares : MethodName := ⟨RX12, "shares", "()V"⟩
abbrev cX12_taxTogether : ByteArray := prog_14_method_41_code
def yX12_taxTogether : MethodName := ⟨RX12, "taxTogether", "()I"⟩
abbrev cX12_begins : ByteArray := prog_14_method_42_code
def yX12_begins : MethodName := ⟨RX12, "begins", "()V"⟩
abbrev cX12_goesYear : ByteArray := prog_14_method_43_code
def yX12_goesYear : MethodName := ⟨RX12, "goesYear", "()V"⟩
abbrev cX12_canBuy : ByteArray := prog_14_method_44_code
def yX12_canBuy : MethodName := ⟨RX12, "canBuy", "(I)Z"⟩
abbrev cX12_buysNow : ByteArray := prog_14_method_45_code
def yX12_buysNow : MethodName := ⟨RX12, "buysNow", "(I)V"⟩
abbrev cX12_parish : ByteArray := prog_14_method_46_code
def yX12_parish : MethodName := ⟨RX12, "parish", "(II)I"⟩
abbrev cX12_rushes : ByteArray := prog_14_method_47_code
def yX12_rushes : MethodName := ⟨RX12, "rushes", "(I)V"⟩
abbrev cX12_rush : ByteArray := prog_14_method_48_code
def yX12_rush : MethodName := ⟨RX12, "rush", "(III)I"⟩
abbrev cX12_seeds : ByteArray := prog_14_method_49_code
def yX12_seeds : MethodName := ⟨RX12, "seeds", "(IZ)I"⟩
abbrev cX12_cutsOf : ByteArray := prog_14_method_50_code
def yX12_cutsOf : MethodName := ⟨RX12, "cutsOf", "(I)I"⟩
abbrev cX12_cuts : ByteArray := prog_14_method_51_code
def yX12_cuts : MethodName := ⟨RX12, "cuts", "(IIZ)I"⟩
abbrev cX12_ruin : ByteArray := prog_14_method_52_code
def yX12_ruin : MethodName := ⟨RX12, "ruin", "(IZ)I"⟩
abbrev cX12_bid : ByteArray := prog_14_method_53_code
def yX12_bid : MethodName := ⟨RX12, "bid", "(II)I"⟩
abbrev cX12_common : ByteArray := prog_14_method_54_code
def yX12_common : MethodName := ⟨RX12, "common", "(II)I"⟩
abbrev cX12_parted : ByteArray := prog_14_method_55_code
def yX12_parted : MethodName := ⟨RX12, "parted", "(IIZ)I"⟩
abbrev cX12_burden : ByteArray := prog_14_method_56_code
def yX12_burden : MethodName := ⟨RX12, "burden", "(II)I"⟩
abbrev cX12_taxBy : ByteArray := prog_14_method_57_code
def yX12_taxBy : MethodName := ⟨RX12, "taxBy", "(II)I"⟩
abbrev cX12_falls : ByteArray := prog_14_method_58_code
def yX12_falls : MethodName := ⟨RX12, "falls", "(III)I"⟩
abbrev cX12_strifeBy : ByteArray := prog_14_method_59_code
def yX12_strifeBy : MethodName := ⟨RX12, "strifeBy", "(IIII)I"⟩
abbrev cX12_strife : ByteArray := prog_14_method_60_code
def yX12_strife : MethodName := ⟨RX12, "strife", "(IIIIZ)I"⟩
abbrev cX12_lot : ByteArray := prog_14_method_61_code
def yX12_lot : MethodName := ⟨RX12, "lot", "(IIIZ)I"⟩
abbrev cX12_spared : ByteArray := prog_14_method_62_code
def yX12_spared : MethodName := ⟨RX12, "spared", "(IIZ)I"⟩
abbrev cX12_retinue : ByteArray := prog_14_method_63_code
def yX12_retinue : MethodName := ⟨RX12, "retinue", "(II)I"⟩
abbrev cX12_chiefOf : ByteArray := prog_14_method_64_code
def yX12_chiefOf : MethodName := ⟨RX12, "chiefOf", "()I"⟩
abbrev cX12_keysOf : ByteArray := prog_14_method_65_code
def yX12_keysOf : MethodName := ⟨RX12, "keysOf", "()I"⟩
abbrev cX12_isIdle : ByteArray := prog_14_method_66_code
def yX12_isIdle : MethodName := ⟨RX12, "isIdle", "(I)Z"⟩
abbrev cX12_idleOf : ByteArray := prog_14_method_67_code
def yX12_idleOf : MethodName := ⟨RX12, "idleOf", "()I"⟩
abbrev cX12_comesTo : ByteArray := prog_14_method_68_code
def yX12_comesTo : MethodName := ⟨RX12, "comesTo", "(I)I"⟩
abbrev cX12_housesBy : ByteArray := prog_14_method_69_code
def yX12_housesBy : MethodName := ⟨RX12, "housesBy", "(Z)I"⟩
abbrev cX12_rankBy : ByteArray := prog_14_method_70_code
def yX12_rankBy : MethodName := ⟨RX12, "rankBy", "(I)I"⟩
abbrev cX12_laysRanks : ByteArray := prog_14_method_71_code
def yX12_laysRanks : MethodName := ⟨RX12, "laysRanks", "()V"⟩
abbrev cX12_chief : ByteArray := prog_14_method_72_code
def yX12_chief : MethodName := ⟨RX12, "chief", "(II)I"⟩
abbrev cX12_rank : ByteArray := prog_14_method_73_code
def yX12_rank : MethodName := ⟨RX12, "rank", "(II)I"⟩
abbrev cX12_harmOf : ByteArray := prog_14_method_74_code
def yX12_harmOf : MethodName := ⟨RX12, "harmOf", "(II)I"⟩
abbrev cX12_harm : ByteArray := prog_14_method_75_code
def yX12_harm : MethodName := ⟨RX12, "harm", "(III)I"⟩
abbrev cX12_foe : ByteArray := prog_14_method_76_code
def yX12_foe : MethodName := ⟨RX12, "foe", "(III)I"⟩
abbrev cX12_buyersBy : ByteArray := prog_14_method_77_code
def yX12_buyersBy : MethodName := ⟨RX12, "buyersBy", "(II)I"⟩
abbrev cX12_sale : ByteArray := prog_14_method_78_code
def yX12_sale : MethodName := ⟨RX12, "sale", "(III)I"⟩
abbrev cX12_isRuinedBy : ByteArray := prog_14_method_79_code
def yX12_isRuinedBy : MethodName := ⟨RX12, "isRuinedBy", "(II)Z"⟩
abbrev cX12_top : ByteArray := prog_14_method_80_code
def yX12_top : MethodName := ⟨RX12, "top", "(II)I"⟩
abbrev cX12_richestOf : ByteArray := prog_14_method_81_code
def yX12_richestOf : MethodName := ⟨RX12, "richestOf", "()I"⟩
abbrev cX12_poorestOf : ByteArray := prog_14_method_82_code
def yX12_poorestOf : MethodName := ⟨RX12, "poorestOf", "()I"⟩
abbrev cX12_goodsTogether : ByteArray := prog_14_method_83_code
def yX12_goodsTogether : MethodName := ⟨RX12, "goodsTogether", "()I"⟩
abbrev cX12_behind : ByteArray := prog_14_method_84_code
def yX12_behind : MethodName := ⟨RX12, "behind", "(III)I"⟩
abbrev cX12_passedOf : ByteArray := prog_14_method_85_code
def yX12_passedOf : MethodName := ⟨RX12, "passedOf", "()I"⟩
abbrev cX12_levelOf : ByteArray := prog_14_method_86_code
def yX12_levelOf : MethodName := ⟨RX12, "levelOf", "()I"⟩
abbrev cX12_spreadOf : ByteArray := prog_14_method_87_code
def yX12_spreadOf : MethodName := ⟨RX12, "spreadOf", "()I"⟩
abbrev cX12_unevenOf : ByteArray := prog_14_method_88_code
def yX12_unevenOf : MethodName := ⟨RX12, "unevenOf", "()I"⟩
abbrev cX12_passed : ByteArray := prog_14_method_89_code
def yX12_passed : MethodName := ⟨RX12, "passed", "(II)I"⟩
abbrev cX12_isYears : ByteArray := prog_14_method_90_code
def yX12_isYears : MethodName := ⟨RX12, "isYears", "(I)Z"⟩
abbrev cX12_deed : ByteArray := prog_14_method_91_code
def yX12_deed : MethodName := ⟨RX12, "deed", "(III)I"⟩
abbrev cX12_beginsYears : ByteArray := prog_14_method_92_code
def yX12_beginsYears : MethodName := ⟨RX12, "beginsYears", "()V"⟩
abbrev cX12_goesOn : ByteArray := prog_14_method_93_code
def yX12_goesOn : MethodName := ⟨RX12, "goesOn", "()Z"⟩
abbrev cX12_buys : ByteArray := prog_14_method_94_code
def yX12_buys : MethodName := ⟨RX12, "buys", "(I)Z"⟩
abbrev cX12_loses : ByteArray := prog_14_method_95_code
def yX12_loses : MethodName := ⟨RX12, "loses", "(I)Z"⟩
abbrev cX12_sets : ByteArray := prog_14_method_96_code
def yX12_sets : MethodName := ⟨RX12, "sets", "(ZI)Z"⟩
abbrev cX12_cutsRule : ByteArray := prog_14_method_97_code
def yX12_cutsRule : MethodName := ⟨RX12, "cutsRule", "(I)Z"⟩
abbrev cX12_does : ByteArray := prog_14_method_98_code
def yX12_does : MethodName := ⟨RX12, "does", "(II)Z"⟩
abbrev cX12_doesOne : ByteArray := prog_14_method_99_code
def yX12_doesOne : MethodName := ⟨RX12, "doesOne", "(II)Z"⟩
abbrev cX12_runs : ByteArray := prog_14_method_100_code
def yX12_runs : MethodName := ⟨RX12, "runs", "(I)V"⟩
abbrev cX12_stop : ByteArray := prog_14_method_101_code
def yX12_stop : MethodName := ⟨RX12, "stop", "(II)I"⟩
abbrev cX12_nowOf : ByteArray := prog_14_method_102_code
def yX12_nowOf : MethodName := ⟨RX12, "nowOf", "(I)I"⟩
abbrev cX12_state : ByteArray := prog_14_method_103_code
def yX12_state : MethodName := ⟨RX12, "state", "(IIII)I"⟩
abbrev cX12_buyerOf : ByteArray := prog_14_method_104_code
def yX12_buyerOf : MethodName := ⟨RX12, "buyerOf", "()I"⟩
abbrev cX12_after : ByteArray := prog_14_method_105_code
def yX12_after : MethodName := ⟨RX12, "after", "(III)I"⟩
abbrev cX12_isLog : ByteArray := prog_14_method_106_code
def yX12_isLog : MethodName := ⟨RX12, "isLog", "(I)Z"⟩
abbrev cX12_fact : ByteArray := prog_14_method_107_code
def yX12_fact : MethodName := ⟨RX12, "fact", "(III)I"⟩
abbrev cX12_isSo : ByteArray := prog_14_method_108_code
def yX12_isSo : MethodName := ⟨RX12, "isSo", "(I)Z"⟩
abbrev cX12_laysFits : ByteArray := prog_14_method_109_code
def yX12_laysFits : MethodName := ⟨RX12, "laysFits", "()V"⟩
abbrev cX12_likeTaxes : ByteArray := prog_14_method_110_code
def yX12_likeTaxes : MethodName := ⟨RX12, "likeTaxes", "(I)I"⟩
abbrev cX12_askOf : ByteArray := prog_14_method_111_code
def yX12_askOf : MethodName := ⟨RX12, "askOf", "()I"⟩
abbrev cX12_sureOf : ByteArray := prog_14_method_112_code
def yX12_sureOf : MethodName := ⟨RX12, "sureOf", "(I)I"⟩
abbrev cX12_fits : ByteArray := prog_14_method_113_code
def yX12_fits : MethodName := ⟨RX12, "fits", "(III)I"⟩
abbrev cX12_odds : ByteArray := prog_14_method_114_code
def yX12_odds : MethodName := ⟨RX12, "odds", "(IIIZ)I"⟩
abbrev cX12_alikeOf : ByteArray := prog_14_method_115_code
def yX12_alikeOf : MethodName := ⟨RX12, "alikeOf", "()I"⟩
abbrev cX12_fewOf : ByteArray := prog_14_method_116_code
def yX12_fewOf : MethodName := ⟨RX12, "fewOf", "(Z)I"⟩
abbrev cX12_fewest : ByteArray := prog_14_method_117_code
def yX12_fewest : MethodName := ⟨RX12, "fewest", "(III)I"⟩
abbrev cX12_below : ByteArray := prog_14_method_118_code
def yX12_below : MethodName := ⟨RX12, "below", "(I)I"⟩
abbrev cX12_draws : ByteArray := prog_14_method_119_code
def yX12_draws : MethodName := ⟨RX12, "draws", "()V"⟩
abbrev cX12_drawn : ByteArray := prog_14_method_120_code
def yX12_drawn : MethodName := ⟨RX12, "drawn", "(IIII)I"⟩
abbrev cX12_count : ByteArray := prog_14_method_121_code
def yX12_count : MethodName := ⟨RX12, "count", "(I)I"⟩
abbrev cX12_image : ByteArray := prog_14_method_122_code
def yX12_image : MethodName := ⟨RX12, "image", "(I)Z"⟩
abbrev cX12_again : ByteArray := prog_14_method_123_code
def yX12_again : MethodName := ⟨RX12, "again", "(I)Z"⟩
def RJ6 : String := "java/lang/Integer"
def TJ6 : u_T := fun k => match k with
  | _ => ("", "", "", false)
def tyJ6 : Nat → FieldType := fun k => match k with
  | _ => .int
abbrev wsJ60 : List Cond := u_ws RJ6 TJ6 0
theorem nmJ6 : ∀ a, a < 0 → ∀ b, b < 0 → a ≠ b → (TJ6 a).2.1 ≠ (TJ6 b).2.1 := by decide +kernel
theorem tyJ6_ok : ∀ k, k < 0 → parseFieldDescriptor (TJ6 k).2.2.1 = some (tyJ6 k) := by decide +kernel
abbrev cJ6_bitCount_0f7a4 : ByteArray := prog_15_method_49_code
def yJ6_bitCount_0f7a4 : MethodName := ⟨RJ6, "bitCount", "(I)I"⟩
def RJ9 : String := "java/lang/Math"
def TJ9 : u_T := fun k => match k with
  | _ => ("", "", "", false)
def tyJ9 : Nat → FieldType := fun k => match k with
  | _ => .int
abbrev wsJ90 : List Cond := u_ws RJ9 TJ9 0
theorem nmJ9 : ∀ a, a < 0 → ∀ b, b < 0 → a ≠ b → (TJ9 a).2.1 ≠ (TJ9 b).2.1 := by decide +kernel
theorem tyJ9_ok : ∀ k, k < 0 → parseFieldDescriptor (TJ9 k).2.2.1 = some (tyJ9 k) := by decide +kernel
abbrev cJ9_abs_0f7a4 : ByteArray := prog_16_method_59_code
def yJ9_abs_0f7a4 : MethodName := ⟨RJ9, "abs", "(I)I"⟩
abbrev cJ9_max_7cf53 : ByteArray := prog_16_method_65_code
def yJ9_max_7cf53 : MethodName := ⟨RJ9, "max", "(II)I"⟩
abbrev cJ9_min_7cf53 : ByteArray := prog_16_method_69_code
def yJ9_min_7cf53 : MethodName := ⟨RJ9, "min", "(II)I"⟩
def RJ0 : String := "java/lang/String"
def TJ0 : u_T := fun k => match k with
  | _ => ("", "", "", false)
def tyJ0 : Nat → FieldType := fun k => match k with
  | _ => .int
abbrev wsJ00 : List Cond := u_ws RJ0 TJ0 0
theorem nmJ0 : ∀ a, a < 0 → ∀ b, b < 0 → a ≠ b → (TJ0 a).2.1 ≠ (TJ0 b).2.1 := by decide +kernel
theorem tyJ0_ok : ∀ k, k < 0 → parseFieldDescriptor (TJ0 k).2.2.1 = some (tyJ0 k) := by decide +kernel
abbrev cJ0_length_8abf5 : ByteArray := prog_17_method_54_code
def yJ0_length_8abf5 : MethodName := ⟨RJ0, "length", "()I"⟩
abbrev cJ0_charAt_5068e : ByteArray := prog_17_method_56_code
def yJ0_charAt_5068e : MethodName := ⟨RJ0, "charAt", "(I)C"⟩
abbrev cJ0_coder_7d493 : ByteArray := prog_17_method_152_code
def yJ0_coder_7d493 : MethodName := ⟨RJ0, "coder", "()B"⟩
abbrev cJ0_isLatin1_aae02 : ByteArray := prog_17_method_154_code
def yJ0_isLatin1_aae02 : MethodName := ⟨RJ0, "isLatin1", "()Z"⟩
abbrev cJ0_checkIndex_df160 : ByteArray := prog_17_method_155_code
def yJ0_checkIndex_df160 : MethodName := ⟨RJ0, "checkIndex", "(II)V"⟩
def RJ1 : String := "java/lang/StringLatin1"
def TJ1 : u_T := fun k => match k with
  | _ => ("", "", "", false)
def tyJ1 : Nat → FieldType := fun k => match k with
  | _ => .int
abbrev wsJ10 : List Cond := u_ws RJ1 TJ1 0
theorem nmJ1 : ∀ a, a < 0 → ∀ b, b < 0 → a ≠ b → (TJ1 a).2.1 ≠ (TJ1 b).2.1 := by decide +kernel
theorem tyJ1_ok : ∀ k, k < 0 → parseFieldDescriptor (TJ1 k).2.2.1 = some (tyJ1 k) := by decide +kernel
abbrev cJ1_charAt_3b067 : ByteArray := prog_18_method_2_code
def yJ1_charAt_3b067 : MethodName := ⟨RJ1, "charAt", "([BI)C"⟩
def RJ2 : String := "java/lang/StringUTF16"
def TJ2 : u_T := fun k => match k with
  | _ => ("", "", "", false)
def tyJ2 : Nat → FieldType := fun k => match k with
  | _ => .int
abbrev wsJ20 : List Cond := u_ws RJ2 TJ2 0
theorem nmJ2 : ∀ a, a < 0 → ∀ b, b < 0 → a ≠ b → (TJ2 a).2.1 ≠ (TJ2 b).2.1 := by decide +kernel
theorem tyJ2_ok : ∀ k, k < 0 → parseFieldDescriptor (TJ2 k).2.2.1 = some (tyJ2 k) := by decide +kernel
abbrev cJ2_getChar_3b067 : ByteArray := prog_19_method_5_code
def yJ2_getChar_3b067 : MethodName := ⟨RJ2, "getChar", "([BI)C"⟩
abbrev cJ2_length_9d52b : ByteArray := prog_19_method_6_code
def yJ2_length_9d52b : MethodName := ⟨RJ2, "length", "([B)I"⟩
abbrev cJ2_charAt_3b067 : ByteArray := prog_19_method_83_code
def yJ2_charAt_3b067 : MethodName := ⟨RJ2, "charAt", "([BI)C"⟩
abbrev cJ2_checkIndex_2214a : ByteArray := prog_19_method_91_code
def yJ2_checkIndex_2214a : MethodName := ⟨RJ2, "checkIndex", "(I[B)V"⟩
def RJ10 : String := "java/lang/System"
def TJ10 : u_T := fun k => match k with
  | _ => ("", "", "", false)
def tyJ10 : Nat → FieldType := fun k => match k with
  | _ => .int
abbrev wsJ100 : List Cond := u_ws RJ10 TJ10 0
theorem nmJ10 : ∀ a, a < 0 → ∀ b, b < 0 → a ≠ b → (TJ10 a).2.1 ≠ (TJ10 b).2.1 := by decide +kernel
theorem tyJ10_ok : ∀ k, k < 0 → parseFieldDescriptor (TJ10 k).2.2.1 = some (tyJ10 k) := by decide +kernel
def RJ3 : String := "jdk/internal/util/Preconditions"
def TJ3 : u_T := fun k => match k with
  | _ => ("", "", "", false)
def tyJ3 : Nat → FieldType := fun k => match k with
  | _ => .int
abbrev wsJ30 : List Cond := u_ws RJ3 TJ3 0
theorem nmJ3 : ∀ a, a < 0 → ∀ b, b < 0 → a ≠ b → (TJ3 a).2.1 ≠ (TJ3 b).2.1 := by decide +kernel
theorem tyJ3_ok : ∀ k, k < 0 → parseFieldDescriptor (TJ3 k).2.2.1 = some (tyJ3 k) := by decide +kernel
abbrev cJ3_checkIndex_8e157 : ByteArray := prog_21_method_11_code
def yJ3_checkIndex_8e157 : MethodName := ⟨RJ3, "checkIndex", "(IILjava/util/function/BiFunction;)I"⟩
def RL : String := "QuotaParishLaw"
abbrev cL_law : ByteArray := code
def yL_law : MethodName := ⟨RL, "law", "([I)Z"⟩
abbrev vwCl : List vw_C := [(RX0, TX0, 7), (RX2, TX2, 8), (RX3, TX3, 10), (RX4, TX4, 6), (RX5, TX5, 3), (RX6, TX6, 2), (RX7, TX7, 3), (RX8, TX8, 11), (RX9, TX9, 12), (RX10, TX10, 8), (RX11, TX11, 9), (RX12, TX12, 47)]
def gdW (w : Cond) : Bool := decide ((w.onTables && w.keeps) = true) || (match w with
  | .arrayClass _ => true
  | _ => false)
/-- the tables' words that hold in every later state -/
def TB : List Cond := lw_tbl.filter gdW
theorem TB_in {w : Cond} (h : w ∈ TB) : w ∈ lw_tbl := (List.mem_filter.mp h).1
theorem TB_gd {w : Cond} (h : w ∈ TB) : (w.onTables && w.keeps) = true ∨ ∃ ty, w = .arrayClass ty := by
  have h := (List.mem_filter.mp h).2
  unfold gdW at h
  rcases (Bool.or_eq_true _ _).mp h with h | h
  · exact Or.inl (of_decide_eq_true h)
  · cases w <;> first | exact Or.inr ⟨_, rfl⟩ | cases h
theorem TB_at {w : Cond} (i : Nat) (h : lw_tbl[i]? = some w) (g : gdW w = true) : w ∈ TB := List.mem_filter.mpr ⟨List.mem_of_getElem? h, g⟩
end
section
/-! THE PURE MACHINE: the same bytecode over whole numbers, cells by their places; one theorem (part 04) carries its runs over to the machine itself -/
abbrev PV : Type := Int ⊕ Int ⊕ Option Nat
abbrev vI (x : Int) : PV := Sum.inl x
abbrev vL (x : Int) : PV := Sum.inr (Sum.inl x)
abbrev vR (r : Option Nat) : PV := Sum.inr (Sum.inr r)
abbrev PE : Type := (FieldType × Nat × ((Nat → Int) ⊕ (Nat → Int) ⊕ (Nat → Option Nat))) ⊕ (Nat × List PV)
abbrev PHp : Type := List PE
abbrev PL : Type := List (Option PV)
/-- byte pc, instruction, length, resolved numbers, a constant -/
abbrev PEn : Type := Nat × Instr × Nat × List Nat × Int
/-- ordinal, locals, stack, heap, cells made, slots made -/
abbrev PC : Type := Nat × PL × List PV × PHp × Nat × Nat
abbrev PO : Type := PC ⊕ (Option PV) ⊕ (Nat × List PV × List PV)
abbrev PK : Nat := 1000000
/-- what lies outside the system's cells and is only read: strings (0..10), static rows (11..13), the script (14) -/
abbrev PX : Type := Nat → Nat × (Nat → Int)
def iAnd (a b : Int) : Int := (Int32.ofInt a &&& Int32.ofInt b).toInt
def iOr (a b : Int) : Int := (Int32.ofInt a ||| Int32.ofInt b).toInt
def iXor (a b : Int) : Int := (Int32.ofInt a ^^^ Int32.ofInt b).toInt
def iShl (a b : Int) : Int := (Int32.ofInt a <<< (Int32.ofInt b &&& 31)).toInt
def iShr (a b : Int) : Int := (Int32.ofInt a >>> (Int32.ofInt b &&& 31)).toInt
def iUshr (a b : Int) : Int := ((Int32.ofInt a).toUInt32 >>> ((Int32.ofInt b).toUInt32 &&& Int32.toUInt32 31)).toInt32.toInt
def iDiv (a b : Int) : Int := (Int32.ofInt a / Int32.ofInt b).toInt
def iRem (a b : Int) : Int := (Int32.ofInt a - Int32.ofInt a / Int32.ofInt b * Int32.ofInt b).toInt
def iL2i (a : Int) : Int := (Int64.ofInt a).toInt32.toInt
def iI2l (a : Int) : Int := (Int32.ofInt a).toInt
def lOr (a b : Int) : Int := (Int64.ofInt a ||| Int64.ofInt b).toInt
def lShl (a b : Int) : Int := (Int64.ofInt a <<< ((Int32.ofInt b).toInt64 &&& 63)).toInt
def lShr (a b : Int) : Int := (Int64.ofInt a >>> ((Int32.ofInt b).toInt64 &&& 63)).toInt
def lCmp (a b : Int) : Int := if Int64.ofInt a < Int64.ofInt b then -1 else if Int64.ofInt a = Int64.ofInt b then 0 else 1
def iCmp (cd : ClassFile.Cond) (a b : Int) : Bool := match cd with
  | .eq => decide (Int32.ofInt a = Int32.ofInt b)
  | .ne => !decide (Int32.ofInt a = Int32.ofInt b)
  | .lt => decide (Int32.ofInt a < Int32.ofInt b)
  | .ge => !decide (Int32.ofInt a < Int32.ofInt b)
  | .gt => decide (Int32.ofInt b < Int32.ofInt a)
  | .le => !decide (Int32.ofInt b < Int32.ofInt a)
def nx (i : Nat) (L : PL) (st : List PV) (h : PHp) (cs sl : Nat) : Option PO := some (.inl (i, L, st, h, cs, sl))
def lget (L : PL) (i : Nat) : Option PV := match L[i]? with
  | some (some v) => some v
  | _ => none
def isLg (v : Option (Option PV)) : Bool := match v with
  | some (some (.inr (.inl _))) => true
  | _ => false
def lclr (L : PL) (i : Nat) : PL := match i with
  | 0 => L
  | j + 1 => if isLg L[j]? = true then L.set j none else L
def lput (L : PL) (i : Nat) (v : PV) : PL := (lclr L i).set i (some v)
def lput2 (L : PL) (i : Nat) (v : PV) : PL := ((lclr L i).set i (some v)).set (i + 1) none
def hObj (h : PHp) (c ci : Nat) : Option (List PV) := if c < PK then (match h[c]? with
  | some (.inr (cj, fs)) => if cj = ci then some fs else none
  | _ => none) else none
def hInt (ty : FieldType) (h : PHp) (c : Nat) : Option (Nat × (Nat → Int)) := if c < PK then (match h[c]? with
  | some (.inl (t, n, .inl f)) => if t = ty ∧ n ≤ 100000 then some (n, f) else none
  | _ => none) else none
def hLong (h : PHp) (c : Nat) : Option (Nat × (Nat → Int)) := if c < PK then (match h[c]? with
  | some (.inl (t, n, .inr (.inl f))) => if t = .long ∧ n ≤ 100000 then some (n, f) else none
  | _ => none) else none
def hRef (h : PHp) (c : Nat) : Option (FieldType × Nat × (Nat → Option Nat)) := if c < PK then (match h[c]? with
  | some (.inl (t, n, .inr (.inr f))) => if n ≤ 100000 then some (t, n, f) else none
  | _ => none) else none
def xInt (X : PX) (h : PHp) (c : Nat) : Option (Nat × (Nat → Int)) := if c < PK then hInt .int h c else if c < PK + 11 then none else if c < PK + 15 then some (X (c - PK)) else none
def at2 (n : Nat) (f : Nat → Int) (i : Int) : Option Int := if 0 ≤ i ∧ i < n then some (f i.toNat) else none
def up {α : Type} (f : Nat → α) (k : Nat) (x : α) : Nat → α := fun j => if j = k then x else f j
def cpy (f g : Nat → Int) (sp dp n : Nat) : Nat → Int := fun k => if dp ≤ k ∧ k < dp + n then f (sp + (k - dp)) else g k
def fitF (t : Nat) (v : PV) : Bool := match v with
  | .inl x => t == 0 || (t == 1 && (x == 0 || x == 1))
  | .inr (.inr (some _)) => t == 2
  | _ => false
def catS (st : List PV) : Nat := (st.map fun v => match v with
  | .inr (.inl _) => 2
  | _ => 1).sum
def i2 (st : List PV) (f : Int → Int → Option PV) : Option (List PV) := match st with
  | .inl y :: .inl x :: r => (f x y).map (· :: r)
  | _ => none
def l2 (st : List PV) (f : Int → Int → Option PV) : Option (List PV) := match st with
  | .inr (.inl y) :: .inr (.inl x) :: r => (f x y).map (· :: r)
  | _ => none
def li2 (st : List PV) (f : Int → Int → Option PV) : Option (List PV) := match st with
  | .inl y :: .inr (.inl x) :: r => (f x y).map (· :: r)
  | _ => none
def ld (L : PL) (k : Nat) (j : Nat) : Option PV := match lget L j with
  | some (.inl x) => if k = 0 then some (vI x) else none
  | some (.inr (.inl x)) => if k = 1 then some (vL x) else none
  | some (.inr (.inr (some x))) => if k = 2 then some (vR (some x)) else none
  | _ => none
def ord (ar : List Nat) (k : Nat) : Nat := ar.getD k 0
def fdef (fs : List Nat) : List PV := fs.map fun t => if t = 2 then vR none else vI 0
/-- one instruction -/
def stp (X : PX) (e : PEn) (c : PC) : Option PO :=
  match e, c with
  | (_, ins, _, ar, z), (i, L, st, h, cs, sl) =>
  match ins with
  | .iconst _ => nx (i + 1) L (vI z :: st) h cs sl
  | .bipush _ => nx (i + 1) L (vI z :: st) h cs sl
  | .sipush _ => nx (i + 1) L (vI z :: st) h cs sl
  | .ldc _ => if ar = [] then nx (i + 1) L (vI z :: st) h cs sl else if ord ar 0 < 11 then nx (i + 1) L (vR (some (PK + ord ar 0)) :: st) h cs sl else none
  | .ldc_w _ => nx (i + 1) L (vI z :: st) h cs sl
  | .lconst _ => nx (i + 1) L (vL z :: st) h cs sl
  | .ldc2_w _ => nx (i + 1) L (vL z :: st) h cs sl
  | .iload_n j => (ld L 0 j).bind fun v => nx (i + 1) L (v :: st) h cs sl
  | .iload j => (ld L 0 j).bind fun v => nx (i + 1) L (v :: st) h cs sl
  | .lload_n j => (ld L 1 j).bind fun v => nx (i + 1) L (v :: st) h cs sl
  | .lload j => (ld L 1 j).bind fun v => nx (i + 1) L (v :: st) h cs sl
  | .aload_n j => (ld L 2 j).bind fun v => nx (i + 1) L (v :: st) h cs sl
  | .aload j => (ld L 2 j).bind fun v => nx (i + 1) L (v :: st) h cs sl
  | .istore_n j => match st with
    | .inl x :: r => if (j : Nat) < L.length then nx (i + 1) (lput L j (vI x)) r h cs sl else none
    | _ => none
  | .istore j => match st with
    | .inl x :: r => if j < L.length then nx (i + 1) (lput L j (vI x)) r h cs sl else none
    | _ => none
  | .lstore_n j => match st with
    | .inr (.inl x) :: r => if (j : Nat) + 1 < L.length then nx (i + 1) (lput2 L j (vL x)) r h cs sl else none
    | _ => none
  | .lstore j => match st with
    | .inr (.inl x) :: r => if j + 1 < L.length then nx (i + 1) (lput2 L j (vL x)) r h cs sl else none
    | _ => none
  | .astore_n j => match st with
    | .inr (.inr (some x)) :: r => if (j : Nat) < L.length then nx (i + 1) (lput L j (vR (some x))) r h cs sl else none
    | _ => none
  | .astore j => match st with
    | .inr (.inr (some x)) :: r => if j < L.length then nx (i + 1) (lput L j (vR (some x))) r h cs sl else none
    | _ => none
  | .iinc j n => match lget L j with
    | some (.inl x) => nx (i + 1) (lput L j (vI (x + n))) st h cs sl
    | _ => none
  | .iadd => (i2 st fun x y => some (vI (x + y))).bind fun s => nx (i + 1) L s h cs sl
  | .isub => (i2 st fun x y => some (vI (x - y))).bind fun s => nx (i + 1) L s h cs sl
  | .imul => (i2 st fun x y => some (vI (x * y))).bind fun s => nx (i + 1) L s h cs sl
  | .idiv => (i2 st fun x y => if Int32.ofInt y = 0 then none else some (vI (iDiv x y))).bind fun s => nx (i + 1) L s h cs sl
  | .irem => (i2 st fun x y => if Int32.ofInt y = 0 then none else some (vI (iRem x y))).bind fun s => nx (i + 1) L s h cs sl
  | .iand => (i2 st fun x y => some (vI (iAnd x y))).bind fun s => nx (i + 1) L s h cs sl
  | .ior => (i2 st fun x y => some (vI (iOr x y))).bind fun s => nx (i + 1) L s h cs sl
  | .ixor => (i2 st fun x y => some (vI (iXor x y))).bind fun s => nx (i + 1) L s h cs sl
  | .ishl => (i2 st fun x y => some (vI (iShl x y))).bind fun s => nx (i + 1) L s h cs sl
  | .ishr => (i2 st fun x y => some (vI (iShr x y))).bind fun s => nx (i + 1) L s h cs sl
  | .iushr => (i2 st fun x y => some (vI (iUshr x y))).bind fun s => nx (i + 1) L s h cs sl
  | .ladd => (l2 st fun x y => some (vL (x + y))).bind fun s => nx (i + 1) L s h cs sl
  | .lsub => (l2 st fun x y => some (vL (x - y))).bind fun s => nx (i + 1) L s h cs sl
  | .lmul => (l2 st fun x y => some (vL (x * y))).bind fun s => nx (i + 1) L s h cs sl
  | .lor => (l2 st fun x y => some (vL (lOr x y))).bind fun s => nx (i + 1) L s h cs sl
  | .lshl => (li2 st fun x y => some (vL (lShl x y))).bind fun s => nx (i + 1) L s h cs sl
  | .lshr => (li2 st fun x y => some (vL (lShr x y))).bind fun s => nx (i + 1) L s h cs sl
  | .lcmp => (l2 st fun x y => some (vI (lCmp x y))).bind fun s => nx (i + 1) L s h cs sl
  | .ineg => match st with
    | .inl x :: r => nx (i + 1) L (vI (-x) :: r) h cs sl
    | _ => none
  | .i2l => match st with
    | .inl x :: r => nx (i + 1) L (vL (iI2l x) :: r) h cs sl
    | _ => none
  | .l2i => match st with
    | .inr (.inl x) :: r => nx (i + 1) L (vI (iL2i x) :: r) h cs sl
    | _ => none
  | .dup => match st with
    | .inl x :: r => nx (i + 1) L (vI x :: vI x :: r) h cs sl
    | .inr (.inr (some x)) :: r => nx (i + 1) L (vR (some x) :: vR (some x) :: r) h cs sl
    | _ => none
  | .dup2 => match st with
    | .inl x :: .inr (.inr (some y)) :: r => nx (i + 1) L (vI x :: vR (some y) :: vI x :: vR (some y) :: r) h cs sl
    | _ => none
  | .pop => match st with
    | .inl _ :: r => nx (i + 1) L r h cs sl
    | _ => none
  | .goto _ => nx (ord ar 0) L st h cs sl
  | .ifCond cd _ => match st with
    | .inl x :: r => nx (if iCmp cd x 0 = true then ord ar 0 else i + 1) L r h cs sl
    | _ => none
  | .if_icmp cd _ => match st with
    | .inl y :: .inl x :: r => nx (if iCmp cd x y = true then ord ar 0 else i + 1) L r h cs sl
    | _ => none
  | .tableswitch _ lo hi _ => match st with
    | .inl x :: r => nx (if (Int32.ofInt x).toInt < lo ∨ hi < (Int32.ofInt x).toInt then ord ar 0 else ord ar (1 + ((Int32.ofInt x).toInt - lo).toNat)) L r h cs sl
    | _ => none
  | .lookupswitch _ ps => match st with
    | .inl x :: r => nx (match ps.toList.findIdx? (fun p => p.1 == (Int32.ofInt x).toInt) with
      | some k => ord ar (k + 1)
      | none => ord ar 0) L r h cs sl
    | _ => none
  | .getfield _ => match st with
    | .inr (.inr (some c)) :: r => (hObj h c (ord ar 0)).bind fun fs => match fs[ord ar 1]? with
      | some v => nx (i + 1) L (v :: r) h cs sl
      | none => none
    | _ => none
  | .putfield _ => match st with
    | v :: .inr (.inr (some c)) :: r => (hObj h c (ord ar 0)).bind fun fs => if ord ar 1 < fs.length ∧ fitF (ord ar 2) v = true then nx (i + 1) L r (h.set c (.inr (ord ar 0, fs.set (ord ar 1) v))) cs sl else none
    | _ => none
  | .getstatic _ => if 11 ≤ ord ar 0 ∧ ord ar 0 < 14 then nx (i + 1) L (vR (some (PK + ord ar 0)) :: st) h cs sl else none
  | .iaload => match st with
    | .inl j :: .inr (.inr (some c)) :: r => (xInt X h c).bind fun a => (at2 a.1 a.2 j).bind fun x => nx (i + 1) L (vI x :: r) h cs sl
    | _ => none
  | .baload => match st with
    | .inl j :: .inr (.inr (some c)) :: r => (hInt .boolean h c).bind fun a => (at2 a.1 a.2 j).bind fun x => nx (i + 1) L (vI x :: r) h cs sl
    | _ => none
  | .laload => match st with
    | .inl j :: .inr (.inr (some c)) :: r => (hLong h c).bind fun a => (at2 a.1 a.2 j).bind fun x => nx (i + 1) L (vL x :: r) h cs sl
    | _ => none
  | .aaload => match st with
    | .inl j :: .inr (.inr (some c)) :: r => (hRef h c).bind fun a => if 0 ≤ j ∧ j < a.2.1 ∧ a.1 = .object ((vwCl.getD (ord ar 0) (RX0, TX0, 7)).1) then nx (i + 1) L (vR (a.2.2 j.toNat) :: r) h cs sl else none
    | _ => none
  | .iastore => match st with
    | .inl x :: .inl j :: .inr (.inr (some c)) :: r => (hInt .int h c).bind fun a => if 0 ≤ j ∧ j < a.1 then nx (i + 1) L r (h.set c (.inl (.int, a.1, .inl (up a.2 j.toNat x)))) cs sl else none
    | _ => none
  | .bastore => match st with
    | .inl x :: .inl j :: .inr (.inr (some c)) :: r => (hInt .boolean h c).bind fun a => if 0 ≤ j ∧ j < a.1 ∧ (x = 0 ∨ x = 1) then nx (i + 1) L r (h.set c (.inl (.boolean, a.1, .inl (up a.2 j.toNat x)))) cs sl else none
    | _ => none
  | .lastore => match st with
    | .inr (.inl x) :: .inl j :: .inr (.inr (some c)) :: r => (hLong h c).bind fun a => if 0 ≤ j ∧ j < a.1 then nx (i + 1) L r (h.set c (.inl (.long, a.1, .inr (.inl (up a.2 j.toNat x))))) cs sl else none
    | _ => none
  | .aastore => match st with
    | .inr (.inr (some v)) :: .inl j :: .inr (.inr (some c)) :: r => (hRef h c).bind fun a => if 0 ≤ j ∧ j < a.2.1 ∧ (hObj h v (ord ar 0)).isSome = true ∧ a.1 = .object ((vwCl.getD (ord ar 0) (RX0, TX0, 7)).1) ∧ ord ar 0 < 12 then nx (i + 1) L r (h.set c (.inl (a.1, a.2.1, .inr (.inr (up a.2.2 j.toNat (some v)))))) cs sl else none
    | _ => none
  | .arraylength => match st with
    | .inr (.inr (some c)) :: r => (xInt X h c).bind fun a => nx (i + 1) L (vI a.1 :: r) h cs sl
    | _ => none
  | .newarray at_ => match st with
    | .inl n :: r => if 0 ≤ n ∧ n ≤ 100000 ∧ h.length < PK then (match at_ with
      | .int => nx (i + 1) L (vR (some h.length) :: r) (h ++ [.inl (.int, n.toNat, .inl fun _ => 0)]) (cs + 1) (sl + n.toNat)
      | .boolean => nx (i + 1) L (vR (some h.length) :: r) (h ++ [.inl (.boolean, n.toNat, .inl fun _ => 0)]) (cs + 1) (sl + n.toNat)
      | .long => nx (i + 1) L (vR (some h.length) :: r) (h ++ [.inl (.long, n.toNat, .inr (.inl fun _ => 0))]) (cs + 1) (sl + n.toNat)
      | _ => none) else none
    | _ => none
  | .anewarray _ => match st with
    | .inl n :: r => if 0 ≤ n ∧ n ≤ 100000 ∧ h.length < PK ∧ ord ar 0 < 12 then nx (i + 1) L (vR (some h.length) :: r) (h ++ [.inl (.object ((vwCl.getD (ord ar 0) (RX0, TX0, 7)).1), n.toNat, .inr (.inr fun _ => none))]) (cs + 1) (sl + n.toNat) else none
    | _ => none
  | .new _ => if h.length < PK then nx (i + 1) L (vR (some h.length) :: st) (h ++ [.inr (ord ar 0, fdef (ar.drop 1))]) (cs + 1) (sl + (ar.drop 1).length) else none
  | .ireturn => match st with
    | [.inl x] => if cs = ord ar 1 ∧ sl = ord ar 2 ∧ (ord ar 0 = 0 ∨ x = 0 ∨ x = 1) then some (.inr (.inl (some (vI x)))) else none
    | _ => none
  | .lreturn => match st with
    | [.inr (.inl x)] => if cs = ord ar 1 ∧ sl = ord ar 2 then some (.inr (.inl (some (vL x)))) else none
    | _ => none
  | .return_ => match st with
    | [] => if cs = ord ar 1 ∧ sl = ord ar 2 then some (.inr (.inl none)) else none
    | _ => none
  | .invokevirtual _ => if ord ar 0 = 902 then (match st with
      | .inr (.inr (some c)) :: r => if PK ≤ c ∧ c < PK + 11 ∧ catS r ≤ 8 then nx (i + 1) L (vI (X (c - PK)).1 :: r) h cs sl else none
      | _ => none)
    else if ord ar 0 = 903 then (match st with
      | .inl j :: .inr (.inr (some c)) :: r => if PK ≤ c ∧ c < PK + 11 ∧ catS r ≤ 8 then (at2 (X (c - PK)).1 (X (c - PK)).2 j).bind fun x => nx (i + 1) L (vI x :: r) h cs sl else none
      | _ => none)
    else match st.drop (ord ar 1) with
      | .inr (.inr (some c)) :: r => if (hObj h c (ord ar 2)).isSome = true ∧ catS r ≤ 8 then some (.inr (.inr (ord ar 0, vR (some c) :: (st.take (ord ar 1)).reverse, r))) else none
      | _ => none
  | .invokespecial _ => match st.drop (ord ar 1) with
    | .inr (.inr (some c)) :: r => if ord ar 0 = 900 then (if catS r ≤ 8 ∧ ord ar 1 = 0 then nx (i + 1) L r h cs sl else none) else if catS r ≤ 8 then some (.inr (.inr (ord ar 0, vR (some c) :: (st.take (ord ar 1)).reverse, r))) else none
    | _ => none
  | .invokestatic _ => if ord ar 0 = 901 then (match st with
      | .inl n :: .inl dp :: .inr (.inr (some d)) :: .inl sp :: .inr (.inr (some s)) :: r => (hInt .int h s).bind fun a => (hInt .int h d).bind fun b =>
        if 0 ≤ sp ∧ 0 ≤ dp ∧ 0 ≤ n ∧ sp + n ≤ a.1 ∧ dp + n ≤ b.1 ∧ a.1 ≤ 100000 ∧ b.1 ≤ 100000 ∧ catS r ≤ 8 then nx (i + 1) L r (h.set d (.inl (.int, b.1, .inl (cpy a.2 b.2 sp.toNat dp.toNat n.toNat)))) cs sl else none
      | _ => none)
    else if ord ar 0 = 904 then (match st with
      | .inl y :: .inl x :: r => if catS r ≤ 8 then nx (i + 1) L (vI (if Int32.ofInt x < Int32.ofInt y then y else x) :: r) h cs sl else none
      | _ => none)
    else if ord ar 0 = 905 then (match st with
      | .inl y :: .inl x :: r => if catS r ≤ 8 then nx (i + 1) L (vI (if Int32.ofInt y < Int32.ofInt x then y else x) :: r) h cs sl else none
      | _ => none)
    else if ord ar 0 = 906 then (match st with
      | .inl x :: r => if catS r ≤ 8 then nx (i + 1) L (vI (if Int32.ofInt x < 0 then -x else x) :: r) h cs sl else none
      | _ => none)
    else if ord ar 1 ≤ st.length ∧ catS (st.drop (ord ar 1)) ≤ 8 then some (.inr (.inr (ord ar 0, (st.take (ord ar 1)).reverse, st.drop (ord ar 1)))) else none
  | _ => none
/-- the locals at a method's entry: a long takes two -/
def pargs : List PV → PL
  | [] => []
  | .inr (.inl x) :: r => some (vL x) :: none :: pargs r
  | v :: r => some v :: pargs r
def pent (mL : Nat) (as : List PV) : PL := pargs as ++ List.replicate (mL - (pargs as).length) none
/-- a run: fuel, the code of each method with its number of locals, its made cells and slots -/
def run (X : PX) (cd : Nat → List PEn) (mi : Nat → Nat × Nat × Nat) : Nat → Nat → PC → Option (Option PV × PHp)
  | 0, _, _ => none
  | n + 1, k, c => match (cd k)[c.1]? with
    | none => none
    | some e => match stp X e c with
      | none => none
      | some (.inl d) => if d.2.2.2.2.1 ≤ (mi k).2.1 ∧ d.2.2.2.2.2 ≤ (mi k).2.2 then run X cd mi n k d else none
      | some (.inr (.inl v)) => some (v, c.2.2.2.1)
      | some (.inr (.inr (k2, as, r))) => if c.2.2.2.2.1 + (mi k2).2.1 ≤ (mi k).2.1 ∧ c.2.2.2.2.2 + (mi k2).2.2 ≤ (mi k).2.2 ∧ (pargs as).length ≤ (mi k2).1 then (match run X cd mi n k2 (0, pent (mi k2).1 as, [], c.2.2.2.1, 0, 0) with
        | none => none
        | some (v, h) => run X cd mi n k (c.1 + 1, c.2.1, v.toList ++ r, h, c.2.2.2.2.1 + (mi k2).2.1, c.2.2.2.2.2 + (mi k2).2.2)) else none
end
section
/-! TABLES (printed by wip/whole/emit_tables.py): methods, code, links -/
abbrev MT : Type := MethodName × ByteArray × Nat × Option FieldType × Nat × Nat × Nat × Nat × Nat
def mTs_0 : List MT := [(yX0_init, cX0_init, 2, none, 0, 1, 25, 1, 7), (yX0_run, cX0_run, 6, (some .int), 0, 5, 112, 0, 0), (yX0_note, cX0_note, 4, none, 0, 1, 25, 0, 0), (yX0_mostFrequentBuyer, cX0_mostFrequentBuyer, 3, (some .int), 0, 0, 0, 0, 0), (yX1_fewestSeeds, cX1_fewestSeeds, 4, (some .int), 1, 1, 27, 0, 0), (yX1_fewestCuts, cX1_fewestCuts, 5, (some .int), 1, 1, 27, 0, 0), (yX1_exemptCases, cX1_exemptCases, 5, (some .int), 1, 1, 27, 0, 0), (yX1_setsOf, cX1_setsOf, 4, (some .int), 1, 1, 20, 0, 0), (yX1_retinueSize, cX1_retinueSize, 2, (some .int), 1, 1, 27, 0, 0), (yX1_chiefOf, cX1_chiefOf, 5, (some .int), 1, 2, 48, 0, 0), (yX1_keysOf, cX1_keysOf, 4, (some .int), 1, 1, 27, 0, 0), (yX1_idleOf, cX1_idleOf, 4, (some .int), 1, 1, 27, 0, 0), (yX1_ringedOf, cX1_ringedOf, 3, (some .int), 1, 1, 25, 0, 0), (yX1_aboveByTies, cX1_aboveByTies, 6, (some .int), 1, 0, 0, 0, 0), (yX1_loneOf, cX1_loneOf, 3, (some .int), 1, 1, 20, 0, 0), (yX1_rankOf, cX1_rankOf, 4, (some .int), 1, 1, 23, 0, 0), (yX1_deepestOf, cX1_deepestOf, 3, (some .int), 1, 2, 46, 0, 0), (yX2_init, cX2_init, 2, none, 2, 1, 25, 2, 11), (yX2_rushOf, cX2_rushOf, 7, none, 2, 4, 102, 0, 0), (yX2_isDriven, cX2_isDriven, 3, (some .boolean), 2, 1, 21, 0, 0), (yX2_noteBuyer, cX2_noteBuyer, 2, none, 2, 0, 0, 0, 0), (yX2_buyer, cX2_buyer, 2, (some .int), 2, 0, 0, 0, 0), (yX2_findSale, cX2_findSale, 4, none, 2, 5, 128, 0, 0), (yX2_margin, cX2_margin, 6, (some .int), 2, 5, 130, 0, 0), (yX2_opening, cX2_opening, 6, (some .int), 2, 5, 130, 0, 0), (yX2_fillMargins, cX2_fillMargins, 5, none, 2, 4, 102, 0, 0), (yX2_goodsOf, cX2_goodsOf, 2, (some .int), 2, 1, 21, 0, 0), (yX2_takeTurn, cX2_takeTurn, 9, none, 2, 4, 102, 0, 0), (yX3_init, cX3_init, 1, none, 3, 2, 45, 10, 82), (yX3_begin, cX3_begin, 2, none, 3, 3, 81, 0, 0), (yX3_assess, cX3_assess, 1, none, 3, 2, 49, 0, 0), (yX3_isExempt, cX3_isExempt, 2, (some .boolean), 3, 0, 0, 0, 0), (yX3_act, cX3_act, 3, (some .boolean), 3, 4, 90, 0, 0), (yX3_collect, cX3_collect, 5, (some .boolean), 3, 2, 49, 0, 0), (yX3_canBuy, cX3_canBuy, 2, (some .boolean), 3, 1, 21, 0, 0), (yX3_buyOffice, cX3_buyOffice, 2, (some .boolean), 3, 3, 69, 0, 0), (yX3_loseOffice, cX3_loseOffice, 2, (some .boolean), 3, 3, 69, 0, 0), (yX3_changeQuota, cX3_changeQuota, 2, (some .boolean), 3, 3, 69, 0, 0), (yX3_changePrice, cX3_changePrice, 2, (some .boolean), 3, 0, 0, 0, 0), (yX3_cutRule, cX3_cutRule, 2, (some .boolean), 3, 3, 69, 0, 0)]
def mTs_1 : List MT := [(yX3_detail, cX3_detail, 2, (some .int), 3, 1, 21, 0, 0), (yX4_init, cX4_init, 1, none, 4, 2, 45, 6, 401), (yX4_find, cX4_find, 4, none, 4, 2, 49, 0, 0), (yX4_isAsLogged, cX4_isAsLogged, 4, (some .boolean), 4, 1, 21, 0, 0), (yX4_packedTaxes, cX4_packedTaxes, 4, (some .long), 4, 1, 21, 0, 0), (yX4_fittingSet, cX4_fittingSet, 2, (some .int), 4, 0, 0, 0, 0), (yX4_holding, cX4_holding, 4, (some .int), 4, 0, 0, 0, 0), (yX4_sureOf, cX4_sureOf, 3, (some .int), 4, 1, 23, 0, 0), (yX4_bestQuestion, cX4_bestQuestion, 5, (some .int), 4, 2, 49, 0, 0), (yX4_leftAtWorst, cX4_leftAtWorst, 5, (some .int), 4, 1, 25, 0, 0), (yX4_fewestHouses, cX4_fewestHouses, 4, (some .int), 4, 1, 25, 0, 0), (yX4_mostHouses, cX4_mostHouses, 3, (some .int), 4, 1, 25, 0, 0), (yX4_alikeCouples, cX4_alikeCouples, 4, (some .int), 4, 0, 0, 0, 0), (yX5_init, cX5_init, 1, none, 5, 1, 25, 2, 14), (yX5_taxOf, cX5_taxOf, 2, (some .int), 5, 0, 0, 0, 0), (yX5_share, cX5_share, 8, none, 5, 1, 22, 0, 0), (yX5_giveOneMore, cX5_giveOneMore, 3, none, 5, 0, 0, 0, 0), (yX6_init, cX6_init, 2, none, 6, 1, 25, 0, 0), (yX6_goYears, cX6_goYears, 4, none, 6, 4, 102, 0, 0), (yX6_ruinYear, cX6_ruinYear, 5, (some .int), 6, 4, 102, 0, 0), (yX6_topQuota, cX6_topQuota, 4, (some .int), 6, 5, 126, 0, 0), (yX6_passedYear, cX6_passedYear, 4, (some .int), 6, 4, 102, 0, 0), (yX6_levelYear, cX6_levelYear, 3, (some .int), 6, 4, 102, 0, 0), (yX6_spreadOf, cX6_spreadOf, 6, (some .int), 6, 4, 102, 0, 0), (yX6_unevenOf, cX6_unevenOf, 5, (some .int), 6, 4, 102, 0, 0), (yX6_mostBurdened, cX6_mostBurdened, 5, (some .int), 6, 4, 102, 0, 0), (yX6_fallOf, cX6_fallOf, 9, (some .int), 6, 2, 49, 0, 0), (yX6_harmOf, cX6_harmOf, 5, (some .int), 6, 4, 102, 0, 0), (yX6_strongest, cX6_strongest, 9, (some .int), 6, 5, 126, 0, 0), (yX6_beginDrawing, cX6_beginDrawing, 3, none, 6, 4, 102, 0, 0), (yX6_drawDeed, cX6_drawDeed, 2, none, 6, 5, 112, 0, 0), (yX6_draw, cX6_draw, 2, (some .int), 6, 0, 0, 0, 0), (yX7_init, cX7_init, 1, none, 7, 1, 25, 2, 80), (yX7_has, cX7_has, 2, (some .boolean), 7, 0, 0, 0, 0), (yX7_add, cX7_add, 3, none, 7, 0, 0, 0, 0), (yX7_detail, cX7_detail, 3, (some .int), 7, 1, 21, 0, 0), (yX7_copyFrom, cX7_copyFrom, 2, none, 7, 1, 60, 0, 0), (yX8_init, cX8_init, 1, none, 8, 1, 25, 6, 54), (yX8_clear, cX8_clear, 1, none, 8, 0, 0, 0, 0), (yX8_copyFrom, cX8_copyFrom, 2, none, 8, 1, 60, 0, 0)]
def mTs_2 : List MT := [(yX8_addHouse, cX8_addHouse, 3, none, 8, 0, 0, 0, 0), (yX8_addRule, cX8_addRule, 4, none, 8, 0, 0, 0, 0), (yX8_hasHouse, cX8_hasHouse, 2, (some .boolean), 8, 0, 0, 0, 0), (yX8_hasRule, cX8_hasRule, 2, (some .boolean), 8, 0, 0, 0, 0), (yX8_everyHouse, cX8_everyHouse, 1, (some .int), 8, 0, 0, 0, 0), (yX8_ruleDetail, cX8_ruleDetail, 3, (some .int), 8, 1, 21, 0, 0), (yX8_exemptBy, cX8_exemptBy, 8, (some .int), 8, 0, 0, 0, 0), (yX8_oneStepFrom, cX8_oneStepFrom, 4, (some .int), 8, 0, 0, 0, 0), (yX8_goodsTogether, cX8_goodsTogether, 3, (some .int), 8, 0, 0, 0, 0), (yX8_richest, cX8_richest, 3, (some .int), 8, 0, 0, 0, 0), (yX8_poorest, cX8_poorest, 3, (some .int), 8, 0, 0, 0, 0), (yX9_init, cX9_init, 2, none, 9, 2, 45, 14, 234), (yX9_read, cX9_read, 3, none, 9, 8, 186, 0, 0), (yX9_readLine, cX9_readLine, 4, none, 9, 7, 163, 0, 0), (yX9_keepLine, cX9_keepLine, 3, none, 9, 2, 44, 0, 0), (yX9_keepParishLine, cX9_keepParishLine, 2, none, 9, 1, 23, 0, 0), (yX9_isFull, cX9_isFull, 3, (some .boolean), 9, 1, 22, 0, 0), (yX9_isRule, cX9_isRule, 3, (some .boolean), 9, 0, 0, 0, 0), (yX9_isRepeated, cX9_isRepeated, 3, (some .boolean), 9, 0, 0, 0, 0), (yX9_limitOf, cX9_limitOf, 6, (some .int), 9, 0, 0, 0, 0), (yX9_lineOf, cX9_lineOf, 2, (some .int), 9, 6, 142, 0, 0), (yX9_parishLine, cX9_parishLine, 1, (some .int), 9, 5, 122, 0, 0), (yX9_yearsLine, cX9_yearsLine, 1, (some .int), 9, 5, 122, 0, 0), (yX9_spells, cX9_spells, 3, (some .boolean), 9, 4, 100, 0, 0), (yX9_breakOff, cX9_breakOff, 1, none, 9, 0, 0, 0, 0), (yX9_noteFault, cX9_noteFault, 3, none, 9, 0, 0, 0, 0), (yX9_nextToken, cX9_nextToken, 3, none, 9, 2, 43, 0, 0), (yX9_readDigits, cX9_readDigits, 3, (some .int), 9, 1, 21, 0, 0), (yX9_isBlank, cX9_isBlank, 1, (some .boolean), 9, 0, 0, 0, 0), (yX9_isLetter, cX9_isLetter, 1, (some .boolean), 9, 0, 0, 0, 0), (yX9_isDigit, cX9_isDigit, 1, (some .boolean), 9, 0, 0, 0, 0), (yX10_init, cX10_init, 2, none, 10, 2, 45, 31, 1071), (yX10_append, cX10_append, 3, none, 10, 0, 0, 0, 0), (yX10_byteAt, cX10_byteAt, 2, (some .int), 10, 0, 0, 0, 0), (yX10_has, cX10_has, 3, (some .boolean), 10, 0, 0, 0, 0), (yX10_hasHouse, cX10_hasHouse, 3, (some .boolean), 10, 1, 22, 0, 0), (yX10_slotFor, cX10_slotFor, 3, (some .int), 10, 1, 22, 0, 0), (yX10_growTo, cX10_growTo, 3, none, 10, 0, 0, 0, 0), (yX10_copyFrom, cX10_copyFrom, 3, none, 10, 2, 81, 0, 0), (yX11_init, cX11_init, 2, none, 11, 3, 66, 169, 5102)]
def mTs_3 : List MT := [(yX11_feed, cX11_feed, 6, (some .int), 11, 1, 22, 0, 0), (yX11_end, cX11_end, 2, (some .int), 11, 0, 0, 0, 0), (yX11_text, cX11_text, 4, (some .int), 11, 9, 208, 0, 0), (yX11_keepText, cX11_keepText, 3, none, 11, 2, 81, 0, 0), (yX11_fault, cX11_fault, 2, (some .int), 11, 0, 0, 0, 0), (yX11_count, cX11_count, 2, (some .int), 11, 0, 0, 0, 0), (yX11_image, cX11_image, 2, (some .boolean), 11, 3, 103, 0, 0), (yX11_again, cX11_again, 2, (some .boolean), 11, 3, 103, 0, 0), (yX11_parish, cX11_parish, 4, (some .int), 11, 4, 102, 0, 0), (yX11_houseDetail, cX11_houseDetail, 4, (some .int), 11, 1, 21, 0, 0), (yX11_deed, cX11_deed, 4, (some .int), 11, 2, 43, 0, 0), (yX11_fact, cX11_fact, 4, (some .int), 11, 2, 43, 0, 0), (yX11_stop, cX11_stop, 4, (some .int), 11, 6, 137, 0, 0), (yX11_state, cX11_state, 6, (some .int), 11, 6, 137, 0, 0), (yX11_after, cX11_after, 5, (some .int), 11, 6, 137, 0, 0), (yX11_drawn, cX11_drawn, 6, (some .int), 11, 6, 133, 0, 0), (yX11_rush, cX11_rush, 5, (some .int), 11, 5, 128, 0, 0), (yX11_sale, cX11_sale, 4, (some .int), 11, 6, 151, 0, 0), (yX11_strife, cX11_strife, 7, (some .int), 11, 6, 155, 0, 0), (yX11_seeds, cX11_seeds, 4, (some .int), 11, 2, 50, 0, 0), (yX11_cuts, cX11_cuts, 7, (some .int), 11, 2, 51, 0, 0), (yX11_lot, cX11_lot, 6, (some .int), 11, 2, 51, 0, 0), (yX11_spared, cX11_spared, 5, (some .int), 11, 2, 51, 0, 0), (yX11_retinue, cX11_retinue, 3, (some .int), 11, 2, 44, 0, 0), (yX11_chief, cX11_chief, 4, (some .int), 11, 3, 72, 0, 0), (yX11_rank, cX11_rank, 3, (some .int), 11, 2, 46, 0, 0), (yX11_burden, cX11_burden, 5, (some .int), 11, 5, 126, 0, 0), (yX11_falls, cX11_falls, 4, (some .int), 11, 3, 77, 0, 0), (yX11_harm, cX11_harm, 4, (some .int), 11, 5, 126, 0, 0), (yX11_foe, cX11_foe, 7, (some .int), 11, 6, 154, 0, 0), (yX11_ruin, cX11_ruin, 5, (some .int), 11, 5, 126, 0, 0), (yX11_bid, cX11_bid, 3, (some .int), 11, 5, 125, 0, 0), (yX11_top, cX11_top, 3, (some .int), 11, 6, 149, 0, 0), (yX11_behind, cX11_behind, 5, (some .int), 11, 5, 125, 0, 0), (yX11_passed, cX11_passed, 4, (some .int), 11, 5, 127, 0, 0), (yX11_fits, cX11_fits, 5, (some .int), 11, 3, 73, 0, 0), (yX11_odds, cX11_odds, 5, (some .int), 11, 3, 72, 0, 0), (yX11_fewest, cX11_fewest, 4, (some .int), 11, 3, 72, 0, 0), (yX11_leastTerm, cX11_leastTerm, 4, (some .int), 11, 1, 25, 0, 0), (yX11_greatestCommon, cX11_greatestCommon, 6, (some .int), 11, 0, 0, 0, 0)]
def mTs_4 : List MT := [(yX12_init, cX12_init, 1, none, 12, 1, 25, 14, 4844), (yX12_isIn, cX12_isIn, 3, (some .boolean), 12, 0, 0, 0, 0), (yX12_feed, cX12_feed, 8, (some .int), 12, 0, 0, 0, 0), (yX12_end, cX12_end, 2, (some .int), 12, 0, 0, 0, 0), (yX12_byteAt, cX12_byteAt, 2, (some .int), 12, 0, 0, 0, 0), (yX12_isLetter, cX12_isLetter, 1, (some .boolean), 12, 0, 0, 0, 0), (yX12_isDigit, cX12_isDigit, 1, (some .boolean), 12, 0, 0, 0, 0), (yX12_four, cX12_four, 4, (some .long), 12, 0, 0, 0, 0), (yX12_eight, cX12_eight, 8, (some .long), 12, 1, 23, 0, 0), (yX12_wordOf, cX12_wordOf, 2, (some .int), 12, 2, 50, 0, 0), (yX12_advance, cX12_advance, 4, none, 12, 3, 71, 0, 0), (yX12_ends, cX12_ends, 1, none, 12, 0, 0, 0, 0), (yX12_also, cX12_also, 3, none, 12, 0, 0, 0, 0), (yX12_numbered, cX12_numbered, 4, (some .int), 12, 4, 94, 0, 0), (yX12_wordIn, cX12_wordIn, 4, (some .int), 12, 4, 94, 0, 0), (yX12_endsLine, cX12_endsLine, 1, none, 12, 4, 94, 0, 0), (yX12_houseTold, cX12_houseTold, 2, (some .int), 12, 5, 117, 0, 0), (yX12_patronTold, cX12_patronTold, 3, (some .int), 12, 6, 138, 0, 0), (yX12_houseLine, cX12_houseLine, 4, none, 12, 5, 117, 0, 0), (yX12_ruleTold, cX12_ruleTold, 7, none, 12, 7, 160, 0, 0), (yX12_parishLine, cX12_parishLine, 3, none, 12, 8, 186, 0, 0), (yX12_deedOf, cX12_deedOf, 1, (some .int), 12, 0, 0, 0, 0), (yX12_yearsLine, cX12_yearsLine, 4, none, 12, 5, 117, 0, 0), (yX12_logLine, cX12_logLine, 4, none, 12, 5, 117, 0, 0), (yX12_placeOf, cX12_placeOf, 2, (some .int), 12, 0, 0, 0, 0), (yX12_sizeOf, cX12_sizeOf, 1, (some .int), 12, 0, 0, 0, 0), (yX12_isOf, cX12_isOf, 3, (some .boolean), 12, 1, 22, 0, 0), (yX12_text, cX12_text, 5, (some .int), 12, 9, 208, 0, 0), (yX12_fault, cX12_fault, 2, (some .int), 12, 0, 0, 0, 0), (yX12_isParish, cX12_isParish, 2, (some .boolean), 12, 5, 113, 0, 0), (yX12_isHouse, cX12_isHouse, 2, (some .boolean), 12, 1, 22, 0, 0), (yX12_everyHouse, cX12_everyHouse, 1, (some .int), 12, 0, 0, 0, 0), (yX12_goodsTold, cX12_goodsTold, 2, (some .int), 12, 0, 0, 0, 0), (yX12_yieldOf, cX12_yieldOf, 2, (some .int), 12, 0, 0, 0, 0), (yX12_ruleAt, cX12_ruleAt, 3, (some .int), 12, 0, 0, 0, 0), (yX12_bitsOf, cX12_bitsOf, 3, (some .int), 12, 0, 0, 0, 0), (yX12_ruleHolds, cX12_ruleHolds, 3, (some .boolean), 12, 1, 22, 0, 0), (yX12_exemptBy, cX12_exemptBy, 5, (some .int), 12, 2, 44, 0, 0), (yX12_isExempt, cX12_isExempt, 2, (some .boolean), 12, 0, 0, 0, 0), (yX12_shares, cX12_shares, 5, none, 12, 3, 68, 0, 0)]
def mTs_5 : List MT := [(yX12_taxTogether, cX12_taxTogether, 3, (some .int), 12, 0, 0, 0, 0), (yX12_begins, cX12_begins, 2, none, 12, 4, 92, 0, 0), (yX12_goesYear, cX12_goesYear, 3, none, 12, 4, 92, 0, 0), (yX12_canBuy, cX12_canBuy, 2, (some .boolean), 12, 0, 0, 0, 0), (yX12_buysNow, cX12_buysNow, 2, none, 12, 4, 92, 0, 0), (yX12_parish, cX12_parish, 4, (some .int), 12, 6, 134, 0, 0), (yX12_rushes, cX12_rushes, 4, none, 12, 5, 113, 0, 0), (yX12_rush, cX12_rush, 4, (some .int), 12, 6, 136, 0, 0), (yX12_seeds, cX12_seeds, 5, (some .int), 12, 6, 134, 0, 0), (yX12_cutsOf, cX12_cutsOf, 4, (some .int), 12, 3, 68, 0, 0), (yX12_cuts, cX12_cuts, 5, (some .int), 12, 6, 134, 0, 0), (yX12_ruin, cX12_ruin, 3, (some .int), 12, 6, 134, 0, 0), (yX12_bid, cX12_bid, 3, (some .int), 12, 6, 134, 0, 0), (yX12_common, cX12_common, 5, (some .int), 12, 0, 0, 0, 0), (yX12_parted, cX12_parted, 3, (some .int), 12, 1, 24, 0, 0), (yX12_burden, cX12_burden, 5, (some .int), 12, 6, 134, 0, 0), (yX12_taxBy, cX12_taxBy, 3, (some .int), 12, 4, 92, 0, 0), (yX12_falls, cX12_falls, 7, (some .int), 12, 6, 134, 0, 0), (yX12_strifeBy, cX12_strifeBy, 7, (some .int), 12, 5, 114, 0, 0), (yX12_strife, cX12_strife, 13, (some .int), 12, 6, 140, 0, 0), (yX12_lot, cX12_lot, 8, (some .int), 12, 6, 134, 0, 0), (yX12_spared, cX12_spared, 7, (some .int), 12, 6, 134, 0, 0), (yX12_retinue, cX12_retinue, 3, (some .int), 12, 6, 134, 0, 0), (yX12_chiefOf, cX12_chiefOf, 3, (some .int), 12, 3, 68, 0, 0), (yX12_keysOf, cX12_keysOf, 3, (some .int), 12, 3, 68, 0, 0), (yX12_isIdle, cX12_isIdle, 5, (some .boolean), 12, 3, 68, 0, 0), (yX12_idleOf, cX12_idleOf, 3, (some .int), 12, 4, 92, 0, 0), (yX12_comesTo, cX12_comesTo, 5, (some .int), 12, 1, 22, 0, 0), (yX12_housesBy, cX12_housesBy, 6, (some .int), 12, 2, 46, 0, 0), (yX12_rankBy, cX12_rankBy, 4, (some .int), 12, 1, 22, 0, 0), (yX12_laysRanks, cX12_laysRanks, 5, none, 12, 2, 45, 0, 0), (yX12_chief, cX12_chief, 5, (some .int), 12, 6, 134, 0, 0), (yX12_rank, cX12_rank, 3, (some .int), 12, 6, 134, 0, 0), (yX12_harmOf, cX12_harmOf, 4, (some .int), 12, 5, 113, 0, 0), (yX12_harm, cX12_harm, 4, (some .int), 12, 6, 136, 0, 0), (yX12_foe, cX12_foe, 8, (some .int), 12, 6, 136, 0, 0), (yX12_buyersBy, cX12_buyersBy, 3, (some .int), 12, 6, 136, 0, 0), (yX12_sale, cX12_sale, 9, (some .int), 12, 7, 158, 0, 0), (yX12_isRuinedBy, cX12_isRuinedBy, 4, (some .boolean), 12, 5, 114, 0, 0), (yX12_top, cX12_top, 4, (some .int), 12, 6, 137, 0, 0)]
def mTs_6 : List MT := [(yX12_richestOf, cX12_richestOf, 3, (some .int), 12, 0, 0, 0, 0), (yX12_poorestOf, cX12_poorestOf, 3, (some .int), 12, 0, 0, 0, 0), (yX12_goodsTogether, cX12_goodsTogether, 3, (some .int), 12, 0, 0, 0, 0), (yX12_behind, cX12_behind, 4, (some .int), 12, 6, 134, 0, 0), (yX12_passedOf, cX12_passedOf, 2, (some .int), 12, 5, 114, 0, 0), (yX12_levelOf, cX12_levelOf, 4, (some .int), 12, 5, 114, 0, 0), (yX12_spreadOf, cX12_spreadOf, 4, (some .int), 12, 1, 21, 0, 0), (yX12_unevenOf, cX12_unevenOf, 4, (some .int), 12, 1, 21, 0, 0), (yX12_passed, cX12_passed, 3, (some .int), 12, 6, 137, 0, 0), (yX12_isYears, cX12_isYears, 2, (some .boolean), 12, 2, 44, 0, 0), (yX12_deed, cX12_deed, 4, (some .int), 12, 3, 65, 0, 0), (yX12_beginsYears, cX12_beginsYears, 2, none, 12, 1, 22, 0, 0), (yX12_goesOn, cX12_goesOn, 2, (some .boolean), 12, 5, 114, 0, 0), (yX12_buys, cX12_buys, 2, (some .boolean), 12, 5, 113, 0, 0), (yX12_loses, cX12_loses, 2, (some .boolean), 12, 2, 43, 0, 0), (yX12_sets, cX12_sets, 3, (some .boolean), 12, 0, 0, 0, 0), (yX12_cutsRule, cX12_cutsRule, 2, (some .boolean), 12, 0, 0, 0, 0), (yX12_does, cX12_does, 3, (some .boolean), 12, 6, 135, 0, 0), (yX12_doesOne, cX12_doesOne, 3, (some .boolean), 12, 7, 157, 0, 0), (yX12_runs, cX12_runs, 2, none, 12, 8, 179, 0, 0), (yX12_stop, cX12_stop, 3, (some .int), 12, 9, 200, 0, 0), (yX12_nowOf, cX12_nowOf, 3, (some .int), 12, 2, 43, 0, 0), (yX12_state, cX12_state, 5, (some .int), 12, 9, 200, 0, 0), (yX12_buyerOf, cX12_buyerOf, 3, (some .int), 12, 0, 0, 0, 0), (yX12_after, cX12_after, 4, (some .int), 12, 9, 200, 0, 0), (yX12_isLog, cX12_isLog, 2, (some .boolean), 12, 2, 44, 0, 0), (yX12_fact, cX12_fact, 4, (some .int), 12, 3, 65, 0, 0), (yX12_isSo, cX12_isSo, 4, (some .boolean), 12, 4, 92, 0, 0), (yX12_laysFits, cX12_laysFits, 3, none, 12, 5, 115, 0, 0), (yX12_likeTaxes, cX12_likeTaxes, 6, (some .int), 12, 0, 0, 0, 0), (yX12_askOf, cX12_askOf, 3, (some .int), 12, 1, 25, 0, 0), (yX12_sureOf, cX12_sureOf, 2, (some .int), 12, 2, 43, 0, 0), (yX12_fits, cX12_fits, 4, (some .int), 12, 6, 137, 0, 0), (yX12_odds, cX12_odds, 5, (some .int), 12, 6, 137, 0, 0), (yX12_alikeOf, cX12_alikeOf, 6, (some .int), 12, 0, 0, 0, 0), (yX12_fewOf, cX12_fewOf, 5, (some .int), 12, 1, 22, 0, 0), (yX12_fewest, cX12_fewest, 4, (some .int), 12, 6, 137, 0, 0), (yX12_below, cX12_below, 2, (some .int), 12, 0, 0, 0, 0), (yX12_draws, cX12_draws, 3, none, 12, 8, 179, 0, 0), (yX12_drawn, cX12_drawn, 6, (some .int), 12, 9, 201, 0, 0)]
def mTs_7 : List MT := [(yX12_count, cX12_count, 2, (some .int), 12, 1, 22, 0, 0), (yX12_image, cX12_image, 3, (some .boolean), 12, 1, 22, 0, 0), (yX12_again, cX12_again, 3, (some .boolean), 12, 1, 22, 0, 0), (yJ6_bitCount_0f7a4, cJ6_bitCount_0f7a4, 1, (some .int), 13, 0, 0, 0, 0), (yL_law, cL_law, 4, (some .boolean), 14, 13, 476, 185, 10002)]
def mTs : List MT := mTs_0 ++ mTs_1 ++ mTs_2 ++ mTs_3 ++ mTs_4 ++ mTs_5 ++ mTs_6 ++ mTs_7
def mt (k : Nat) : MT := mTs.getD k (yX0_init, cX0_init, 2, none, 0, 0, 0, 0, 0)
def mY (k : Nat) : MethodName := (mt k).1
def mC (k : Nat) : ByteArray := (mt k).2.1
def mL (k : Nat) : Nat := (mt k).2.2.1
def mR (k : Nat) : Option FieldType := (mt k).2.2.2.1
def mO (k : Nat) : Nat := (mt k).2.2.2.2.1
def mFr (k : Nat) : Nat := (mt k).2.2.2.2.2.1
def mLo (k : Nat) : Nat := (mt k).2.2.2.2.2.2.1
def mMc (k : Nat) : Nat := (mt k).2.2.2.2.2.2.2.1
def mMs (k : Nat) : Nat := (mt k).2.2.2.2.2.2.2.2
def mi (k : Nat) : Nat × Nat × Nat := (mL k, mMc k, mMs k)
def cNs : List String := ["QuotaParish$Annals", "QuotaParish$Bonds", "QuotaParish$Buying", "QuotaParish$Course", "QuotaParish$Fitting", "QuotaParish$Levy", "QuotaParish$Outlook", "QuotaParish$Pairs", "QuotaParish$Parish", "QuotaParish$Reader", "QuotaParish$Told", "QuotaParish", "QuotaParishModel", "java/lang/Integer", "QuotaParishLaw"]
def cN (o : Nat) : String := cNs.getD o ""
/-- X0_init -/
def cd_0 : List PEn := [(0, .aload_n 0, 1, [], 0), (1, .invokespecial 3, 3, [900, 0], 0), (4, .aload_n 0, 1, [], 0), (5, .bipush 7, 2, [], 7), (7, .newarray .int, 2, [], 0), (9, .putfield 9, 3, [0, 1, 2, 1], 0), (12, .aload_n 0, 1, [], 0), (13, .aload_n 1, 1, [], 0), (14, .putfield 15, 3, [0, 0, 2, 1], 0), (17, .return_, 1, [1, 1, 7], 0)]
/-- X0_run -/
def cd_1 : List PEn := [(0, .aload_n 0, 1, [], 0), (1, .getfield 15, 3, [0, 0], 0), (4, .aload_n 1, 1, [], 0), (5, .invokevirtual 19, 3, [29, 1, 2], 0), (8, .aload_n 0, 1, [], 0), (9, .iconst 0, 1, [], 0), (10, .putfield 25, 3, [0, 2, 0, 0], 0), (13, .aload_n 0, 1, [], 0), (14, .iconst (-1), 1, [], -1), (15, .putfield 29, 3, [0, 3, 0, 0], 0), (18, .aload_n 0, 1, [], 0), (19, .aload_n 0, 1, [], 0), (20, .getfield 15, 3, [0, 0], 0), (23, .getfield 32, 3, [2, 6], 0), (26, .invokestatic 35, 3, [283, 1], 0), (29, .putfield 41, 3, [0, 4, 0, 0], 0), (32, .aload_n 0, 1, [], 0), (33, .iconst (-1), 1, [], -1), (34, .putfield 44, 3, [0, 5, 0, 0], 0), (37, .aload_n 0, 1, [], 0), (38, .iconst 0, 1, [], 0), (39, .putfield 47, 3, [0, 6, 0, 0], 0), (42, .iconst 0, 1, [], 0), (43, .istore 4, 2, [], 0), (45, .iload 4, 2, [], 0), (47, .bipush 7, 2, [], 7), (49, .if_icmp .ge 17, 3, [34], 0), (52, .aload_n 0, 1, [], 0), (53, .getfield 9, 3, [0, 1], 0), (56, .iload 4, 2, [], 0), (58, .iconst 0, 1, [], 0), (59, .iastore, 1, [], 0), (60, .iinc 4 1, 3, [], 0), (63, .goto (-18), 3, [24], 0), (66, .iload_n 3, 1, [], 0), (67, .aload_n 2, 1, [], 0), (68, .getfield 50, 3, [6, 0], 0), (71, .bipush 40, 2, [], 40), (73, .invokestatic 55, 3, [905], 0), (76, .invokestatic 55, 3, [905], 0), (79, .istore 4, 2, [], 0), (81, .iconst 0, 1, [], 0), (82, .istore 5, 2, [], 0), (84, .iload 5, 2, [], 0), (86, .iload 4, 2, [], 0), (88, .if_icmp .ge 56, 3, [73], 0), (91, .aload_n 0, 1, [], 0), (92, .getfield 15, 3, [0, 0], 0), (95, .aload_n 2, 1, [], 0), (96, .getfield 61, 3, [6, 1], 0), (99, .iload 5, 2, [], 0), (101, .iaload, 1, [], 0), (102, .aload_n 2, 1, [], 0), (103, .getfield 64, 3, [6, 2], 0), (106, .iload 5, 2, [], 0), (108, .iaload, 1, [], 0), (109, .invokevirtual 67, 3, [32, 2, 2], 0), (112, .ifCond .ne 6, 3, [60], 0), (115, .iload 5, 2, [], 0), (117, .ireturn, 1, [0, 0, 0], 0), (118, .aload_n 0, 1, [], 0), (119, .iload 5, 2, [], 0), (121, .aload_n 2, 1, [], 0), (122, .getfield 61, 3, [6, 1], 0), (125, .iload 5, 2, [], 0), (127, .iaload, 1, [], 0), (128, .aload_n 2, 1, [], 0), (129, .getfield 64, 3, [6, 2], 0), (132, .iload 5, 2, [], 0), (134, .iaload, 1, [], 0), (135, .invokevirtual 71, 3, [2, 3, 0], 0), (138, .iinc 5 1, 3, [], 0), (141, .goto (-57), 3, [43], 0), (144, .iload 4, 2, [], 0), (146, .ireturn, 1, [0, 0, 0], 0)]
/-- X0_note -/
def cd_2 : List PEn := [(0, .iload_n 2, 1, [], 0), (1, .iconst 1, 1, [], 1), (2, .if_icmp .ne 42, 3, [25], 0), (5, .iload_n 3, 1, [], 0), (6, .ifCond .lt 38, 3, [25], 0), (9, .iload_n 3, 1, [], 0), (10, .bipush 7, 2, [], 7), (12, .if_icmp .ge 32, 3, [25], 0), (15, .aload_n 0, 1, [], 0), (16, .dup, 1, [], 0), (17, .getfield 25, 3, [0, 2], 0), (20, .aload_n 0, 1, [], 0), (21, .getfield 15, 3, [0, 0], 0), (24, .getfield 75, 3, [2, 0], 0), (27, .getfield 79, 3, [7, 1], 0), (30, .iadd, 1, [], 0), (31, .putfield 25, 3, [0, 2, 0, 0], 0), (34, .aload_n 0, 1, [], 0), (35, .getfield 9, 3, [0, 1], 0), (38, .iload_n 3, 1, [], 0), (39, .dup2, 1, [], 0), (40, .iaload, 1, [], 0), (41, .iconst 1, 1, [], 1), (42, .iadd, 1, [], 0), (43, .iastore, 1, [], 0), (44, .iload_n 2, 1, [], 0), (45, .ifCond .ne 47, 3, [47], 0), (48, .aload_n 0, 1, [], 0), (49, .getfield 44, 3, [0, 5], 0), (52, .iconst (-1), 1, [], -1), (53, .if_icmp .eq 17, 3, [37], 0), (56, .aload_n 0, 1, [], 0), (57, .getfield 15, 3, [0, 0], 0), (60, .getfield 84, 3, [2, 7], 0), (63, .aload_n 0, 1, [], 0), (64, .getfield 47, 3, [0, 6], 0), (67, .if_icmp .ge 25, 3, [47], 0), (70, .aload_n 0, 1, [], 0), (71, .aload_n 0, 1, [], 0), (72, .getfield 15, 3, [0, 0], 0), (75, .getfield 87, 3, [2, 2], 0), (78, .putfield 44, 3, [0, 5, 0, 0], 0), (81, .aload_n 0, 1, [], 0), (82, .aload_n 0, 1, [], 0), (83, .getfield 15, 3, [0, 0], 0), (86, .getfield 84, 3, [2, 7], 0), (89, .putfield 47, 3, [0, 6, 0, 0], 0), (92, .aload_n 0, 1, [], 0), (93, .getfield 29, 3, [0, 3], 0), (96, .iconst (-1), 1, [], -1), (97, .if_icmp .ne 18, 3, [58], 0), (100, .aload_n 0, 1, [], 0), (101, .getfield 15, 3, [0, 0], 0), (104, .getfield 90, 3, [2, 4], 0), (107, .ifCond .le 8, 3, [58], 0), (110, .aload_n 0, 1, [], 0), (111, .iload_n 1, 1, [], 0), (112, .putfield 29, 3, [0, 3, 0, 0], 0), (115, .aload_n 0, 1, [], 0), (116, .aload_n 0, 1, [], 0), (117, .getfield 41, 3, [0, 4], 0), (120, .aload_n 0, 1, [], 0), (121, .getfield 15, 3, [0, 0], 0), (124, .getfield 32, 3, [2, 6], 0), (127, .invokestatic 35, 3, [283, 1], 0), (130, .invokestatic 93, 3, [904], 0), (133, .putfield 41, 3, [0, 4, 0, 0], 0), (136, .return_, 1, [1, 0, 0], 0)]
/-- X0_mostFrequentBuyer -/
def cd_3 : List PEn := [(0, .iconst (-1), 1, [], -1), (1, .istore_n 1, 1, [], 0), (2, .iconst 0, 1, [], 0), (3, .istore_n 2, 1, [], 0), (4, .iload_n 2, 1, [], 0), (5, .bipush 7, 2, [], 7), (7, .if_icmp .ge 35, 3, [25], 0), (10, .aload_n 0, 1, [], 0), (11, .getfield 9, 3, [0, 1], 0), (14, .iload_n 2, 1, [], 0), (15, .iaload, 1, [], 0), (16, .iload_n 1, 1, [], 0), (17, .iconst (-1), 1, [], -1), (18, .if_icmp .ne 7, 3, [16], 0), (21, .iconst 0, 1, [], 0), (22, .goto 9, 3, [20], 0), (25, .aload_n 0, 1, [], 0), (26, .getfield 9, 3, [0, 1], 0), (29, .iload_n 1, 1, [], 0), (30, .iaload, 1, [], 0), (31, .if_icmp .le 5, 3, [23], 0), (34, .iload_n 2, 1, [], 0), (35, .istore_n 1, 1, [], 0), (36, .iinc 2 1, 3, [], 0), (39, .goto (-35), 3, [4], 0), (42, .iload_n 1, 1, [], 0), (43, .ireturn, 1, [0, 0, 0], 0)]
/-- X1_fewestSeeds -/
def cd_4 : List PEn := [(0, .aload_n 0, 1, [], 0), (1, .invokevirtual 9, 3, [84, 0, 7], 0), (4, .istore_n 1, 1, [], 0), (5, .iload_n 1, 1, [], 0), (6, .istore_n 2, 1, [], 0), (7, .iconst 0, 1, [], 0), (8, .istore_n 3, 1, [], 0), (9, .iload_n 3, 1, [], 0), (10, .iload_n 1, 1, [], 0), (11, .if_icmp .ge 44, 3, [31], 0), (14, .iload_n 3, 1, [], 0), (15, .sipush 128, 3, [], 128), (18, .if_icmp .ge 37, 3, [31], 0), (21, .iload_n 3, 1, [], 0), (22, .invokestatic 15, 3, [283, 1], 0), (25, .iload_n 2, 1, [], 0), (26, .invokestatic 15, 3, [283, 1], 0), (29, .if_icmp .ge 20, 3, [29], 0), (32, .aload_n 0, 1, [], 0), (33, .aload_n 0, 1, [], 0), (34, .getfield 21, 3, [7, 3], 0), (37, .iload_n 3, 1, [], 0), (38, .ior, 1, [], 0), (39, .iconst 0, 1, [], 0), (40, .invokevirtual 25, 3, [86, 2, 7], 0), (43, .iload_n 1, 1, [], 0), (44, .if_icmp .ne 5, 3, [29], 0), (47, .iload_n 3, 1, [], 0), (48, .istore_n 2, 1, [], 0), (49, .iinc 3 1, 3, [], 0), (52, .goto (-43), 3, [7], 0), (55, .iload_n 2, 1, [], 0), (56, .ireturn, 1, [0, 0, 0], 0)]
/-- X1_fewestCuts -/
def cd_5 : List PEn := [(0, .iconst 1, 1, [], 1), (1, .aload_n 0, 1, [], 0), (2, .getfield 29, 3, [7, 4], 0), (5, .ishl, 1, [], 0), (6, .iconst 1, 1, [], 1), (7, .isub, 1, [], 0), (8, .istore_n 2, 1, [], 0), (9, .iload_n 2, 1, [], 0), (10, .istore_n 3, 1, [], 0), (11, .iconst 0, 1, [], 0), (12, .istore 4, 2, [], 0), (14, .iload 4, 2, [], 0), (16, .iload_n 2, 1, [], 0), (17, .if_icmp .ge 47, 3, [34], 0), (20, .iload 4, 2, [], 0), (22, .sipush 1024, 3, [], 1024), (25, .if_icmp .ge 39, 3, [34], 0), (28, .iload 4, 2, [], 0), (30, .invokestatic 15, 3, [283, 1], 0), (33, .iload_n 3, 1, [], 0), (34, .invokestatic 15, 3, [283, 1], 0), (37, .if_icmp .ge 21, 3, [32], 0), (40, .aload_n 0, 1, [], 0), (41, .aload_n 0, 1, [], 0), (42, .getfield 21, 3, [7, 3], 0), (45, .iload 4, 2, [], 0), (47, .invokevirtual 25, 3, [86, 2, 7], 0), (50, .iload_n 1, 1, [], 0), (51, .iand, 1, [], 0), (52, .ifCond .ne 6, 3, [32], 0), (55, .iload 4, 2, [], 0), (57, .istore_n 3, 1, [], 0), (58, .iinc 4 1, 3, [], 0), (61, .goto (-47), 3, [11], 0), (64, .iload_n 3, 1, [], 0), (65, .ireturn, 1, [0, 0, 0], 0)]
/-- X1_exemptCases -/
def cd_6 : List PEn := [(0, .iconst 0, 1, [], 0), (1, .istore_n 3, 1, [], 0), (2, .iconst 0, 1, [], 0), (3, .istore 4, 2, [], 0), (5, .iload 4, 2, [], 0), (7, .aload_n 0, 1, [], 0), (8, .invokevirtual 9, 3, [84, 0, 7], 0), (11, .if_icmp .gt 46, 3, [30], 0), (14, .iload 4, 2, [], 0), (16, .sipush 128, 3, [], 128), (19, .if_icmp .ge 38, 3, [30], 0), (22, .iload 4, 2, [], 0), (24, .invokestatic 15, 3, [283, 1], 0), (27, .iload_n 1, 1, [], 0), (28, .if_icmp .ne 23, 3, [28], 0), (31, .iload_n 3, 1, [], 0), (32, .aload_n 0, 1, [], 0), (33, .aload_n 0, 1, [], 0), (34, .getfield 21, 3, [7, 3], 0), (37, .iload 4, 2, [], 0), (39, .ior, 1, [], 0), (40, .iconst 0, 1, [], 0), (41, .invokevirtual 25, 3, [86, 2, 7], 0), (44, .iload_n 2, 1, [], 0), (45, .iand, 1, [], 0), (46, .invokestatic 15, 3, [283, 1], 0), (49, .iadd, 1, [], 0), (50, .istore_n 3, 1, [], 0), (51, .iinc 4 1, 3, [], 0), (54, .goto (-49), 3, [4], 0), (57, .iload_n 3, 1, [], 0), (58, .ireturn, 1, [0, 0, 0], 0)]
/-- X1_setsOf -/
def cd_7 : List PEn := [(0, .iconst 0, 1, [], 0), (1, .istore_n 2, 1, [], 0), (2, .iconst 0, 1, [], 0), (3, .istore_n 3, 1, [], 0), (4, .iload_n 3, 1, [], 0), (5, .aload_n 0, 1, [], 0), (6, .invokevirtual 9, 3, [84, 0, 7], 0), (9, .if_icmp .gt 27, 3, [18], 0), (12, .iload_n 3, 1, [], 0), (13, .sipush 128, 3, [], 128), (16, .if_icmp .ge 20, 3, [18], 0), (19, .iload_n 3, 1, [], 0), (20, .invokestatic 15, 3, [283, 1], 0), (23, .iload_n 1, 1, [], 0), (24, .if_icmp .ne 6, 3, [16], 0), (27, .iinc 2 1, 3, [], 0), (30, .iinc 3 1, 3, [], 0), (33, .goto (-29), 3, [4], 0), (36, .iload_n 2, 1, [], 0), (37, .ireturn, 1, [0, 0, 0], 0)]
/-- X1_retinueSize -/
def cd_8 : List PEn := [(0, .aload_n 0, 1, [], 0), (1, .iload_n 1, 1, [], 0), (2, .invokevirtual 32, 3, [82, 1, 7], 0), (5, .ifCond .eq 17, 3, [12], 0), (8, .aload_n 0, 1, [], 0), (9, .iconst 1, 1, [], 1), (10, .iload_n 1, 1, [], 0), (11, .ishl, 1, [], 0), (12, .iconst 0, 1, [], 0), (13, .invokevirtual 25, 3, [86, 2, 7], 0), (16, .invokestatic 15, 3, [283, 1], 0), (19, .goto 4, 3, [13], 0), (22, .iconst 0, 1, [], 0), (23, .ireturn, 1, [0, 0, 0], 0)]
/-- X1_chiefOf -/
def cd_9 : List PEn := [(0, .iconst (-1), 1, [], -1), (1, .istore_n 1, 1, [], 0), (2, .iconst 0, 1, [], 0), (3, .istore_n 2, 1, [], 0), (4, .iconst 0, 1, [], 0), (5, .istore_n 3, 1, [], 0), (6, .iload_n 3, 1, [], 0), (7, .aload_n 0, 1, [], 0), (8, .getfield 36, 3, [7, 2], 0), (11, .if_icmp .ge 33, 3, [26], 0), (14, .iload_n 3, 1, [], 0), (15, .bipush 7, 2, [], 7), (17, .if_icmp .ge 27, 3, [26], 0), (20, .aload_n 0, 1, [], 0), (21, .iload_n 3, 1, [], 0), (22, .invokestatic 39, 3, [8, 2], 0), (25, .istore 4, 2, [], 0), (27, .iload 4, 2, [], 0), (29, .iload_n 2, 1, [], 0), (30, .if_icmp .le 8, 3, [24], 0), (33, .iload_n 3, 1, [], 0), (34, .istore_n 1, 1, [], 0), (35, .iload 4, 2, [], 0), (37, .istore_n 2, 1, [], 0), (38, .iinc 3 1, 3, [], 0), (41, .goto (-35), 3, [6], 0), (44, .iload_n 1, 1, [], 0), (45, .ireturn, 1, [0, 0, 0], 0)]
/-- X1_keysOf -/
def cd_10 : List PEn := [(0, .aload_n 0, 1, [], 0), (1, .aload_n 0, 1, [], 0), (2, .getfield 21, 3, [7, 3], 0), (5, .iconst 0, 1, [], 0), (6, .invokevirtual 25, 3, [86, 2, 7], 0), (9, .istore_n 1, 1, [], 0), (10, .iconst 0, 1, [], 0), (11, .istore_n 2, 1, [], 0), (12, .iconst 0, 1, [], 0), (13, .istore_n 3, 1, [], 0), (14, .iload_n 3, 1, [], 0), (15, .aload_n 0, 1, [], 0), (16, .getfield 29, 3, [7, 4], 0), (19, .if_icmp .ge 36, 3, [34], 0), (22, .iload_n 3, 1, [], 0), (23, .bipush 10, 2, [], 10), (25, .if_icmp .ge 30, 3, [34], 0), (28, .aload_n 0, 1, [], 0), (29, .aload_n 0, 1, [], 0), (30, .getfield 21, 3, [7, 3], 0), (33, .iconst 1, 1, [], 1), (34, .iload_n 3, 1, [], 0), (35, .ishl, 1, [], 0), (36, .invokevirtual 25, 3, [86, 2, 7], 0), (39, .iload_n 1, 1, [], 0), (40, .if_icmp .eq 9, 3, [32], 0), (43, .iload_n 2, 1, [], 0), (44, .iconst 1, 1, [], 1), (45, .iload_n 3, 1, [], 0), (46, .ishl, 1, [], 0), (47, .ior, 1, [], 0), (48, .istore_n 2, 1, [], 0), (49, .iinc 3 1, 3, [], 0), (52, .goto (-38), 3, [10], 0), (55, .iload_n 2, 1, [], 0), (56, .ireturn, 1, [0, 0, 0], 0)]
/-- X1_idleOf -/
def cd_11 : List PEn := [(0, .iconst 0, 1, [], 0), (1, .istore_n 1, 1, [], 0), (2, .iconst 0, 1, [], 0), (3, .istore_n 2, 1, [], 0), (4, .iload_n 2, 1, [], 0), (5, .aload_n 0, 1, [], 0), (6, .getfield 29, 3, [7, 4], 0), (9, .if_icmp .ge 48, 3, [38], 0), (12, .iload_n 2, 1, [], 0), (13, .bipush 10, 2, [], 10), (15, .if_icmp .ge 42, 3, [38], 0), (18, .aload_n 0, 1, [], 0), (19, .aload_n 0, 1, [], 0), (20, .getfield 45, 3, [7, 10], 0), (23, .iload_n 2, 1, [], 0), (24, .iaload, 1, [], 0), (25, .iconst 1, 1, [], 1), (26, .iload_n 2, 1, [], 0), (27, .ishl, 1, [], 0), (28, .invokevirtual 25, 3, [86, 2, 7], 0), (31, .istore_n 3, 1, [], 0), (32, .iload_n 3, 1, [], 0), (33, .aload_n 0, 1, [], 0), (34, .getfield 49, 3, [7, 7], 0), (37, .iload_n 2, 1, [], 0), (38, .iaload, 1, [], 0), (39, .ishr, 1, [], 0), (40, .iconst 1, 1, [], 1), (41, .iand, 1, [], 0), (42, .ifCond .eq 9, 3, [36], 0), (45, .iload_n 1, 1, [], 0), (46, .iconst 1, 1, [], 1), (47, .iload_n 2, 1, [], 0), (48, .ishl, 1, [], 0), (49, .ior, 1, [], 0), (50, .istore_n 1, 1, [], 0), (51, .iinc 2 1, 3, [], 0), (54, .goto (-50), 3, [4], 0), (57, .iload_n 1, 1, [], 0), (58, .ireturn, 1, [0, 0, 0], 0)]
/-- X1_ringedOf -/
def cd_12 : List PEn := [(0, .iconst 0, 1, [], 0), (1, .istore_n 1, 1, [], 0), (2, .iconst 0, 1, [], 0), (3, .istore_n 2, 1, [], 0), (4, .iload_n 2, 1, [], 0), (5, .aload_n 0, 1, [], 0), (6, .getfield 36, 3, [7, 2], 0), (9, .if_icmp .ge 27, 3, [23], 0), (12, .iload_n 2, 1, [], 0), (13, .bipush 7, 2, [], 7), (15, .if_icmp .ge 21, 3, [23], 0), (18, .iload_n 1, 1, [], 0), (19, .aload_n 0, 1, [], 0), (20, .iload_n 2, 1, [], 0), (21, .invokestatic 52, 3, [13, 2], 0), (24, .iconst 1, 1, [], 1), (25, .iload_n 2, 1, [], 0), (26, .ishl, 1, [], 0), (27, .iand, 1, [], 0), (28, .ior, 1, [], 0), (29, .istore_n 1, 1, [], 0), (30, .iinc 2 1, 3, [], 0), (33, .goto (-29), 3, [4], 0), (36, .iload_n 1, 1, [], 0), (37, .ireturn, 1, [0, 0, 0], 0)]
/-- X1_aboveByTies -/
def cd_13 : List PEn := [(0, .iconst 0, 1, [], 0), (1, .istore_n 2, 1, [], 0), (2, .iconst 0, 1, [], 0), (3, .istore_n 3, 1, [], 0), (4, .iload_n 3, 1, [], 0), (5, .bipush 7, 2, [], 7), (7, .if_icmp .ge 77, 3, [48], 0), (10, .iload_n 2, 1, [], 0), (11, .iconst 1, 1, [], 1), (12, .iload_n 1, 1, [], 0), (13, .ishl, 1, [], 0), (14, .ior, 1, [], 0), (15, .istore 4, 2, [], 0), (17, .iconst 0, 1, [], 0), (18, .istore 5, 2, [], 0), (20, .iload 5, 2, [], 0), (22, .aload_n 0, 1, [], 0), (23, .getfield 29, 3, [7, 4], 0), (26, .if_icmp .ge 52, 3, [46], 0), (29, .iload 5, 2, [], 0), (31, .bipush 10, 2, [], 10), (33, .if_icmp .ge 45, 3, [46], 0), (36, .aload_n 0, 1, [], 0), (37, .getfield 55, 3, [7, 9], 0), (40, .iload 5, 2, [], 0), (42, .iaload, 1, [], 0), (43, .iconst (-1), 1, [], -1), (44, .if_icmp .ne 28, 3, [44], 0), (47, .iload 4, 2, [], 0), (49, .aload_n 0, 1, [], 0), (50, .getfield 49, 3, [7, 7], 0), (53, .iload 5, 2, [], 0), (55, .iaload, 1, [], 0), (56, .ishr, 1, [], 0), (57, .iconst 1, 1, [], 1), (58, .iand, 1, [], 0), (59, .ifCond .eq 13, 3, [44], 0), (62, .iload_n 2, 1, [], 0), (63, .aload_n 0, 1, [], 0), (64, .getfield 45, 3, [7, 10], 0), (67, .iload 5, 2, [], 0), (69, .iaload, 1, [], 0), (70, .ior, 1, [], 0), (71, .istore_n 2, 1, [], 0), (72, .iinc 5 1, 3, [], 0), (75, .goto (-55), 3, [15], 0), (78, .iinc 3 1, 3, [], 0), (81, .goto (-77), 3, [4], 0), (84, .iload_n 2, 1, [], 0), (85, .ireturn, 1, [0, 0, 0], 0)]
/-- X1_loneOf -/
def cd_14 : List PEn := [(0, .aload_n 0, 1, [], 0), (1, .invokevirtual 9, 3, [84, 0, 7], 0), (4, .istore_n 1, 1, [], 0), (5, .iconst 0, 1, [], 0), (6, .istore_n 2, 1, [], 0), (7, .iload_n 2, 1, [], 0), (8, .aload_n 0, 1, [], 0), (9, .getfield 29, 3, [7, 4], 0), (12, .if_icmp .ge 28, 3, [25], 0), (15, .iload_n 2, 1, [], 0), (16, .bipush 10, 2, [], 10), (18, .if_icmp .ge 22, 3, [25], 0), (21, .iload_n 1, 1, [], 0), (22, .iconst 1, 1, [], 1), (23, .aload_n 0, 1, [], 0), (24, .getfield 49, 3, [7, 7], 0), (27, .iload_n 2, 1, [], 0), (28, .iaload, 1, [], 0), (29, .ishl, 1, [], 0), (30, .iconst (-1), 1, [], -1), (31, .ixor, 1, [], 0), (32, .iand, 1, [], 0), (33, .istore_n 1, 1, [], 0), (34, .iinc 2 1, 3, [], 0), (37, .goto (-30), 3, [5], 0), (40, .iload_n 1, 1, [], 0), (41, .ireturn, 1, [0, 0, 0], 0)]
/-- X1_rankOf -/
def cd_15 : List PEn := [(0, .aload_n 0, 1, [], 0), (1, .getfield 21, 3, [7, 3], 0), (4, .istore_n 2, 1, [], 0), (5, .iconst 0, 1, [], 0), (6, .istore_n 3, 1, [], 0), (7, .iload_n 3, 1, [], 0), (8, .bipush 7, 2, [], 7), (10, .if_icmp .gt 23, 3, [20], 0), (13, .iload_n 2, 1, [], 0), (14, .iload_n 1, 1, [], 0), (15, .iand, 1, [], 0), (16, .ifCond .eq 5, 3, [14], 0), (19, .iload_n 3, 1, [], 0), (20, .ireturn, 1, [0, 0, 0], 0), (21, .aload_n 0, 1, [], 0), (22, .iload_n 2, 1, [], 0), (23, .invokevirtual 58, 3, [87, 1, 7], 0), (26, .istore_n 2, 1, [], 0), (27, .iinc 3 1, 3, [], 0), (30, .goto (-23), 3, [5], 0), (33, .iconst (-1), 1, [], -1), (34, .ireturn, 1, [0, 0, 0], 0)]
/-- X1_deepestOf -/
def cd_16 : List PEn := [(0, .iconst (-1), 1, [], -1), (1, .istore_n 1, 1, [], 0), (2, .iconst 0, 1, [], 0), (3, .istore_n 2, 1, [], 0), (4, .iload_n 2, 1, [], 0), (5, .aload_n 0, 1, [], 0), (6, .getfield 36, 3, [7, 2], 0), (9, .if_icmp .ge 27, 3, [21], 0), (12, .iload_n 2, 1, [], 0), (13, .bipush 7, 2, [], 7), (15, .if_icmp .ge 21, 3, [21], 0), (18, .iload_n 1, 1, [], 0), (19, .aload_n 0, 1, [], 0), (20, .iconst 1, 1, [], 1), (21, .iload_n 2, 1, [], 0), (22, .ishl, 1, [], 0), (23, .invokestatic 61, 3, [15, 2], 0), (26, .invokestatic 64, 3, [904], 0), (29, .istore_n 1, 1, [], 0), (30, .iinc 2 1, 3, [], 0), (33, .goto (-29), 3, [4], 0), (36, .iload_n 1, 1, [], 0), (37, .ireturn, 1, [0, 0, 0], 0)]
/-- X2_init -/
def cd_17 : List PEn := [(0, .aload_n 0, 1, [], 0), (1, .invokespecial 3, 3, [900, 0], 0), (4, .aload_n 0, 1, [], 0), (5, .bipush 7, 2, [], 7), (7, .newarray .int, 2, [], 0), (9, .putfield 9, 3, [1, 1, 2, 1], 0), (12, .aload_n 0, 1, [], 0), (13, .iconst 4, 1, [], 4), (14, .newarray .int, 2, [], 0), (16, .putfield 15, 3, [1, 7, 2, 1], 0), (19, .aload_n 0, 1, [], 0), (20, .aload_n 1, 1, [], 0), (21, .putfield 18, 3, [1, 0, 2, 1], 0), (24, .return_, 1, [1, 2, 11], 0)]
/-- X2_rushOf -/
def cd_18 : List PEn := [(0, .aload_n 0, 1, [], 0), (1, .getfield 18, 3, [1, 0], 0), (4, .aload_n 1, 1, [], 0), (5, .invokevirtual 22, 3, [29, 1, 2], 0), (8, .aload_n 0, 1, [], 0), (9, .getfield 18, 3, [1, 0], 0), (12, .getfield 28, 3, [2, 0], 0), (15, .iload_n 2, 1, [], 0), (16, .putfield 32, 3, [7, 1, 0, 0], 0), (19, .aload_n 0, 1, [], 0), (20, .iconst 0, 1, [], 0), (21, .putfield 38, 3, [1, 2, 0, 0], 0), (24, .aload_n 0, 1, [], 0), (25, .iconst 0, 1, [], 0), (26, .putfield 41, 3, [1, 3, 0, 0], 0), (29, .iconst 1, 1, [], 1), (30, .istore 4, 2, [], 0), (32, .iconst 0, 1, [], 0), (33, .istore 5, 2, [], 0), (35, .iload 5, 2, [], 0), (37, .bipush 7, 2, [], 7), (39, .if_icmp .gt 88, 3, [62], 0), (42, .iload 4, 2, [], 0), (44, .ifCond .eq 83, 3, [62], 0), (47, .iconst 0, 1, [], 0), (48, .istore 4, 2, [], 0), (50, .iconst 0, 1, [], 0), (51, .istore 6, 2, [], 0), (53, .iload 6, 2, [], 0), (55, .aload_n 1, 1, [], 0), (56, .getfield 44, 3, [7, 2], 0), (59, .if_icmp .ge 47, 3, [52], 0), (62, .iload 6, 2, [], 0), (64, .bipush 7, 2, [], 7), (66, .if_icmp .ge 40, 3, [52], 0), (69, .aload_n 0, 1, [], 0), (70, .iload 6, 2, [], 0), (72, .iload_n 3, 1, [], 0), (73, .invokevirtual 47, 3, [19, 2, 1], 0), (76, .ifCond .eq 24, 3, [50], 0), (79, .aload_n 0, 1, [], 0), (80, .getfield 18, 3, [1, 0], 0), (83, .iload 6, 2, [], 0), (85, .invokevirtual 51, 3, [35, 1, 2], 0), (88, .ifCond .eq 12, 3, [50], 0), (91, .aload_n 0, 1, [], 0), (92, .iload 6, 2, [], 0), (94, .invokevirtual 55, 3, [20, 1, 1], 0), (97, .iconst 1, 1, [], 1), (98, .istore 4, 2, [], 0), (100, .iinc 6 1, 3, [], 0), (103, .goto (-50), 3, [28], 0), (106, .iload 4, 2, [], 0), (108, .ifCond .eq 13, 3, [60], 0), (111, .aload_n 0, 1, [], 0), (112, .dup, 1, [], 0), (113, .getfield 41, 3, [1, 3], 0), (116, .iconst 1, 1, [], 1), (117, .iadd, 1, [], 0), (118, .putfield 41, 3, [1, 3, 0, 0], 0), (121, .iinc 5 1, 3, [], 0), (124, .goto (-89), 3, [19], 0), (127, .return_, 1, [1, 0, 0], 0)]
/-- X2_isDriven -/
def cd_19 : List PEn := [(0, .aload_n 0, 1, [], 0), (1, .getfield 18, 3, [1, 0], 0), (4, .iload_n 1, 1, [], 0), (5, .invokevirtual 59, 3, [31, 1, 2], 0), (8, .ifCond .ne 33, 3, [19], 0), (11, .iload_n 2, 1, [], 0), (12, .aload_n 0, 1, [], 0), (13, .getfield 18, 3, [1, 0], 0), (16, .getfield 62, 3, [2, 1], 0), (19, .iload_n 1, 1, [], 0), (20, .invokevirtual 66, 3, [54, 1, 4], 0), (23, .imul, 1, [], 0), (24, .aload_n 0, 1, [], 0), (25, .getfield 18, 3, [1, 0], 0), (28, .getfield 28, 3, [2, 0], 0), (31, .getfield 32, 3, [7, 1], 0), (34, .if_icmp .le 7, 3, [19], 0), (37, .iconst 1, 1, [], 1), (38, .goto 4, 3, [20], 0), (41, .iconst 0, 1, [], 0), (42, .ireturn, 1, [1, 0, 0], 0)]
/-- X2_noteBuyer -/
def cd_20 : List PEn := [(0, .aload_n 0, 1, [], 0), (1, .getfield 38, 3, [1, 2], 0), (4, .ifCond .lt 32, 3, [19], 0), (7, .aload_n 0, 1, [], 0), (8, .getfield 38, 3, [1, 2], 0), (11, .bipush 7, 2, [], 7), (13, .if_icmp .ge 23, 3, [19], 0), (16, .aload_n 0, 1, [], 0), (17, .getfield 9, 3, [1, 1], 0), (20, .aload_n 0, 1, [], 0), (21, .getfield 38, 3, [1, 2], 0), (24, .iload_n 1, 1, [], 0), (25, .iastore, 1, [], 0), (26, .aload_n 0, 1, [], 0), (27, .dup, 1, [], 0), (28, .getfield 38, 3, [1, 2], 0), (31, .iconst 1, 1, [], 1), (32, .iadd, 1, [], 0), (33, .putfield 38, 3, [1, 2, 0, 0], 0), (36, .return_, 1, [1, 0, 0], 0)]
/-- X2_buyer -/
def cd_21 : List PEn := [(0, .iload_n 1, 1, [], 0), (1, .ifCond .lt 26, 3, [14], 0), (4, .iload_n 1, 1, [], 0), (5, .aload_n 0, 1, [], 0), (6, .getfield 38, 3, [1, 2], 0), (9, .if_icmp .ge 18, 3, [14], 0), (12, .iload_n 1, 1, [], 0), (13, .bipush 7, 2, [], 7), (15, .if_icmp .ge 12, 3, [14], 0), (18, .aload_n 0, 1, [], 0), (19, .getfield 9, 3, [1, 1], 0), (22, .iload_n 1, 1, [], 0), (23, .iaload, 1, [], 0), (24, .goto 4, 3, [15], 0), (27, .iconst (-1), 1, [], -1), (28, .ireturn, 1, [0, 0, 0], 0)]
/-- X2_findSale -/
def cd_22 : List PEn := [(0, .aload_n 0, 1, [], 0), (1, .iconst (-1), 1, [], -1), (2, .putfield 72, 3, [1, 5, 0, 0], 0), (5, .iconst 0, 1, [], 0), (6, .istore_n 3, 1, [], 0), (7, .iload_n 3, 1, [], 0), (8, .bipush 99, 2, [], 99), (10, .if_icmp .gt 52, 3, [35], 0), (13, .aload_n 0, 1, [], 0), (14, .aload_n 1, 1, [], 0), (15, .iload_n 3, 1, [], 0), (16, .iload_n 2, 1, [], 0), (17, .invokevirtual 75, 3, [18, 3, 1], 0), (20, .iload_n 3, 1, [], 0), (21, .aload_n 0, 1, [], 0), (22, .getfield 38, 3, [1, 2], 0), (25, .imul, 1, [], 0), (26, .aload_n 0, 1, [], 0), (27, .getfield 72, 3, [1, 5], 0), (30, .if_icmp .le 26, 3, [33], 0), (33, .aload_n 0, 1, [], 0), (34, .iload_n 3, 1, [], 0), (35, .putfield 79, 3, [1, 4, 0, 0], 0), (38, .aload_n 0, 1, [], 0), (39, .iload_n 3, 1, [], 0), (40, .aload_n 0, 1, [], 0), (41, .getfield 38, 3, [1, 2], 0), (44, .imul, 1, [], 0), (45, .putfield 72, 3, [1, 5, 0, 0], 0), (48, .aload_n 0, 1, [], 0), (49, .aload_n 0, 1, [], 0), (50, .getfield 38, 3, [1, 2], 0), (53, .putfield 82, 3, [1, 6, 0, 0], 0), (56, .iinc 3 1, 3, [], 0), (59, .goto (-52), 3, [5], 0), (62, .return_, 1, [1, 0, 0], 0)]
/-- X2_margin -/
def cd_23 : List PEn := [(0, .aload_n 0, 1, [], 0), (1, .aload_n 1, 1, [], 0), (2, .iload_n 2, 1, [], 0), (3, .iload_n 3, 1, [], 0), (4, .invokevirtual 85, 3, [25, 3, 1], 0), (7, .iload 4, 2, [], 0), (9, .iconst 1, 1, [], 1), (10, .isub, 1, [], 0), (11, .istore 5, 2, [], 0), (13, .iload 5, 2, [], 0), (15, .ifCond .lt 18, 3, [19], 0), (18, .aload_n 0, 1, [], 0), (19, .aload_n 1, 1, [], 0), (20, .iload_n 2, 1, [], 0), (21, .iload_n 3, 1, [], 0), (22, .iload 5, 2, [], 0), (24, .invokevirtual 88, 3, [27, 4, 1], 0), (27, .iinc 5 (-1), 3, [], 0), (30, .goto (-17), 3, [9], 0), (33, .aload_n 0, 1, [], 0), (34, .getfield 15, 3, [1, 7], 0), (37, .iconst 0, 1, [], 0), (38, .iaload, 1, [], 0), (39, .ireturn, 1, [0, 0, 0], 0)]
/-- X2_opening -/
def cd_24 : List PEn := [(0, .aload_n 0, 1, [], 0), (1, .aload_n 1, 1, [], 0), (2, .iload_n 2, 1, [], 0), (3, .iload_n 3, 1, [], 0), (4, .invokevirtual 85, 3, [25, 3, 1], 0), (7, .iload 4, 2, [], 0), (9, .iconst 1, 1, [], 1), (10, .isub, 1, [], 0), (11, .istore 5, 2, [], 0), (13, .iload 5, 2, [], 0), (15, .iconst 1, 1, [], 1), (16, .if_icmp .lt 18, 3, [20], 0), (19, .aload_n 0, 1, [], 0), (20, .aload_n 1, 1, [], 0), (21, .iload_n 2, 1, [], 0), (22, .iload_n 3, 1, [], 0), (23, .iload 5, 2, [], 0), (25, .invokevirtual 88, 3, [27, 4, 1], 0), (28, .iinc 5 (-1), 3, [], 0), (31, .goto (-18), 3, [9], 0), (34, .aload_n 0, 1, [], 0), (35, .getfield 18, 3, [1, 0], 0), (38, .aload_n 1, 1, [], 0), (39, .invokevirtual 22, 3, [29, 1, 2], 0), (42, .aload_n 0, 1, [], 0), (43, .getfield 18, 3, [1, 0], 0), (46, .iload_n 2, 1, [], 0), (47, .invokevirtual 92, 3, [34, 1, 2], 0), (50, .ifCond .eq 22, 3, [40], 0), (53, .aload_n 0, 1, [], 0), (54, .getfield 15, 3, [1, 7], 0), (57, .iconst 1, 1, [], 1), (58, .iaload, 1, [], 0), (59, .aload_n 0, 1, [], 0), (60, .getfield 15, 3, [1, 7], 0), (63, .iconst 0, 1, [], 0), (64, .iaload, 1, [], 0), (65, .if_icmp .le 7, 3, [40], 0), (68, .iconst 1, 1, [], 1), (69, .goto 4, 3, [41], 0), (72, .iconst 0, 1, [], 0), (73, .ireturn, 1, [0, 0, 0], 0)]
/-- X2_fillMargins -/
def cd_25 : List PEn := [(0, .iconst 0, 1, [], 0), (1, .istore 4, 2, [], 0), (3, .iload 4, 2, [], 0), (5, .iconst 4, 1, [], 4), (6, .if_icmp .ge 75, 3, [44], 0), (9, .aload_n 0, 1, [], 0), (10, .getfield 18, 3, [1, 0], 0), (13, .aload_n 1, 1, [], 0), (14, .invokevirtual 22, 3, [29, 1, 2], 0), (17, .iload 4, 2, [], 0), (19, .iconst 1, 1, [], 1), (20, .iand, 1, [], 0), (21, .ifCond .eq 12, 3, [18], 0), (24, .aload_n 0, 1, [], 0), (25, .getfield 18, 3, [1, 0], 0), (28, .iload_n 2, 1, [], 0), (29, .invokevirtual 51, 3, [35, 1, 2], 0), (32, .pop, 1, [], 0), (33, .iload 4, 2, [], 0), (35, .iconst 2, 1, [], 2), (36, .iand, 1, [], 0), (37, .ifCond .eq 12, 3, [27], 0), (40, .aload_n 0, 1, [], 0), (41, .getfield 18, 3, [1, 0], 0), (44, .iload_n 3, 1, [], 0), (45, .invokevirtual 51, 3, [35, 1, 2], 0), (48, .pop, 1, [], 0), (49, .aload_n 0, 1, [], 0), (50, .getfield 18, 3, [1, 0], 0), (53, .invokevirtual 95, 3, [33, 0, 2], 0), (56, .pop, 1, [], 0), (57, .aload_n 0, 1, [], 0), (58, .getfield 15, 3, [1, 7], 0), (61, .iload 4, 2, [], 0), (63, .aload_n 0, 1, [], 0), (64, .iload_n 2, 1, [], 0), (65, .invokevirtual 99, 3, [26, 1, 1], 0), (68, .aload_n 0, 1, [], 0), (69, .iload_n 3, 1, [], 0), (70, .invokevirtual 99, 3, [26, 1, 1], 0), (73, .isub, 1, [], 0), (74, .iastore, 1, [], 0), (75, .iinc 4 1, 3, [], 0), (78, .goto (-75), 3, [2], 0), (81, .return_, 1, [1, 0, 0], 0)]
/-- X2_goodsOf -/
def cd_26 : List PEn := [(0, .aload_n 0, 1, [], 0), (1, .getfield 18, 3, [1, 0], 0), (4, .getfield 28, 3, [2, 0], 0), (7, .iload_n 1, 1, [], 0), (8, .invokevirtual 102, 3, [82, 1, 7], 0), (11, .ifCond .eq 18, 3, [13], 0), (14, .aload_n 0, 1, [], 0), (15, .getfield 18, 3, [1, 0], 0), (18, .getfield 28, 3, [2, 0], 0), (21, .getfield 105, 3, [7, 5], 0), (24, .iload_n 1, 1, [], 0), (25, .iaload, 1, [], 0), (26, .goto 4, 3, [14], 0), (29, .iconst 0, 1, [], 0), (30, .ireturn, 1, [0, 0, 0], 0)]
/-- X2_takeTurn -/
def cd_27 : List PEn := [(0, .iload 4, 2, [], 0), (2, .iconst 2, 1, [], 2), (3, .irem, 1, [], 0), (4, .ifCond .ne 7, 3, [6], 0), (7, .iconst 1, 1, [], 1), (8, .goto 4, 3, [7], 0), (11, .iconst 0, 1, [], 0), (12, .istore 5, 2, [], 0), (14, .iload 5, 2, [], 0), (16, .ifCond .eq 7, 3, [12], 0), (19, .iconst 1, 1, [], 1), (20, .goto 4, 3, [13], 0), (23, .iconst 2, 1, [], 2), (24, .istore 6, 2, [], 0), (26, .aload_n 0, 1, [], 0), (27, .getfield 18, 3, [1, 0], 0), (30, .aload_n 1, 1, [], 0), (31, .invokevirtual 22, 3, [29, 1, 2], 0), (34, .aload_n 0, 1, [], 0), (35, .getfield 18, 3, [1, 0], 0), (38, .iload 5, 2, [], 0), (40, .ifCond .eq 7, 3, [24], 0), (43, .iload_n 2, 1, [], 0), (44, .goto 4, 3, [25], 0), (47, .iload_n 3, 1, [], 0), (48, .invokevirtual 92, 3, [34, 1, 2], 0), (51, .ifCond .ne 4, 3, [28], 0), (54, .return_, 1, [1, 0, 0], 0), (55, .iconst 0, 1, [], 0), (56, .istore 7, 2, [], 0), (58, .iload 7, 2, [], 0), (60, .iconst 4, 1, [], 4), (61, .if_icmp .ge 68, 3, [65], 0), (64, .iload 7, 2, [], 0), (66, .iload 6, 2, [], 0), (68, .iand, 1, [], 0), (69, .ifCond .ne 54, 3, [63], 0), (72, .aload_n 0, 1, [], 0), (73, .getfield 15, 3, [1, 7], 0), (76, .iload 7, 2, [], 0), (78, .iload 6, 2, [], 0), (80, .ior, 1, [], 0), (81, .iaload, 1, [], 0), (82, .istore 8, 2, [], 0), (84, .aload_n 0, 1, [], 0), (85, .getfield 15, 3, [1, 7], 0), (88, .iload 7, 2, [], 0), (90, .iload 5, 2, [], 0), (92, .ifCond .eq 18, 3, [56], 0), (95, .aload_n 0, 1, [], 0), (96, .getfield 15, 3, [1, 7], 0), (99, .iload 7, 2, [], 0), (101, .iaload, 1, [], 0), (102, .iload 8, 2, [], 0), (104, .invokestatic 108, 3, [904], 0), (107, .goto 15, 3, [62], 0), (110, .aload_n 0, 1, [], 0), (111, .getfield 15, 3, [1, 7], 0), (114, .iload 7, 2, [], 0), (116, .iaload, 1, [], 0), (117, .iload 8, 2, [], 0), (119, .invokestatic 114, 3, [905], 0), (122, .iastore, 1, [], 0), (123, .iinc 7 1, 3, [], 0), (126, .goto (-68), 3, [30], 0), (129, .return_, 1, [1, 0, 0], 0)]
/-- X3_init -/
def cd_28 : List PEn := [(0, .aload_n 0, 1, [], 0), (1, .invokespecial 3, 3, [900, 0], 0), (4, .aload_n 0, 1, [], 0), (5, .new 9, 3, [7, 0, 0, 0, 0, 0, 2, 2, 2, 2, 2, 2], 0), (8, .dup, 1, [], 0), (9, .invokespecial 11, 3, [77, 0], 0), (12, .putfield 12, 3, [2, 0, 2, 1], 0), (15, .aload_n 0, 1, [], 0), (16, .new 18, 3, [4, 0, 2, 2], 0), (19, .dup, 1, [], 0), (20, .invokespecial 20, 3, [53, 0], 0), (23, .putfield 21, 3, [2, 1, 2, 1], 0), (26, .return_, 1, [1, 10, 82], 0)]
/-- X3_begin -/
def cd_29 : List PEn := [(0, .aload_n 0, 1, [], 0), (1, .getfield 12, 3, [2, 0], 0), (4, .aload_n 1, 1, [], 0), (5, .invokevirtual 25, 3, [79, 1, 7], 0), (8, .aload_n 0, 1, [], 0), (9, .iconst 0, 1, [], 0), (10, .putfield 29, 3, [2, 2, 0, 0], 0), (13, .aload_n 0, 1, [], 0), (14, .iconst 0, 1, [], 0), (15, .putfield 33, 3, [2, 3, 0, 0], 0), (18, .aload_n 0, 1, [], 0), (19, .iconst 0, 1, [], 0), (20, .putfield 36, 3, [2, 4, 0, 0], 0), (23, .aload_n 0, 1, [], 0), (24, .iconst 0, 1, [], 0), (25, .putfield 39, 3, [2, 5, 0, 0], 0), (28, .aload_n 0, 1, [], 0), (29, .iconst 0, 1, [], 0), (30, .putfield 42, 3, [2, 7, 0, 0], 0), (33, .aload_n 0, 1, [], 0), (34, .iconst (-1), 1, [], -1), (35, .putfield 45, 3, [2, 8, 0, 0], 0), (38, .aload_n 0, 1, [], 0), (39, .iconst 0, 1, [], 0), (40, .putfield 48, 3, [2, 9, 1, 0], 0), (43, .aload_n 0, 1, [], 0), (44, .invokevirtual 52, 3, [30, 0, 2], 0), (47, .return_, 1, [1, 0, 0], 0)]
/-- X3_assess -/
def cd_30 : List PEn := [(0, .aload_n 0, 1, [], 0), (1, .aload_n 0, 1, [], 0), (2, .getfield 12, 3, [2, 0], 0), (5, .aload_n 0, 1, [], 0), (6, .getfield 12, 3, [2, 0], 0), (9, .getfield 55, 3, [7, 3], 0), (12, .aload_n 0, 1, [], 0), (13, .getfield 39, 3, [2, 5], 0), (16, .invokevirtual 58, 3, [86, 2, 7], 0), (19, .putfield 62, 3, [2, 6, 0, 0], 0), (22, .aload_n 0, 1, [], 0), (23, .getfield 21, 3, [2, 1], 0), (26, .aload_n 0, 1, [], 0), (27, .getfield 12, 3, [2, 0], 0), (30, .aload_n 0, 1, [], 0), (31, .getfield 12, 3, [2, 0], 0), (34, .getfield 65, 3, [7, 0], 0), (37, .aload_n 0, 1, [], 0), (38, .getfield 62, 3, [2, 6], 0), (41, .invokevirtual 68, 3, [55, 3, 4], 0), (44, .return_, 1, [1, 0, 0], 0)]
/-- X3_isExempt -/
def cd_31 : List PEn := [(0, .aload_n 0, 1, [], 0), (1, .getfield 62, 3, [2, 6], 0), (4, .iload_n 1, 1, [], 0), (5, .ishr, 1, [], 0), (6, .iconst 1, 1, [], 1), (7, .iand, 1, [], 0), (8, .ifCond .eq 7, 3, [9], 0), (11, .iconst 1, 1, [], 1), (12, .goto 4, 3, [10], 0), (15, .iconst 0, 1, [], 0), (16, .ireturn, 1, [1, 0, 0], 0)]
/-- X3_act -/
def cd_32 : List PEn := [(0, .iload_n 1, 1, [], 0), (1, .tableswitch 91 0 5 #[39, 61, 67, 73, 79, 85], 39, [33, 2, 13, 17, 21, 25, 29], 0), (40, .aload_n 0, 1, [], 0), (41, .getfield 29, 3, [2, 2], 0), (44, .bipush 50, 2, [], 50), (46, .if_icmp .ge 14, 3, [11], 0), (49, .aload_n 0, 1, [], 0), (50, .invokevirtual 72, 3, [33, 0, 2], 0), (53, .ifCond .eq 7, 3, [11], 0), (56, .iconst 1, 1, [], 1), (57, .goto 4, 3, [12], 0), (60, .iconst 0, 1, [], 0), (61, .ireturn, 1, [1, 0, 0], 0), (62, .aload_n 0, 1, [], 0), (63, .iload_n 2, 1, [], 0), (64, .invokevirtual 76, 3, [35, 1, 2], 0), (67, .ireturn, 1, [1, 0, 0], 0), (68, .aload_n 0, 1, [], 0), (69, .iload_n 2, 1, [], 0), (70, .invokevirtual 80, 3, [36, 1, 2], 0), (73, .ireturn, 1, [1, 0, 0], 0), (74, .aload_n 0, 1, [], 0), (75, .iload_n 2, 1, [], 0), (76, .invokevirtual 83, 3, [37, 1, 2], 0), (79, .ireturn, 1, [1, 0, 0], 0), (80, .aload_n 0, 1, [], 0), (81, .iload_n 2, 1, [], 0), (82, .invokevirtual 86, 3, [38, 1, 2], 0), (85, .ireturn, 1, [1, 0, 0], 0), (86, .aload_n 0, 1, [], 0), (87, .iload_n 2, 1, [], 0), (88, .invokevirtual 89, 3, [39, 1, 2], 0), (91, .ireturn, 1, [1, 0, 0], 0), (92, .iconst 0, 1, [], 0), (93, .ireturn, 1, [1, 0, 0], 0)]
/-- X3_collect -/
def cd_33 : List PEn := [(0, .aload_n 0, 1, [], 0), (1, .iconst 0, 1, [], 0), (2, .putfield 48, 3, [2, 9, 1, 0], 0), (5, .aload_n 0, 1, [], 0), (6, .iconst 0, 1, [], 0), (7, .putfield 42, 3, [2, 7, 0, 0], 0), (10, .aload_n 0, 1, [], 0), (11, .iconst (-1), 1, [], -1), (12, .putfield 45, 3, [2, 8, 0, 0], 0), (15, .aload_n 0, 1, [], 0), (16, .dup, 1, [], 0), (17, .getfield 36, 3, [2, 4], 0), (20, .aload_n 0, 1, [], 0), (21, .getfield 21, 3, [2, 1], 0), (24, .getfield 92, 3, [4, 0], 0), (27, .iadd, 1, [], 0), (28, .putfield 36, 3, [2, 4, 0, 0], 0), (31, .iconst 0, 1, [], 0), (32, .istore_n 1, 1, [], 0), (33, .iload_n 1, 1, [], 0), (34, .aload_n 0, 1, [], 0), (35, .getfield 12, 3, [2, 0], 0), (38, .getfield 93, 3, [7, 2], 0), (41, .if_icmp .ge 139, 3, [99], 0), (44, .iload_n 1, 1, [], 0), (45, .bipush 7, 2, [], 7), (47, .if_icmp .ge 133, 3, [99], 0), (50, .aload_n 0, 1, [], 0), (51, .getfield 21, 3, [2, 1], 0), (54, .iload_n 1, 1, [], 0), (55, .invokevirtual 96, 3, [54, 1, 4], 0), (58, .istore_n 2, 1, [], 0), (59, .aload_n 0, 1, [], 0), (60, .getfield 12, 3, [2, 0], 0), (63, .getfield 100, 3, [7, 5], 0), (66, .iload_n 1, 1, [], 0), (67, .iaload, 1, [], 0), (68, .istore_n 3, 1, [], 0), (69, .iload_n 2, 1, [], 0), (70, .iload_n 3, 1, [], 0), (71, .invokestatic 104, 3, [905], 0), (74, .istore 4, 2, [], 0), (76, .iload 4, 2, [], 0), (78, .iload_n 2, 1, [], 0), (79, .if_icmp .ge 16, 3, [52], 0), (82, .aload_n 0, 1, [], 0), (83, .getfield 45, 3, [2, 8], 0), (86, .iconst (-1), 1, [], -1), (87, .if_icmp .ne 8, 3, [52], 0), (90, .aload_n 0, 1, [], 0), (91, .iload_n 1, 1, [], 0), (92, .putfield 45, 3, [2, 8, 0, 0], 0), (95, .aload_n 0, 1, [], 0), (96, .dup, 1, [], 0), (97, .getfield 42, 3, [2, 7], 0), (100, .iload 4, 2, [], 0), (102, .iadd, 1, [], 0), (103, .putfield 42, 3, [2, 7, 0, 0], 0), (106, .aload_n 0, 1, [], 0), (107, .dup, 1, [], 0), (108, .getfield 36, 3, [2, 4], 0), (111, .iload_n 2, 1, [], 0), (112, .iload 4, 2, [], 0), (114, .isub, 1, [], 0), (115, .iadd, 1, [], 0), (116, .putfield 36, 3, [2, 4, 0, 0], 0), (119, .aload_n 0, 1, [], 0), (120, .getfield 12, 3, [2, 0], 0), (123, .getfield 100, 3, [7, 5], 0), (126, .iload_n 1, 1, [], 0), (127, .bipush 99, 2, [], 99), (129, .iload_n 3, 1, [], 0), (130, .iload 4, 2, [], 0), (132, .isub, 1, [], 0), (133, .aload_n 0, 1, [], 0), (134, .getfield 12, 3, [2, 0], 0), (137, .getfield 109, 3, [7, 6], 0), (140, .iload_n 1, 1, [], 0), (141, .iaload, 1, [], 0), (142, .iadd, 1, [], 0), (143, .invokestatic 104, 3, [905], 0), (146, .iastore, 1, [], 0), (147, .aload_n 0, 1, [], 0), (148, .dup, 1, [], 0), (149, .getfield 48, 3, [2, 9], 0), (152, .aload_n 0, 1, [], 0), (153, .getfield 12, 3, [2, 0], 0), (156, .getfield 100, 3, [7, 5], 0), (159, .iload_n 1, 1, [], 0), (160, .iaload, 1, [], 0), (161, .iload_n 3, 1, [], 0), (162, .if_icmp .eq 7, 3, [94], 0), (165, .iconst 1, 1, [], 1), (166, .goto 4, 3, [95], 0), (169, .iconst 0, 1, [], 0), (170, .ior, 1, [], 0), (171, .putfield 48, 3, [2, 9, 1, 0], 0), (174, .iinc 1 1, 3, [], 0), (177, .goto (-144), 3, [19], 0), (180, .aload_n 0, 1, [], 0), (181, .dup, 1, [], 0), (182, .getfield 33, 3, [2, 3], 0), (185, .aload_n 0, 1, [], 0), (186, .getfield 42, 3, [2, 7], 0), (189, .iadd, 1, [], 0), (190, .putfield 33, 3, [2, 3, 0, 0], 0), (193, .aload_n 0, 1, [], 0), (194, .dup, 1, [], 0), (195, .getfield 29, 3, [2, 2], 0), (198, .iconst 1, 1, [], 1), (199, .iadd, 1, [], 0), (200, .putfield 29, 3, [2, 2, 0, 0], 0), (203, .aload_n 0, 1, [], 0), (204, .getfield 21, 3, [2, 1], 0), (207, .aload_n 0, 1, [], 0), (208, .getfield 12, 3, [2, 0], 0), (211, .aload_n 0, 1, [], 0), (212, .getfield 12, 3, [2, 0], 0), (215, .getfield 65, 3, [7, 0], 0), (218, .aload_n 0, 1, [], 0), (219, .getfield 62, 3, [2, 6], 0), (222, .invokevirtual 68, 3, [55, 3, 4], 0), (225, .iconst 1, 1, [], 1), (226, .ireturn, 1, [1, 0, 0], 0)]
/-- X3_canBuy -/
def cd_34 : List PEn := [(0, .aload_n 0, 1, [], 0), (1, .getfield 12, 3, [2, 0], 0), (4, .iload_n 1, 1, [], 0), (5, .invokevirtual 112, 3, [82, 1, 7], 0), (8, .ifCond .eq 40, 3, [24], 0), (11, .aload_n 0, 1, [], 0), (12, .getfield 12, 3, [2, 0], 0), (15, .getfield 55, 3, [7, 3], 0), (18, .iload_n 1, 1, [], 0), (19, .ishr, 1, [], 0), (20, .iconst 1, 1, [], 1), (21, .iand, 1, [], 0), (22, .ifCond .ne 26, 3, [24], 0), (25, .aload_n 0, 1, [], 0), (26, .getfield 12, 3, [2, 0], 0), (29, .getfield 100, 3, [7, 5], 0), (32, .iload_n 1, 1, [], 0), (33, .iaload, 1, [], 0), (34, .aload_n 0, 1, [], 0), (35, .getfield 12, 3, [2, 0], 0), (38, .getfield 115, 3, [7, 1], 0), (41, .if_icmp .lt 7, 3, [24], 0), (44, .iconst 1, 1, [], 1), (45, .goto 4, 3, [25], 0), (48, .iconst 0, 1, [], 0), (49, .ireturn, 1, [1, 0, 0], 0)]
/-- X3_buyOffice -/
def cd_35 : List PEn := [(0, .aload_n 0, 1, [], 0), (1, .iload_n 1, 1, [], 0), (2, .invokevirtual 118, 3, [34, 1, 2], 0), (5, .ifCond .ne 5, 3, [6], 0), (8, .iconst 0, 1, [], 0), (9, .ireturn, 1, [1, 0, 0], 0), (10, .aload_n 0, 1, [], 0), (11, .getfield 12, 3, [2, 0], 0), (14, .getfield 100, 3, [7, 5], 0), (17, .iload_n 1, 1, [], 0), (18, .dup2, 1, [], 0), (19, .iaload, 1, [], 0), (20, .aload_n 0, 1, [], 0), (21, .getfield 12, 3, [2, 0], 0), (24, .getfield 115, 3, [7, 1], 0), (27, .isub, 1, [], 0), (28, .iastore, 1, [], 0), (29, .aload_n 0, 1, [], 0), (30, .getfield 12, 3, [2, 0], 0), (33, .dup, 1, [], 0), (34, .getfield 55, 3, [7, 3], 0), (37, .iconst 1, 1, [], 1), (38, .iload_n 1, 1, [], 0), (39, .ishl, 1, [], 0), (40, .ior, 1, [], 0), (41, .putfield 55, 3, [7, 3, 0, 0], 0), (44, .aload_n 0, 1, [], 0), (45, .invokevirtual 52, 3, [30, 0, 2], 0), (48, .iconst 1, 1, [], 1), (49, .ireturn, 1, [1, 0, 0], 0)]
/-- X3_loseOffice -/
def cd_36 : List PEn := [(0, .aload_n 0, 1, [], 0), (1, .getfield 12, 3, [2, 0], 0), (4, .iload_n 1, 1, [], 0), (5, .invokevirtual 112, 3, [82, 1, 7], 0), (8, .ifCond .eq 17, 3, [13], 0), (11, .aload_n 0, 1, [], 0), (12, .getfield 12, 3, [2, 0], 0), (15, .getfield 55, 3, [7, 3], 0), (18, .iload_n 1, 1, [], 0), (19, .ishr, 1, [], 0), (20, .iconst 1, 1, [], 1), (21, .iand, 1, [], 0), (22, .ifCond .ne 5, 3, [15], 0), (25, .iconst 0, 1, [], 0), (26, .ireturn, 1, [1, 0, 0], 0), (27, .aload_n 0, 1, [], 0), (28, .getfield 12, 3, [2, 0], 0), (31, .dup, 1, [], 0), (32, .getfield 55, 3, [7, 3], 0), (35, .iconst 1, 1, [], 1), (36, .iload_n 1, 1, [], 0), (37, .ishl, 1, [], 0), (38, .iconst (-1), 1, [], -1), (39, .ixor, 1, [], 0), (40, .iand, 1, [], 0), (41, .putfield 55, 3, [7, 3, 0, 0], 0), (44, .aload_n 0, 1, [], 0), (45, .invokevirtual 52, 3, [30, 0, 2], 0), (48, .iconst 1, 1, [], 1), (49, .ireturn, 1, [1, 0, 0], 0)]
/-- X3_changeQuota -/
def cd_37 : List PEn := [(0, .iload_n 1, 1, [], 0), (1, .aload_n 0, 1, [], 0), (2, .getfield 12, 3, [2, 0], 0), (5, .getfield 65, 3, [7, 0], 0), (8, .if_icmp .ne 5, 3, [7], 0), (11, .iconst 0, 1, [], 0), (12, .ireturn, 1, [1, 0, 0], 0), (13, .aload_n 0, 1, [], 0), (14, .getfield 12, 3, [2, 0], 0), (17, .iload_n 1, 1, [], 0), (18, .putfield 65, 3, [7, 0, 0, 0], 0), (21, .aload_n 0, 1, [], 0), (22, .invokevirtual 52, 3, [30, 0, 2], 0), (25, .iconst 1, 1, [], 1), (26, .ireturn, 1, [1, 0, 0], 0)]
/-- X3_changePrice -/
def cd_38 : List PEn := [(0, .iload_n 1, 1, [], 0), (1, .aload_n 0, 1, [], 0), (2, .getfield 12, 3, [2, 0], 0), (5, .getfield 115, 3, [7, 1], 0), (8, .if_icmp .ne 5, 3, [7], 0), (11, .iconst 0, 1, [], 0), (12, .ireturn, 1, [1, 0, 0], 0), (13, .aload_n 0, 1, [], 0), (14, .getfield 12, 3, [2, 0], 0), (17, .iload_n 1, 1, [], 0), (18, .putfield 115, 3, [7, 1, 0, 0], 0), (21, .iconst 1, 1, [], 1), (22, .ireturn, 1, [1, 0, 0], 0)]
/-- X3_cutRule -/
def cd_39 : List PEn := [(0, .aload_n 0, 1, [], 0), (1, .getfield 12, 3, [2, 0], 0), (4, .iload_n 1, 1, [], 0), (5, .invokevirtual 121, 3, [83, 1, 7], 0), (8, .ifCond .eq 14, 3, [12], 0), (11, .aload_n 0, 1, [], 0), (12, .getfield 39, 3, [2, 5], 0), (15, .iload_n 1, 1, [], 0), (16, .ishr, 1, [], 0), (17, .iconst 1, 1, [], 1), (18, .iand, 1, [], 0), (19, .ifCond .eq 5, 3, [14], 0), (22, .iconst 0, 1, [], 0), (23, .ireturn, 1, [1, 0, 0], 0), (24, .aload_n 0, 1, [], 0), (25, .dup, 1, [], 0), (26, .getfield 39, 3, [2, 5], 0), (29, .iconst 1, 1, [], 1), (30, .iload_n 1, 1, [], 0), (31, .ishl, 1, [], 0), (32, .ior, 1, [], 0), (33, .putfield 39, 3, [2, 5, 0, 0], 0), (36, .aload_n 0, 1, [], 0), (37, .invokevirtual 52, 3, [30, 0, 2], 0), (40, .iconst 1, 1, [], 1), (41, .ireturn, 1, [1, 0, 0], 0)]
/-- X3_detail -/
def cd_40 : List PEn := [(0, .iload_n 1, 1, [], 0), (1, .tableswitch 96 0 7 #[47, 52, 57, 62, 70, 75, 83, 91], 47, [29, 2, 5, 8, 11, 15, 18, 22, 26], 0), (48, .aload_n 0, 1, [], 0), (49, .getfield 29, 3, [2, 2], 0), (52, .ireturn, 1, [0, 0, 0], 0), (53, .aload_n 0, 1, [], 0), (54, .getfield 33, 3, [2, 3], 0), (57, .ireturn, 1, [0, 0, 0], 0), (58, .aload_n 0, 1, [], 0), (59, .getfield 36, 3, [2, 4], 0), (62, .ireturn, 1, [0, 0, 0], 0), (63, .aload_n 0, 1, [], 0), (64, .getfield 12, 3, [2, 0], 0), (67, .getfield 55, 3, [7, 3], 0), (70, .ireturn, 1, [0, 0, 0], 0), (71, .aload_n 0, 1, [], 0), (72, .getfield 62, 3, [2, 6], 0), (75, .ireturn, 1, [0, 0, 0], 0), (76, .aload_n 0, 1, [], 0), (77, .getfield 12, 3, [2, 0], 0), (80, .getfield 65, 3, [7, 0], 0), (83, .ireturn, 1, [0, 0, 0], 0), (84, .aload_n 0, 1, [], 0), (85, .getfield 12, 3, [2, 0], 0), (88, .getfield 115, 3, [7, 1], 0), (91, .ireturn, 1, [0, 0, 0], 0), (92, .aload_n 0, 1, [], 0), (93, .getfield 39, 3, [2, 5], 0), (96, .ireturn, 1, [0, 0, 0], 0), (97, .iload_n 1, 1, [], 0), (98, .bipush 20, 2, [], 20), (100, .if_icmp .lt 34, 3, [48], 0), (103, .aload_n 0, 1, [], 0), (104, .getfield 12, 3, [2, 0], 0), (107, .iload_n 1, 1, [], 0), (108, .bipush 20, 2, [], 20), (110, .isub, 1, [], 0), (111, .invokevirtual 112, 3, [82, 1, 7], 0), (114, .ifCond .eq 17, 3, [46], 0), (117, .aload_n 0, 1, [], 0), (118, .getfield 21, 3, [2, 1], 0), (121, .iload_n 1, 1, [], 0), (122, .bipush 20, 2, [], 20), (124, .isub, 1, [], 0), (125, .invokevirtual 96, 3, [54, 1, 4], 0), (128, .goto 5, 3, [47], 0), (131, .bipush (-2), 2, [], -2), (133, .ireturn, 1, [0, 0, 0], 0), (134, .iload_n 1, 1, [], 0), (135, .bipush 10, 2, [], 10), (137, .if_icmp .lt 32, 3, [66], 0), (140, .aload_n 0, 1, [], 0), (141, .getfield 12, 3, [2, 0], 0), (144, .iload_n 1, 1, [], 0), (145, .bipush 10, 2, [], 10), (147, .isub, 1, [], 0), (148, .invokevirtual 112, 3, [82, 1, 7], 0), (151, .ifCond .eq 18, 3, [66], 0), (154, .aload_n 0, 1, [], 0), (155, .getfield 12, 3, [2, 0], 0), (158, .getfield 100, 3, [7, 5], 0), (161, .iload_n 1, 1, [], 0), (162, .bipush 10, 2, [], 10), (164, .isub, 1, [], 0), (165, .iaload, 1, [], 0), (166, .goto 5, 3, [67], 0), (169, .bipush (-2), 2, [], -2), (171, .ireturn, 1, [0, 0, 0], 0)]
/-- X4_init -/
def cd_41 : List PEn := [(0, .aload_n 0, 1, [], 0), (1, .invokespecial 3, 3, [900, 0], 0), (4, .aload_n 0, 1, [], 0), (5, .sipush 128, 3, [], 128), (8, .newarray .int, 2, [], 0), (10, .putfield 9, 3, [3, 2, 2, 1], 0), (13, .aload_n 0, 1, [], 0), (14, .sipush 128, 3, [], 128), (17, .newarray .long, 2, [], 0), (19, .putfield 15, 3, [3, 3, 2, 1], 0), (22, .aload_n 0, 1, [], 0), (23, .sipush 128, 3, [], 128), (26, .newarray .int, 2, [], 0), (28, .putfield 19, 3, [3, 4, 2, 1], 0), (31, .aload_n 0, 1, [], 0), (32, .new 22, 3, [4, 0, 2, 2], 0), (35, .dup, 1, [], 0), (36, .invokespecial 24, 3, [53, 0], 0), (39, .putfield 25, 3, [3, 5, 2, 1], 0), (42, .return_, 1, [1, 6, 401], 0)]
/-- X4_find -/
def cd_42 : List PEn := [(0, .aload_n 0, 1, [], 0), (1, .iconst 0, 1, [], 0), (2, .putfield 29, 3, [3, 0, 0, 0], 0), (5, .aload_n 0, 1, [], 0), (6, .aload_n 1, 1, [], 0), (7, .getfield 33, 3, [7, 2], 0), (10, .putfield 38, 3, [3, 1, 0, 0], 0), (13, .iconst 0, 1, [], 0), (14, .istore_n 3, 1, [], 0), (15, .iload_n 3, 1, [], 0), (16, .aload_n 1, 1, [], 0), (17, .invokevirtual 39, 3, [84, 0, 7], 0), (20, .if_icmp .gt 86, 3, [56], 0), (23, .iload_n 3, 1, [], 0), (24, .sipush 128, 3, [], 128), (27, .if_icmp .ge 79, 3, [56], 0), (30, .aload_n 0, 1, [], 0), (31, .getfield 25, 3, [3, 5], 0), (34, .aload_n 1, 1, [], 0), (35, .aload_n 1, 1, [], 0), (36, .getfield 43, 3, [7, 0], 0), (39, .aload_n 1, 1, [], 0), (40, .iload_n 3, 1, [], 0), (41, .iconst 0, 1, [], 0), (42, .invokevirtual 46, 3, [86, 2, 7], 0), (45, .invokevirtual 50, 3, [55, 3, 4], 0), (48, .aload_n 0, 1, [], 0), (49, .getfield 29, 3, [3, 0], 0), (52, .sipush 128, 3, [], 128), (55, .if_icmp .ge 45, 3, [54], 0), (58, .aload_n 0, 1, [], 0), (59, .aload_n 1, 1, [], 0), (60, .aload_n 2, 1, [], 0), (61, .invokevirtual 54, 3, [43, 2, 3], 0), (64, .ifCond .eq 36, 3, [54], 0), (67, .aload_n 0, 1, [], 0), (68, .getfield 9, 3, [3, 2], 0), (71, .aload_n 0, 1, [], 0), (72, .getfield 29, 3, [3, 0], 0), (75, .iload_n 3, 1, [], 0), (76, .iastore, 1, [], 0), (77, .aload_n 0, 1, [], 0), (78, .getfield 15, 3, [3, 3], 0), (81, .aload_n 0, 1, [], 0), (82, .getfield 29, 3, [3, 0], 0), (85, .aload_n 0, 1, [], 0), (86, .invokevirtual 58, 3, [44, 0, 3], 0), (89, .lastore, 1, [], 0), (90, .aload_n 0, 1, [], 0), (91, .dup, 1, [], 0), (92, .getfield 29, 3, [3, 0], 0), (95, .iconst 1, 1, [], 1), (96, .iadd, 1, [], 0), (97, .putfield 29, 3, [3, 0, 0, 0], 0), (100, .iinc 3 1, 3, [], 0), (103, .goto (-88), 3, [9], 0), (106, .return_, 1, [1, 0, 0], 0)]
/-- X4_isAsLogged -/
def cd_43 : List PEn := [(0, .iconst 0, 1, [], 0), (1, .istore_n 3, 1, [], 0), (2, .iload_n 3, 1, [], 0), (3, .aload_n 2, 1, [], 0), (4, .getfield 62, 3, [6, 0], 0), (7, .if_icmp .ge 52, 3, [32], 0), (10, .iload_n 3, 1, [], 0), (11, .bipush 8, 2, [], 8), (13, .if_icmp .ge 46, 3, [32], 0), (16, .aload_n 1, 1, [], 0), (17, .aload_n 2, 1, [], 0), (18, .getfield 65, 3, [6, 1], 0), (21, .iload_n 3, 1, [], 0), (22, .iaload, 1, [], 0), (23, .invokevirtual 68, 3, [82, 1, 7], 0), (26, .ifCond .eq 25, 3, [28], 0), (29, .aload_n 0, 1, [], 0), (30, .getfield 25, 3, [3, 5], 0), (33, .aload_n 2, 1, [], 0), (34, .getfield 65, 3, [6, 1], 0), (37, .iload_n 3, 1, [], 0), (38, .iaload, 1, [], 0), (39, .invokevirtual 72, 3, [54, 1, 4], 0), (42, .aload_n 2, 1, [], 0), (43, .getfield 76, 3, [6, 2], 0), (46, .iload_n 3, 1, [], 0), (47, .iaload, 1, [], 0), (48, .if_icmp .eq 5, 3, [30], 0), (51, .iconst 0, 1, [], 0), (52, .ireturn, 1, [1, 0, 0], 0), (53, .iinc 3 1, 3, [], 0), (56, .goto (-54), 3, [2], 0), (59, .iconst 1, 1, [], 1), (60, .ireturn, 1, [1, 0, 0], 0)]
/-- X4_packedTaxes -/
def cd_44 : List PEn := [(0, .lconst 0, 1, [], 0), (1, .lstore_n 1, 1, [], 0), (2, .aload_n 0, 1, [], 0), (3, .getfield 38, 3, [3, 1], 0), (6, .iconst 1, 1, [], 1), (7, .isub, 1, [], 0), (8, .istore_n 3, 1, [], 0), (9, .iload_n 3, 1, [], 0), (10, .ifCond .lt 24, 3, [21], 0), (13, .lload_n 1, 1, [], 0), (14, .bipush 7, 2, [], 7), (16, .lshl, 1, [], 0), (17, .aload_n 0, 1, [], 0), (18, .getfield 25, 3, [3, 5], 0), (21, .iload_n 3, 1, [], 0), (22, .invokevirtual 72, 3, [54, 1, 4], 0), (25, .i2l, 1, [], 0), (26, .lor, 1, [], 0), (27, .lstore_n 1, 1, [], 0), (28, .iinc 3 (-1), 3, [], 0), (31, .goto (-22), 3, [7], 0), (34, .lload_n 1, 1, [], 0), (35, .lreturn, 1, [1, 0, 0], 0)]
/-- X4_fittingSet -/
def cd_45 : List PEn := [(0, .iload_n 1, 1, [], 0), (1, .ifCond .lt 27, 3, [14], 0), (4, .iload_n 1, 1, [], 0), (5, .aload_n 0, 1, [], 0), (6, .getfield 29, 3, [3, 0], 0), (9, .if_icmp .ge 19, 3, [14], 0), (12, .iload_n 1, 1, [], 0), (13, .sipush 128, 3, [], 128), (16, .if_icmp .ge 12, 3, [14], 0), (19, .aload_n 0, 1, [], 0), (20, .getfield 9, 3, [3, 2], 0), (23, .iload_n 1, 1, [], 0), (24, .iaload, 1, [], 0), (25, .goto 5, 3, [15], 0), (28, .bipush (-2), 2, [], -2), (30, .ireturn, 1, [0, 0, 0], 0)]
/-- X4_holding -/
def cd_46 : List PEn := [(0, .iconst 0, 1, [], 0), (1, .istore_n 2, 1, [], 0), (2, .iconst 0, 1, [], 0), (3, .istore_n 3, 1, [], 0), (4, .iload_n 3, 1, [], 0), (5, .aload_n 0, 1, [], 0), (6, .getfield 29, 3, [3, 0], 0), (9, .if_icmp .ge 29, 3, [24], 0), (12, .iload_n 3, 1, [], 0), (13, .sipush 128, 3, [], 128), (16, .if_icmp .ge 22, 3, [24], 0), (19, .iload_n 2, 1, [], 0), (20, .aload_n 0, 1, [], 0), (21, .getfield 9, 3, [3, 2], 0), (24, .iload_n 3, 1, [], 0), (25, .iaload, 1, [], 0), (26, .iload_n 1, 1, [], 0), (27, .ishr, 1, [], 0), (28, .iconst 1, 1, [], 1), (29, .iand, 1, [], 0), (30, .iadd, 1, [], 0), (31, .istore_n 2, 1, [], 0), (32, .iinc 3 1, 3, [], 0), (35, .goto (-31), 3, [4], 0), (38, .iload_n 2, 1, [], 0), (39, .ireturn, 1, [0, 0, 0], 0)]
/-- X4_sureOf -/
def cd_47 : List PEn := [(0, .aload_n 0, 1, [], 0), (1, .getfield 29, 3, [3, 0], 0), (4, .ifCond .eq 15, 3, [9], 0), (7, .iload_n 1, 1, [], 0), (8, .ifCond .lt 11, 3, [9], 0), (11, .iload_n 1, 1, [], 0), (12, .aload_n 0, 1, [], 0), (13, .getfield 38, 3, [3, 1], 0), (16, .if_icmp .lt 5, 3, [11], 0), (19, .iconst (-1), 1, [], -1), (20, .ireturn, 1, [0, 0, 0], 0), (21, .aload_n 0, 1, [], 0), (22, .iload_n 1, 1, [], 0), (23, .invokevirtual 79, 3, [46, 1, 3], 0), (26, .istore_n 2, 1, [], 0), (27, .iload_n 2, 1, [], 0), (28, .aload_n 0, 1, [], 0), (29, .getfield 29, 3, [3, 0], 0), (32, .if_icmp .ne 7, 3, [21], 0), (35, .iconst 1, 1, [], 1), (36, .goto 12, 3, [26], 0), (39, .iload_n 2, 1, [], 0), (40, .ifCond .ne 7, 3, [25], 0), (43, .iconst 0, 1, [], 0), (44, .goto 4, 3, [26], 0), (47, .iconst (-1), 1, [], -1), (48, .ireturn, 1, [0, 0, 0], 0)]
/-- X4_bestQuestion -/
def cd_48 : List PEn := [(0, .aload_n 0, 1, [], 0), (1, .getfield 29, 3, [3, 0], 0), (4, .ifCond .ne 5, 3, [5], 0), (7, .iconst (-1), 1, [], -1), (8, .ireturn, 1, [0, 0, 0], 0), (9, .iconst (-1), 1, [], -1), (10, .istore_n 1, 1, [], 0), (11, .sipush 129, 3, [], 129), (14, .istore_n 2, 1, [], 0), (15, .iconst 0, 1, [], 0), (16, .istore_n 3, 1, [], 0), (17, .iload_n 3, 1, [], 0), (18, .aload_n 0, 1, [], 0), (19, .getfield 38, 3, [3, 1], 0), (22, .if_icmp .ge 27, 3, [28], 0), (25, .aload_n 0, 1, [], 0), (26, .iload_n 3, 1, [], 0), (27, .invokevirtual 82, 3, [49, 1, 3], 0), (30, .istore 4, 2, [], 0), (32, .iload 4, 2, [], 0), (34, .iload_n 2, 1, [], 0), (35, .if_icmp .ge 8, 3, [26], 0), (38, .iload_n 3, 1, [], 0), (39, .istore_n 1, 1, [], 0), (40, .iload 4, 2, [], 0), (42, .istore_n 2, 1, [], 0), (43, .iinc 3 1, 3, [], 0), (46, .goto (-29), 3, [11], 0), (49, .iload_n 1, 1, [], 0), (50, .ireturn, 1, [0, 0, 0], 0)]
/-- X4_leftAtWorst -/
def cd_49 : List PEn := [(0, .iconst 0, 1, [], 0), (1, .istore_n 2, 1, [], 0), (2, .iload_n 2, 1, [], 0), (3, .bipush 127, 2, [], 127), (5, .if_icmp .gt 16, 3, [12], 0), (8, .aload_n 0, 1, [], 0), (9, .getfield 19, 3, [3, 4], 0), (12, .iload_n 2, 1, [], 0), (13, .iconst 0, 1, [], 0), (14, .iastore, 1, [], 0), (15, .iinc 2 1, 3, [], 0), (18, .goto (-16), 3, [2], 0), (21, .iconst 0, 1, [], 0), (22, .istore_n 2, 1, [], 0), (23, .iconst 0, 1, [], 0), (24, .istore_n 3, 1, [], 0), (25, .iload_n 3, 1, [], 0), (26, .aload_n 0, 1, [], 0), (27, .getfield 29, 3, [3, 0], 0), (30, .if_icmp .ge 56, 3, [52], 0), (33, .iload_n 3, 1, [], 0), (34, .sipush 128, 3, [], 128), (37, .if_icmp .ge 49, 3, [52], 0), (40, .aload_n 0, 1, [], 0), (41, .getfield 15, 3, [3, 3], 0), (44, .iload_n 3, 1, [], 0), (45, .laload, 1, [], 0), (46, .iload_n 1, 1, [], 0), (47, .bipush 7, 2, [], 7), (49, .imul, 1, [], 0), (50, .lshr, 1, [], 0), (51, .l2i, 1, [], 0), (52, .bipush 127, 2, [], 127), (54, .iand, 1, [], 0), (55, .istore 4, 2, [], 0), (57, .aload_n 0, 1, [], 0), (58, .getfield 19, 3, [3, 4], 0), (61, .iload 4, 2, [], 0), (63, .dup2, 1, [], 0), (64, .iaload, 1, [], 0), (65, .iconst 1, 1, [], 1), (66, .iadd, 1, [], 0), (67, .iastore, 1, [], 0), (68, .iload_n 2, 1, [], 0), (69, .aload_n 0, 1, [], 0), (70, .getfield 19, 3, [3, 4], 0), (73, .iload 4, 2, [], 0), (75, .iaload, 1, [], 0), (76, .invokestatic 85, 3, [904], 0), (79, .istore_n 2, 1, [], 0), (80, .iinc 3 1, 3, [], 0), (83, .goto (-58), 3, [16], 0), (86, .iload_n 2, 1, [], 0), (87, .ireturn, 1, [0, 0, 0], 0)]
/-- X4_fewestHouses -/
def cd_50 : List PEn := [(0, .iconst (-1), 1, [], -1), (1, .istore_n 1, 1, [], 0), (2, .iconst 0, 1, [], 0), (3, .istore_n 2, 1, [], 0), (4, .iload_n 2, 1, [], 0), (5, .aload_n 0, 1, [], 0), (6, .getfield 29, 3, [3, 0], 0), (9, .if_icmp .ge 41, 3, [28], 0), (12, .iload_n 2, 1, [], 0), (13, .sipush 128, 3, [], 128), (16, .if_icmp .ge 34, 3, [28], 0), (19, .aload_n 0, 1, [], 0), (20, .getfield 9, 3, [3, 2], 0), (23, .iload_n 2, 1, [], 0), (24, .iaload, 1, [], 0), (25, .invokestatic 90, 3, [283, 1], 0), (28, .istore_n 3, 1, [], 0), (29, .iload_n 1, 1, [], 0), (30, .iconst (-1), 1, [], -1), (31, .if_icmp .ne 7, 3, [22], 0), (34, .iload_n 3, 1, [], 0), (35, .goto 8, 3, [25], 0), (38, .iload_n 1, 1, [], 0), (39, .iload_n 3, 1, [], 0), (40, .invokestatic 95, 3, [905], 0), (43, .istore_n 1, 1, [], 0), (44, .iinc 2 1, 3, [], 0), (47, .goto (-43), 3, [4], 0), (50, .iload_n 1, 1, [], 0), (51, .ireturn, 1, [0, 0, 0], 0)]
/-- X4_mostHouses -/
def cd_51 : List PEn := [(0, .iconst (-1), 1, [], -1), (1, .istore_n 1, 1, [], 0), (2, .iconst 0, 1, [], 0), (3, .istore_n 2, 1, [], 0), (4, .iload_n 2, 1, [], 0), (5, .aload_n 0, 1, [], 0), (6, .getfield 29, 3, [3, 0], 0), (9, .if_icmp .ge 30, 3, [21], 0), (12, .iload_n 2, 1, [], 0), (13, .sipush 128, 3, [], 128), (16, .if_icmp .ge 23, 3, [21], 0), (19, .iload_n 1, 1, [], 0), (20, .aload_n 0, 1, [], 0), (21, .getfield 9, 3, [3, 2], 0), (24, .iload_n 2, 1, [], 0), (25, .iaload, 1, [], 0), (26, .invokestatic 90, 3, [283, 1], 0), (29, .invokestatic 85, 3, [904], 0), (32, .istore_n 1, 1, [], 0), (33, .iinc 2 1, 3, [], 0), (36, .goto (-32), 3, [4], 0), (39, .iload_n 1, 1, [], 0), (40, .ireturn, 1, [0, 0, 0], 0)]
/-- X4_alikeCouples -/
def cd_52 : List PEn := [(0, .iconst 0, 1, [], 0), (1, .istore_n 1, 1, [], 0), (2, .iconst 0, 1, [], 0), (3, .istore_n 2, 1, [], 0), (4, .iload_n 2, 1, [], 0), (5, .aload_n 0, 1, [], 0), (6, .getfield 29, 3, [3, 0], 0), (9, .if_icmp .ge 48, 3, [31], 0), (12, .iload_n 2, 1, [], 0), (13, .sipush 128, 3, [], 128), (16, .if_icmp .ge 41, 3, [31], 0), (19, .iconst 0, 1, [], 0), (20, .istore_n 3, 1, [], 0), (21, .iload_n 3, 1, [], 0), (22, .iload_n 2, 1, [], 0), (23, .if_icmp .ge 28, 3, [29], 0), (26, .aload_n 0, 1, [], 0), (27, .getfield 15, 3, [3, 3], 0), (30, .iload_n 2, 1, [], 0), (31, .laload, 1, [], 0), (32, .aload_n 0, 1, [], 0), (33, .getfield 15, 3, [3, 3], 0), (36, .iload_n 3, 1, [], 0), (37, .laload, 1, [], 0), (38, .lcmp, 1, [], 0), (39, .ifCond .ne 6, 3, [27], 0), (42, .iinc 1 1, 3, [], 0), (45, .iinc 3 1, 3, [], 0), (48, .goto (-27), 3, [13], 0), (51, .iinc 2 1, 3, [], 0), (54, .goto (-50), 3, [4], 0), (57, .iload_n 1, 1, [], 0), (58, .ireturn, 1, [0, 0, 0], 0)]
/-- X5_init -/
def cd_53 : List PEn := [(0, .aload_n 0, 1, [], 0), (1, .invokespecial 3, 3, [900, 0], 0), (4, .aload_n 0, 1, [], 0), (5, .bipush 7, 2, [], 7), (7, .newarray .int, 2, [], 0), (9, .putfield 9, 3, [4, 1, 2, 1], 0), (12, .aload_n 0, 1, [], 0), (13, .bipush 7, 2, [], 7), (15, .newarray .int, 2, [], 0), (17, .putfield 15, 3, [4, 2, 2, 1], 0), (20, .return_, 1, [1, 2, 14], 0)]
/-- X5_taxOf -/
def cd_54 : List PEn := [(0, .iload_n 1, 1, [], 0), (1, .ifCond .lt 18, 3, [10], 0), (4, .iload_n 1, 1, [], 0), (5, .bipush 7, 2, [], 7), (7, .if_icmp .ge 12, 3, [10], 0), (10, .aload_n 0, 1, [], 0), (11, .getfield 9, 3, [4, 1], 0), (14, .iload_n 1, 1, [], 0), (15, .iaload, 1, [], 0), (16, .goto 4, 3, [11], 0), (19, .iconst 0, 1, [], 0), (20, .ireturn, 1, [0, 0, 0], 0)]
/-- X5_share -/
def cd_55 : List PEn := [(0, .iconst 0, 1, [], 0), (1, .istore 4, 2, [], 0), (3, .iconst 0, 1, [], 0), (4, .istore 5, 2, [], 0), (6, .iload 5, 2, [], 0), (8, .bipush 7, 2, [], 7), (10, .if_icmp .ge 55, 3, [36], 0), (13, .aload_n 0, 1, [], 0), (14, .getfield 9, 3, [4, 1], 0), (17, .iload 5, 2, [], 0), (19, .iconst 0, 1, [], 0), (20, .iastore, 1, [], 0), (21, .aload_n 0, 1, [], 0), (22, .getfield 15, 3, [4, 2], 0), (25, .iload 5, 2, [], 0), (27, .iconst 0, 1, [], 0), (28, .iastore, 1, [], 0), (29, .iload 5, 2, [], 0), (31, .aload_n 1, 1, [], 0), (32, .getfield 18, 3, [7, 2], 0), (35, .if_icmp .ge 24, 3, [34], 0), (38, .iload_n 3, 1, [], 0), (39, .iload 5, 2, [], 0), (41, .ishr, 1, [], 0), (42, .iconst 1, 1, [], 1), (43, .iand, 1, [], 0), (44, .ifCond .ne 15, 3, [34], 0), (47, .iload 4, 2, [], 0), (49, .aload_n 1, 1, [], 0), (50, .getfield 24, 3, [7, 5], 0), (53, .iload 5, 2, [], 0), (55, .iaload, 1, [], 0), (56, .iadd, 1, [], 0), (57, .istore 4, 2, [], 0), (59, .iinc 5 1, 3, [], 0), (62, .goto (-56), 3, [4], 0), (65, .aload_n 0, 1, [], 0), (66, .iload 4, 2, [], 0), (68, .ifCond .le 7, 3, [41], 0), (71, .iconst 0, 1, [], 0), (72, .goto 4, 3, [42], 0), (75, .iload_n 2, 1, [], 0), (76, .putfield 27, 3, [4, 0, 0, 0], 0), (79, .iload 4, 2, [], 0), (81, .ifCond .gt 4, 3, [46], 0), (84, .return_, 1, [1, 0, 0], 0), (85, .iload_n 2, 1, [], 0), (86, .istore 5, 2, [], 0), (88, .iconst 0, 1, [], 0), (89, .istore 6, 2, [], 0), (91, .iload 6, 2, [], 0), (93, .aload_n 1, 1, [], 0), (94, .getfield 18, 3, [7, 2], 0), (97, .if_icmp .ge 80, 3, [98], 0), (100, .iload 6, 2, [], 0), (102, .bipush 7, 2, [], 7), (104, .if_icmp .ge 73, 3, [98], 0), (107, .iload_n 3, 1, [], 0), (108, .iload 6, 2, [], 0), (110, .ishr, 1, [], 0), (111, .iconst 1, 1, [], 1), (112, .iand, 1, [], 0), (113, .ifCond .ne 58, 3, [96], 0), (116, .iload_n 2, 1, [], 0), (117, .aload_n 1, 1, [], 0), (118, .getfield 24, 3, [7, 5], 0), (121, .iload 6, 2, [], 0), (123, .iaload, 1, [], 0), (124, .imul, 1, [], 0), (125, .istore 7, 2, [], 0), (127, .aload_n 0, 1, [], 0), (128, .getfield 9, 3, [4, 1], 0), (131, .iload 6, 2, [], 0), (133, .iload 7, 2, [], 0), (135, .iload 4, 2, [], 0), (137, .idiv, 1, [], 0), (138, .iastore, 1, [], 0), (139, .aload_n 0, 1, [], 0), (140, .getfield 15, 3, [4, 2], 0), (143, .iload 6, 2, [], 0), (145, .iload 7, 2, [], 0), (147, .aload_n 0, 1, [], 0), (148, .getfield 9, 3, [4, 1], 0), (151, .iload 6, 2, [], 0), (153, .iaload, 1, [], 0), (154, .iload 4, 2, [], 0), (156, .imul, 1, [], 0), (157, .isub, 1, [], 0), (158, .iastore, 1, [], 0), (159, .iload 5, 2, [], 0), (161, .aload_n 0, 1, [], 0), (162, .getfield 9, 3, [4, 1], 0), (165, .iload 6, 2, [], 0), (167, .iaload, 1, [], 0), (168, .isub, 1, [], 0), (169, .istore 5, 2, [], 0), (171, .iinc 6 1, 3, [], 0), (174, .goto (-83), 3, [50], 0), (177, .iconst 0, 1, [], 0), (178, .istore 6, 2, [], 0), (180, .iload 6, 2, [], 0), (182, .iload 5, 2, [], 0), (184, .if_icmp .ge 20, 3, [110], 0), (187, .iload 6, 2, [], 0), (189, .bipush 7, 2, [], 7), (191, .if_icmp .ge 13, 3, [110], 0), (194, .aload_n 0, 1, [], 0), (195, .invokevirtual 30, 3, [56, 0, 4], 0), (198, .iinc 6 1, 3, [], 0), (201, .goto (-21), 3, [100], 0), (204, .return_, 1, [1, 0, 0], 0)]
/-- X5_giveOneMore -/
def cd_56 : List PEn := [(0, .iconst 0, 1, [], 0), (1, .istore_n 1, 1, [], 0), (2, .iconst 1, 1, [], 1), (3, .istore_n 2, 1, [], 0), (4, .iload_n 2, 1, [], 0), (5, .bipush 7, 2, [], 7), (7, .if_icmp .ge 26, 3, [20], 0), (10, .aload_n 0, 1, [], 0), (11, .getfield 15, 3, [4, 2], 0), (14, .iload_n 2, 1, [], 0), (15, .iaload, 1, [], 0), (16, .aload_n 0, 1, [], 0), (17, .getfield 15, 3, [4, 2], 0), (20, .iload_n 1, 1, [], 0), (21, .iaload, 1, [], 0), (22, .if_icmp .le 5, 3, [18], 0), (25, .iload_n 2, 1, [], 0), (26, .istore_n 1, 1, [], 0), (27, .iinc 2 1, 3, [], 0), (30, .goto (-26), 3, [4], 0), (33, .aload_n 0, 1, [], 0), (34, .getfield 9, 3, [4, 1], 0), (37, .iload_n 1, 1, [], 0), (38, .dup2, 1, [], 0), (39, .iaload, 1, [], 0), (40, .iconst 1, 1, [], 1), (41, .iadd, 1, [], 0), (42, .iastore, 1, [], 0), (43, .aload_n 0, 1, [], 0), (44, .getfield 15, 3, [4, 2], 0), (47, .iload_n 1, 1, [], 0), (48, .iconst 0, 1, [], 0), (49, .iastore, 1, [], 0), (50, .return_, 1, [1, 0, 0], 0)]
/-- X6_init -/
def cd_57 : List PEn := [(0, .aload_n 0, 1, [], 0), (1, .invokespecial 3, 3, [900, 0], 0), (4, .aload_n 0, 1, [], 0), (5, .aload_n 1, 1, [], 0), (6, .putfield 9, 3, [5, 0, 2, 1], 0), (9, .return_, 1, [1, 0, 0], 0)]
/-- X6_goYears -/
def cd_58 : List PEn := [(0, .aload_n 0, 1, [], 0), (1, .getfield 9, 3, [5, 0], 0), (4, .aload_n 1, 1, [], 0), (5, .invokevirtual 15, 3, [29, 1, 2], 0), (8, .iconst 0, 1, [], 0), (9, .istore_n 3, 1, [], 0), (10, .iload_n 3, 1, [], 0), (11, .iload_n 2, 1, [], 0), (12, .if_icmp .ge 23, 3, [18], 0), (15, .iload_n 3, 1, [], 0), (16, .bipush 50, 2, [], 50), (18, .if_icmp .ge 17, 3, [18], 0), (21, .aload_n 0, 1, [], 0), (22, .getfield 9, 3, [5, 0], 0), (25, .invokevirtual 21, 3, [33, 0, 2], 0), (28, .pop, 1, [], 0), (29, .iinc 3 1, 3, [], 0), (32, .goto (-22), 3, [6], 0), (35, .return_, 1, [1, 0, 0], 0)]
/-- X6_ruinYear -/
def cd_59 : List PEn := [(0, .aload_n 0, 1, [], 0), (1, .getfield 9, 3, [5, 0], 0), (4, .aload_n 1, 1, [], 0), (5, .invokevirtual 15, 3, [29, 1, 2], 0), (8, .aload_n 0, 1, [], 0), (9, .getfield 9, 3, [5, 0], 0), (12, .getfield 25, 3, [2, 0], 0), (15, .iload_n 2, 1, [], 0), (16, .putfield 29, 3, [7, 0, 0, 0], 0), (19, .aload_n 0, 1, [], 0), (20, .getfield 9, 3, [5, 0], 0), (23, .invokevirtual 35, 3, [30, 0, 2], 0), (26, .iconst 1, 1, [], 1), (27, .istore 4, 2, [], 0), (29, .iload 4, 2, [], 0), (31, .iload_n 3, 1, [], 0), (32, .if_icmp .gt 38, 3, [33], 0), (35, .iload 4, 2, [], 0), (37, .bipush 50, 2, [], 50), (39, .if_icmp .gt 31, 3, [33], 0), (42, .aload_n 0, 1, [], 0), (43, .getfield 9, 3, [5, 0], 0), (46, .invokevirtual 21, 3, [33, 0, 2], 0), (49, .pop, 1, [], 0), (50, .aload_n 0, 1, [], 0), (51, .getfield 9, 3, [5, 0], 0), (54, .getfield 38, 3, [2, 8], 0), (57, .iconst (-1), 1, [], -1), (58, .if_icmp .eq 6, 3, [31], 0), (61, .iload 4, 2, [], 0), (63, .ireturn, 1, [0, 0, 0], 0), (64, .iinc 4 1, 3, [], 0), (67, .goto (-38), 3, [14], 0), (70, .iconst (-1), 1, [], -1), (71, .ireturn, 1, [0, 0, 0], 0)]
/-- X6_topQuota -/
def cd_60 : List PEn := [(0, .bipush 99, 2, [], 99), (2, .istore_n 3, 1, [], 0), (3, .iload_n 3, 1, [], 0), (4, .ifCond .le 22, 3, [15], 0), (7, .aload_n 0, 1, [], 0), (8, .aload_n 1, 1, [], 0), (9, .iload_n 3, 1, [], 0), (10, .iload_n 2, 1, [], 0), (11, .invokevirtual 41, 3, [59, 3, 5], 0), (14, .iconst (-1), 1, [], -1), (15, .if_icmp .ne 5, 3, [13], 0), (18, .iload_n 3, 1, [], 0), (19, .ireturn, 1, [0, 0, 0], 0), (20, .iinc 3 (-1), 3, [], 0), (23, .goto (-20), 3, [2], 0), (26, .iconst 0, 1, [], 0), (27, .ireturn, 1, [0, 0, 0], 0)]
/-- X6_passedYear -/
def cd_61 : List PEn := [(0, .aload_n 0, 1, [], 0), (1, .getfield 9, 3, [5, 0], 0), (4, .aload_n 1, 1, [], 0), (5, .invokevirtual 15, 3, [29, 1, 2], 0), (8, .aload_n 0, 1, [], 0), (9, .getfield 9, 3, [5, 0], 0), (12, .getfield 25, 3, [2, 0], 0), (15, .invokevirtual 45, 3, [89, 0, 7], 0), (18, .istore_n 2, 1, [], 0), (19, .iconst 1, 1, [], 1), (20, .istore_n 3, 1, [], 0), (21, .iload_n 3, 1, [], 0), (22, .bipush 50, 2, [], 50), (24, .if_icmp .gt 33, 3, [28], 0), (27, .aload_n 0, 1, [], 0), (28, .getfield 9, 3, [5, 0], 0), (31, .invokevirtual 21, 3, [33, 0, 2], 0), (34, .pop, 1, [], 0), (35, .aload_n 0, 1, [], 0), (36, .getfield 9, 3, [5, 0], 0), (39, .getfield 25, 3, [2, 0], 0), (42, .invokevirtual 45, 3, [89, 0, 7], 0), (45, .iload_n 2, 1, [], 0), (46, .if_icmp .eq 5, 3, [26], 0), (49, .iload_n 3, 1, [], 0), (50, .ireturn, 1, [0, 0, 0], 0), (51, .iinc 3 1, 3, [], 0), (54, .goto (-33), 3, [11], 0), (57, .iconst (-1), 1, [], -1), (58, .ireturn, 1, [0, 0, 0], 0)]
/-- X6_levelYear -/
def cd_62 : List PEn := [(0, .aload_n 0, 1, [], 0), (1, .getfield 9, 3, [5, 0], 0), (4, .aload_n 1, 1, [], 0), (5, .invokevirtual 15, 3, [29, 1, 2], 0), (8, .iconst 0, 1, [], 0), (9, .istore_n 2, 1, [], 0), (10, .iload_n 2, 1, [], 0), (11, .bipush 50, 2, [], 50), (13, .if_icmp .gt 29, 3, [21], 0), (16, .aload_n 0, 1, [], 0), (17, .getfield 9, 3, [5, 0], 0), (20, .invokevirtual 21, 3, [33, 0, 2], 0), (23, .pop, 1, [], 0), (24, .aload_n 0, 1, [], 0), (25, .getfield 9, 3, [5, 0], 0), (28, .getfield 49, 3, [2, 9], 0), (31, .ifCond .ne 5, 3, [19], 0), (34, .iload_n 2, 1, [], 0), (35, .ireturn, 1, [0, 0, 0], 0), (36, .iinc 2 1, 3, [], 0), (39, .goto (-29), 3, [6], 0), (42, .iconst (-1), 1, [], -1), (43, .ireturn, 1, [0, 0, 0], 0)]
/-- X6_spreadOf -/
def cd_63 : List PEn := [(0, .aload_n 0, 1, [], 0), (1, .getfield 9, 3, [5, 0], 0), (4, .aload_n 1, 1, [], 0), (5, .invokevirtual 15, 3, [29, 1, 2], 0), (8, .iconst 0, 1, [], 0), (9, .istore_n 2, 1, [], 0), (10, .iconst (-1), 1, [], -1), (11, .istore_n 3, 1, [], 0), (12, .iconst 0, 1, [], 0), (13, .istore 4, 2, [], 0), (15, .iload 4, 2, [], 0), (17, .aload_n 1, 1, [], 0), (18, .getfield 53, 3, [7, 2], 0), (21, .if_icmp .ge 66, 3, [43], 0), (24, .iload 4, 2, [], 0), (26, .bipush 7, 2, [], 7), (28, .if_icmp .ge 59, 3, [43], 0), (31, .aload_n 0, 1, [], 0), (32, .getfield 9, 3, [5, 0], 0), (35, .getfield 56, 3, [2, 1], 0), (38, .iload 4, 2, [], 0), (40, .invokevirtual 60, 3, [54, 1, 4], 0), (43, .istore 5, 2, [], 0), (45, .iload_n 2, 1, [], 0), (46, .iload 5, 2, [], 0), (48, .invokestatic 66, 3, [904], 0), (51, .istore_n 2, 1, [], 0), (52, .aload_n 0, 1, [], 0), (53, .getfield 9, 3, [5, 0], 0), (56, .iload 4, 2, [], 0), (58, .invokevirtual 72, 3, [31, 1, 2], 0), (61, .ifCond .ne 20, 3, [41], 0), (64, .iload_n 3, 1, [], 0), (65, .iconst (-1), 1, [], -1), (66, .if_icmp .ne 8, 3, [37], 0), (69, .iload 5, 2, [], 0), (71, .goto 9, 3, [40], 0), (74, .iload_n 3, 1, [], 0), (75, .iload 5, 2, [], 0), (77, .invokestatic 76, 3, [905], 0), (80, .istore_n 3, 1, [], 0), (81, .iinc 4 1, 3, [], 0), (84, .goto (-69), 3, [10], 0), (87, .iload_n 3, 1, [], 0), (88, .iconst (-1), 1, [], -1), (89, .if_icmp .ne 7, 3, [48], 0), (92, .iconst 0, 1, [], 0), (93, .goto 6, 3, [51], 0), (96, .iload_n 2, 1, [], 0), (97, .iload_n 3, 1, [], 0), (98, .isub, 1, [], 0), (99, .ireturn, 1, [0, 0, 0], 0)]
/-- X6_unevenOf -/
def cd_64 : List PEn := [(0, .aload_n 0, 1, [], 0), (1, .getfield 9, 3, [5, 0], 0), (4, .aload_n 1, 1, [], 0), (5, .invokevirtual 15, 3, [29, 1, 2], 0), (8, .iconst 0, 1, [], 0), (9, .istore_n 2, 1, [], 0), (10, .iconst 0, 1, [], 0), (11, .istore_n 3, 1, [], 0), (12, .iload_n 3, 1, [], 0), (13, .aload_n 1, 1, [], 0), (14, .getfield 53, 3, [7, 2], 0), (17, .if_icmp .ge 98, 3, [55], 0), (20, .iload_n 3, 1, [], 0), (21, .bipush 7, 2, [], 7), (23, .if_icmp .ge 92, 3, [55], 0), (26, .iconst 0, 1, [], 0), (27, .istore 4, 2, [], 0), (29, .iload 4, 2, [], 0), (31, .iload_n 3, 1, [], 0), (32, .if_icmp .ge 77, 3, [53], 0), (35, .aload_n 0, 1, [], 0), (36, .getfield 9, 3, [5, 0], 0), (39, .iload_n 3, 1, [], 0), (40, .invokevirtual 72, 3, [31, 1, 2], 0), (43, .ifCond .ne 60, 3, [51], 0), (46, .aload_n 0, 1, [], 0), (47, .getfield 9, 3, [5, 0], 0), (50, .iload 4, 2, [], 0), (52, .invokevirtual 72, 3, [31, 1, 2], 0), (55, .ifCond .ne 48, 3, [51], 0), (58, .aload_n 1, 1, [], 0), (59, .getfield 79, 3, [7, 5], 0), (62, .iload_n 3, 1, [], 0), (63, .iaload, 1, [], 0), (64, .aload_n 1, 1, [], 0), (65, .getfield 79, 3, [7, 5], 0), (68, .iload 4, 2, [], 0), (70, .iaload, 1, [], 0), (71, .if_icmp .ne 32, 3, [51], 0), (74, .aload_n 0, 1, [], 0), (75, .getfield 9, 3, [5, 0], 0), (78, .getfield 56, 3, [2, 1], 0), (81, .iload_n 3, 1, [], 0), (82, .invokevirtual 60, 3, [54, 1, 4], 0), (85, .aload_n 0, 1, [], 0), (86, .getfield 9, 3, [5, 0], 0), (89, .getfield 56, 3, [2, 1], 0), (92, .iload 4, 2, [], 0), (94, .invokevirtual 60, 3, [54, 1, 4], 0), (97, .if_icmp .eq 6, 3, [51], 0), (100, .iinc 2 1, 3, [], 0), (103, .iinc 4 1, 3, [], 0), (106, .goto (-77), 3, [17], 0), (109, .iinc 3 1, 3, [], 0), (112, .goto (-100), 3, [8], 0), (115, .iload_n 2, 1, [], 0), (116, .ireturn, 1, [0, 0, 0], 0)]
/-- X6_mostBurdened -/
def cd_65 : List PEn := [(0, .aload_n 0, 1, [], 0), (1, .getfield 9, 3, [5, 0], 0), (4, .aload_n 1, 1, [], 0), (5, .invokevirtual 15, 3, [29, 1, 2], 0), (8, .iconst (-1), 1, [], -1), (9, .istore_n 2, 1, [], 0), (10, .iconst 0, 1, [], 0), (11, .istore_n 3, 1, [], 0), (12, .iload_n 3, 1, [], 0), (13, .aload_n 1, 1, [], 0), (14, .getfield 53, 3, [7, 2], 0), (17, .if_icmp .ge 70, 3, [47], 0), (20, .iload_n 3, 1, [], 0), (21, .bipush 7, 2, [], 7), (23, .if_icmp .ge 64, 3, [47], 0), (26, .aload_n 0, 1, [], 0), (27, .getfield 9, 3, [5, 0], 0), (30, .getfield 56, 3, [2, 1], 0), (33, .iload_n 3, 1, [], 0), (34, .invokevirtual 60, 3, [54, 1, 4], 0), (37, .istore 4, 2, [], 0), (39, .iload 4, 2, [], 0), (41, .ifCond .le 40, 3, [45], 0), (44, .iload_n 2, 1, [], 0), (45, .iconst (-1), 1, [], -1), (46, .if_icmp .eq 33, 3, [43], 0), (49, .iload 4, 2, [], 0), (51, .aload_n 1, 1, [], 0), (52, .getfield 79, 3, [7, 5], 0), (55, .iload_n 2, 1, [], 0), (56, .iaload, 1, [], 0), (57, .imul, 1, [], 0), (58, .aload_n 0, 1, [], 0), (59, .getfield 9, 3, [5, 0], 0), (62, .getfield 56, 3, [2, 1], 0), (65, .iload_n 2, 1, [], 0), (66, .invokevirtual 60, 3, [54, 1, 4], 0), (69, .aload_n 1, 1, [], 0), (70, .getfield 79, 3, [7, 5], 0), (73, .iload_n 3, 1, [], 0), (74, .iaload, 1, [], 0), (75, .imul, 1, [], 0), (76, .if_icmp .le 5, 3, [45], 0), (79, .iload_n 3, 1, [], 0), (80, .istore_n 2, 1, [], 0), (81, .iinc 3 1, 3, [], 0), (84, .goto (-72), 3, [8], 0), (87, .iload_n 2, 1, [], 0), (88, .ireturn, 1, [0, 0, 0], 0)]
/-- X6_fallOf -/
def cd_66 : List PEn := [(0, .aload_n 1, 1, [], 0), (1, .aload_n 1, 1, [], 0), (2, .getfield 83, 3, [7, 3], 0), (5, .iconst 0, 1, [], 0), (6, .invokevirtual 86, 3, [86, 2, 7], 0), (9, .istore 4, 2, [], 0), (11, .iconst 0, 1, [], 0), (12, .istore 5, 2, [], 0), (14, .iconst 0, 1, [], 0), (15, .istore 6, 2, [], 0), (17, .iconst 1, 1, [], 1), (18, .istore 7, 2, [], 0), (20, .iload 7, 2, [], 0), (22, .bipush 99, 2, [], 99), (24, .if_icmp .gt 60, 3, [41], 0), (27, .aload_n 0, 1, [], 0), (28, .getfield 9, 3, [5, 0], 0), (31, .getfield 56, 3, [2, 1], 0), (34, .aload_n 1, 1, [], 0), (35, .iload 7, 2, [], 0), (37, .iload 4, 2, [], 0), (39, .invokevirtual 89, 3, [55, 3, 4], 0), (42, .aload_n 0, 1, [], 0), (43, .getfield 9, 3, [5, 0], 0), (46, .getfield 56, 3, [2, 1], 0), (49, .iload_n 2, 1, [], 0), (50, .invokevirtual 60, 3, [54, 1, 4], 0), (53, .istore 8, 2, [], 0), (55, .iload 8, 2, [], 0), (57, .iload 6, 2, [], 0), (59, .if_icmp .ge 15, 3, [37], 0), (62, .iload 5, 2, [], 0), (64, .iload_n 3, 1, [], 0), (65, .if_icmp .ne 6, 3, [36], 0), (68, .iload 7, 2, [], 0), (70, .ireturn, 1, [0, 0, 0], 0), (71, .iinc 5 1, 3, [], 0), (74, .iload 8, 2, [], 0), (76, .istore 6, 2, [], 0), (78, .iinc 7 1, 3, [], 0), (81, .goto (-61), 3, [12], 0), (84, .iload_n 3, 1, [], 0), (85, .iconst (-1), 1, [], -1), (86, .if_icmp .ne 8, 3, [46], 0), (89, .iload 5, 2, [], 0), (91, .goto 4, 3, [47], 0), (94, .iconst (-1), 1, [], -1), (95, .ireturn, 1, [0, 0, 0], 0)]
/-- X6_harmOf -/
def cd_67 : List PEn := [(0, .aload_n 0, 1, [], 0), (1, .getfield 9, 3, [5, 0], 0), (4, .aload_n 1, 1, [], 0), (5, .invokevirtual 15, 3, [29, 1, 2], 0), (8, .aload_n 0, 1, [], 0), (9, .getfield 9, 3, [5, 0], 0), (12, .getfield 56, 3, [2, 1], 0), (15, .iload_n 3, 1, [], 0), (16, .invokevirtual 60, 3, [54, 1, 4], 0), (19, .istore 4, 2, [], 0), (21, .aload_n 0, 1, [], 0), (22, .getfield 9, 3, [5, 0], 0), (25, .getfield 25, 3, [2, 0], 0), (28, .dup, 1, [], 0), (29, .getfield 83, 3, [7, 3], 0), (32, .iconst 1, 1, [], 1), (33, .iload_n 2, 1, [], 0), (34, .ishl, 1, [], 0), (35, .ior, 1, [], 0), (36, .putfield 83, 3, [7, 3, 0, 0], 0), (39, .aload_n 0, 1, [], 0), (40, .getfield 9, 3, [5, 0], 0), (43, .invokevirtual 35, 3, [30, 0, 2], 0), (46, .aload_n 0, 1, [], 0), (47, .getfield 9, 3, [5, 0], 0), (50, .getfield 56, 3, [2, 1], 0), (53, .iload_n 3, 1, [], 0), (54, .invokevirtual 60, 3, [54, 1, 4], 0), (57, .iload 4, 2, [], 0), (59, .isub, 1, [], 0), (60, .ireturn, 1, [0, 0, 0], 0)]
/-- X6_strongest -/
def cd_68 : List PEn := [(0, .iconst (-1), 1, [], -1), (1, .istore 4, 2, [], 0), (3, .iconst 0, 1, [], 0), (4, .istore 5, 2, [], 0), (6, .iconst 0, 1, [], 0), (7, .istore 6, 2, [], 0), (9, .iload 6, 2, [], 0), (11, .aload_n 1, 1, [], 0), (12, .getfield 53, 3, [7, 2], 0), (15, .if_icmp .ge 61, 3, [38], 0), (18, .iload 6, 2, [], 0), (20, .bipush 7, 2, [], 7), (22, .if_icmp .ge 54, 3, [38], 0), (25, .iload 6, 2, [], 0), (27, .iload_n 2, 1, [], 0), (28, .if_icmp .eq 42, 3, [36], 0), (31, .aload_n 0, 1, [], 0), (32, .aload_n 1, 1, [], 0), (33, .iload 6, 2, [], 0), (35, .iload_n 2, 1, [], 0), (36, .invokevirtual 93, 3, [67, 3, 5], 0), (39, .istore 7, 2, [], 0), (41, .iload_n 3, 1, [], 0), (42, .ifCond .eq 9, 3, [27], 0), (45, .iload 7, 2, [], 0), (47, .ineg, 1, [], 0), (48, .goto 5, 3, [28], 0), (51, .iload 7, 2, [], 0), (53, .istore 8, 2, [], 0), (55, .iload 8, 2, [], 0), (57, .iload 5, 2, [], 0), (59, .if_icmp .le 11, 3, [36], 0), (62, .iload 6, 2, [], 0), (64, .istore 4, 2, [], 0), (66, .iload 8, 2, [], 0), (68, .istore 5, 2, [], 0), (70, .iinc 6 1, 3, [], 0), (73, .goto (-64), 3, [6], 0), (76, .iload 4, 2, [], 0), (78, .ireturn, 1, [0, 0, 0], 0)]
/-- X6_beginDrawing -/
def cd_69 : List PEn := [(0, .aload_n 0, 1, [], 0), (1, .getfield 9, 3, [5, 0], 0), (4, .aload_n 1, 1, [], 0), (5, .invokevirtual 15, 3, [29, 1, 2], 0), (8, .aload_n 0, 1, [], 0), (9, .iload_n 2, 1, [], 0), (10, .putfield 96, 3, [5, 1, 0, 0], 0), (13, .return_, 1, [1, 0, 0], 0)]
/-- X6_drawDeed -/
def cd_70 : List PEn := [(0, .aload_n 0, 1, [], 0), (1, .bipush 10, 2, [], 10), (3, .invokevirtual 99, 3, [71, 1, 5], 0), (6, .istore_n 1, 1, [], 0), (7, .iload_n 1, 1, [], 0), (8, .iconst 3, 1, [], 3), (9, .if_icmp .gt 16, 3, [14], 0), (12, .aload_n 0, 1, [], 0), (13, .getfield 9, 3, [5, 0], 0), (16, .iconst 0, 1, [], 0), (17, .iconst (-1), 1, [], -1), (18, .invokevirtual 102, 3, [32, 2, 2], 0), (21, .pop, 1, [], 0), (22, .goto 107, 3, [64], 0), (25, .iload_n 1, 1, [], 0), (26, .bipush 6, 2, [], 6), (28, .if_icmp .gt 52, 3, [39], 0), (31, .aload_n 0, 1, [], 0), (32, .getfield 9, 3, [5, 0], 0), (35, .getfield 25, 3, [2, 0], 0), (38, .getfield 53, 3, [7, 2], 0), (41, .ifCond .le 88, 3, [64], 0), (44, .aload_n 0, 1, [], 0), (45, .getfield 9, 3, [5, 0], 0), (48, .iload_n 1, 1, [], 0), (49, .bipush 6, 2, [], 6), (51, .if_icmp .ne 7, 3, [29], 0), (54, .iconst 2, 1, [], 2), (55, .goto 4, 3, [30], 0), (58, .iconst 1, 1, [], 1), (59, .aload_n 0, 1, [], 0), (60, .aload_n 0, 1, [], 0), (61, .getfield 9, 3, [5, 0], 0), (64, .getfield 25, 3, [2, 0], 0), (67, .getfield 53, 3, [7, 2], 0), (70, .invokevirtual 99, 3, [71, 1, 5], 0), (73, .invokevirtual 102, 3, [32, 2, 2], 0), (76, .pop, 1, [], 0), (77, .goto 52, 3, [64], 0), (80, .iload_n 1, 1, [], 0), (81, .bipush 9, 2, [], 9), (83, .if_icmp .ne 21, 3, [51], 0), (86, .aload_n 0, 1, [], 0), (87, .getfield 9, 3, [5, 0], 0), (90, .iconst 5, 1, [], 5), (91, .aload_n 0, 1, [], 0), (92, .bipush 10, 2, [], 10), (94, .invokevirtual 99, 3, [71, 1, 5], 0), (97, .invokevirtual 102, 3, [32, 2, 2], 0), (100, .pop, 1, [], 0), (101, .goto 28, 3, [64], 0), (104, .aload_n 0, 1, [], 0), (105, .getfield 9, 3, [5, 0], 0), (108, .iload_n 1, 1, [], 0), (109, .bipush 7, 2, [], 7), (111, .if_icmp .ne 7, 3, [58], 0), (114, .iconst 3, 1, [], 3), (115, .goto 4, 3, [59], 0), (118, .iconst 4, 1, [], 4), (119, .aload_n 0, 1, [], 0), (120, .bipush 100, 2, [], 100), (122, .invokevirtual 99, 3, [71, 1, 5], 0), (125, .invokevirtual 102, 3, [32, 2, 2], 0), (128, .pop, 1, [], 0), (129, .return_, 1, [1, 0, 0], 0)]
/-- X6_draw -/
def cd_71 : List PEn := [(0, .aload_n 0, 1, [], 0), (1, .aload_n 0, 1, [], 0), (2, .getfield 96, 3, [5, 1], 0), (5, .ldc 106, 2, [], 1103515245), (7, .imul, 1, [], 0), (8, .sipush 12345, 3, [], 12345), (11, .iadd, 1, [], 0), (12, .putfield 96, 3, [5, 1, 0, 0], 0), (15, .iload_n 1, 1, [], 0), (16, .ifCond .le 15, 3, [17], 0), (19, .aload_n 0, 1, [], 0), (20, .getfield 96, 3, [5, 1], 0), (23, .bipush 16, 2, [], 16), (25, .iushr, 1, [], 0), (26, .iload_n 1, 1, [], 0), (27, .irem, 1, [], 0), (28, .goto 4, 3, [18], 0), (31, .iconst 0, 1, [], 0), (32, .ireturn, 1, [0, 0, 0], 0)]
/-- X7_init -/
def cd_72 : List PEn := [(0, .aload_n 0, 1, [], 0), (1, .invokespecial 3, 3, [900, 0], 0), (4, .aload_n 0, 1, [], 0), (5, .bipush 40, 2, [], 40), (7, .newarray .int, 2, [], 0), (9, .putfield 9, 3, [6, 1, 2, 1], 0), (12, .aload_n 0, 1, [], 0), (13, .bipush 40, 2, [], 40), (15, .newarray .int, 2, [], 0), (17, .putfield 15, 3, [6, 2, 2, 1], 0), (20, .return_, 1, [1, 2, 80], 0)]
/-- X7_has -/
def cd_73 : List PEn := [(0, .iload_n 1, 1, [], 0), (1, .ifCond .lt 21, 3, [11], 0), (4, .iload_n 1, 1, [], 0), (5, .aload_n 0, 1, [], 0), (6, .getfield 18, 3, [6, 0], 0), (9, .if_icmp .ge 13, 3, [11], 0), (12, .iload_n 1, 1, [], 0), (13, .bipush 40, 2, [], 40), (15, .if_icmp .ge 7, 3, [11], 0), (18, .iconst 1, 1, [], 1), (19, .goto 4, 3, [12], 0), (22, .iconst 0, 1, [], 0), (23, .ireturn, 1, [1, 0, 0], 0)]
/-- X7_add -/
def cd_74 : List PEn := [(0, .aload_n 0, 1, [], 0), (1, .getfield 18, 3, [6, 0], 0), (4, .ifCond .lt 42, 3, [25], 0), (7, .aload_n 0, 1, [], 0), (8, .getfield 18, 3, [6, 0], 0), (11, .bipush 40, 2, [], 40), (13, .if_icmp .ge 33, 3, [25], 0), (16, .aload_n 0, 1, [], 0), (17, .getfield 9, 3, [6, 1], 0), (20, .aload_n 0, 1, [], 0), (21, .getfield 18, 3, [6, 0], 0), (24, .iload_n 1, 1, [], 0), (25, .iastore, 1, [], 0), (26, .aload_n 0, 1, [], 0), (27, .getfield 15, 3, [6, 2], 0), (30, .aload_n 0, 1, [], 0), (31, .getfield 18, 3, [6, 0], 0), (34, .iload_n 2, 1, [], 0), (35, .iastore, 1, [], 0), (36, .aload_n 0, 1, [], 0), (37, .dup, 1, [], 0), (38, .getfield 18, 3, [6, 0], 0), (41, .iconst 1, 1, [], 1), (42, .iadd, 1, [], 0), (43, .putfield 18, 3, [6, 0, 0, 0], 0), (46, .return_, 1, [1, 0, 0], 0)]
/-- X7_detail -/
def cd_75 : List PEn := [(0, .iload_n 1, 1, [], 0), (1, .iconst (-1), 1, [], -1), (2, .if_icmp .ne 12, 3, [8], 0), (5, .iload_n 2, 1, [], 0), (6, .ifCond .ne 8, 3, [8], 0), (9, .aload_n 0, 1, [], 0), (10, .getfield 18, 3, [6, 0], 0), (13, .ireturn, 1, [0, 0, 0], 0), (14, .aload_n 0, 1, [], 0), (15, .iload_n 1, 1, [], 0), (16, .invokevirtual 22, 3, [73, 1, 6], 0), (19, .ifCond .ne 6, 3, [14], 0), (22, .bipush (-2), 2, [], -2), (24, .ireturn, 1, [0, 0, 0], 0), (25, .iload_n 2, 1, [], 0), (26, .ifCond .ne 10, 3, [21], 0), (29, .aload_n 0, 1, [], 0), (30, .getfield 9, 3, [6, 1], 0), (33, .iload_n 1, 1, [], 0), (34, .iaload, 1, [], 0), (35, .ireturn, 1, [0, 0, 0], 0), (36, .iload_n 2, 1, [], 0), (37, .iconst 1, 1, [], 1), (38, .if_icmp .ne 12, 3, [29], 0), (41, .aload_n 0, 1, [], 0), (42, .getfield 15, 3, [6, 2], 0), (45, .iload_n 1, 1, [], 0), (46, .iaload, 1, [], 0), (47, .goto 5, 3, [30], 0), (50, .bipush (-2), 2, [], -2), (52, .ireturn, 1, [0, 0, 0], 0)]
/-- X7_copyFrom -/
def cd_76 : List PEn := [(0, .aload_n 0, 1, [], 0), (1, .aload_n 1, 1, [], 0), (2, .getfield 18, 3, [6, 0], 0), (5, .putfield 18, 3, [6, 0, 0, 0], 0), (8, .aload_n 1, 1, [], 0), (9, .getfield 9, 3, [6, 1], 0), (12, .iconst 0, 1, [], 0), (13, .aload_n 0, 1, [], 0), (14, .getfield 9, 3, [6, 1], 0), (17, .iconst 0, 1, [], 0), (18, .aload_n 0, 1, [], 0), (19, .getfield 18, 3, [6, 0], 0), (22, .invokestatic 26, 3, [901], 0), (25, .aload_n 1, 1, [], 0), (26, .getfield 15, 3, [6, 2], 0), (29, .iconst 0, 1, [], 0), (30, .aload_n 0, 1, [], 0), (31, .getfield 15, 3, [6, 2], 0), (34, .iconst 0, 1, [], 0), (35, .aload_n 0, 1, [], 0), (36, .getfield 18, 3, [6, 0], 0), (39, .invokestatic 26, 3, [901], 0), (42, .return_, 1, [1, 0, 0], 0)]
/-- X8_init -/
def cd_77 : List PEn := [(0, .aload_n 0, 1, [], 0), (1, .invokespecial 3, 3, [900, 0], 0), (4, .aload_n 0, 1, [], 0), (5, .bipush 10, 2, [], 10), (7, .putfield 9, 3, [7, 0, 0, 0], 0), (10, .aload_n 0, 1, [], 0), (11, .bipush 10, 2, [], 10), (13, .putfield 15, 3, [7, 1, 0, 0], 0), (16, .aload_n 0, 1, [], 0), (17, .bipush 7, 2, [], 7), (19, .newarray .int, 2, [], 0), (21, .putfield 18, 3, [7, 5, 2, 1], 0), (24, .aload_n 0, 1, [], 0), (25, .bipush 7, 2, [], 7), (27, .newarray .int, 2, [], 0), (29, .putfield 22, 3, [7, 6, 2, 1], 0), (32, .aload_n 0, 1, [], 0), (33, .bipush 10, 2, [], 10), (35, .newarray .int, 2, [], 0), (37, .putfield 25, 3, [7, 7, 2, 1], 0), (40, .aload_n 0, 1, [], 0), (41, .bipush 10, 2, [], 10), (43, .newarray .int, 2, [], 0), (45, .putfield 28, 3, [7, 8, 2, 1], 0), (48, .aload_n 0, 1, [], 0), (49, .bipush 10, 2, [], 10), (51, .newarray .int, 2, [], 0), (53, .putfield 31, 3, [7, 9, 2, 1], 0), (56, .aload_n 0, 1, [], 0), (57, .bipush 10, 2, [], 10), (59, .newarray .int, 2, [], 0), (61, .putfield 34, 3, [7, 10, 2, 1], 0), (64, .return_, 1, [1, 6, 54], 0)]
/-- X8_clear -/
def cd_78 : List PEn := [(0, .aload_n 0, 1, [], 0), (1, .bipush 10, 2, [], 10), (3, .putfield 9, 3, [7, 0, 0, 0], 0), (6, .aload_n 0, 1, [], 0), (7, .bipush 10, 2, [], 10), (9, .putfield 15, 3, [7, 1, 0, 0], 0), (12, .aload_n 0, 1, [], 0), (13, .iconst 0, 1, [], 0), (14, .putfield 37, 3, [7, 2, 0, 0], 0), (17, .aload_n 0, 1, [], 0), (18, .iconst 0, 1, [], 0), (19, .putfield 40, 3, [7, 3, 0, 0], 0), (22, .aload_n 0, 1, [], 0), (23, .iconst 0, 1, [], 0), (24, .putfield 43, 3, [7, 4, 0, 0], 0), (27, .return_, 1, [1, 0, 0], 0)]
/-- X8_copyFrom -/
def cd_79 : List PEn := [(0, .aload_n 0, 1, [], 0), (1, .aload_n 1, 1, [], 0), (2, .getfield 9, 3, [7, 0], 0), (5, .putfield 9, 3, [7, 0, 0, 0], 0), (8, .aload_n 0, 1, [], 0), (9, .aload_n 1, 1, [], 0), (10, .getfield 15, 3, [7, 1], 0), (13, .putfield 15, 3, [7, 1, 0, 0], 0), (16, .aload_n 0, 1, [], 0), (17, .aload_n 1, 1, [], 0), (18, .getfield 37, 3, [7, 2], 0), (21, .putfield 37, 3, [7, 2, 0, 0], 0), (24, .aload_n 0, 1, [], 0), (25, .aload_n 1, 1, [], 0), (26, .getfield 40, 3, [7, 3], 0), (29, .putfield 40, 3, [7, 3, 0, 0], 0), (32, .aload_n 0, 1, [], 0), (33, .aload_n 1, 1, [], 0), (34, .getfield 43, 3, [7, 4], 0), (37, .putfield 43, 3, [7, 4, 0, 0], 0), (40, .aload_n 1, 1, [], 0), (41, .getfield 18, 3, [7, 5], 0), (44, .iconst 0, 1, [], 0), (45, .aload_n 0, 1, [], 0), (46, .getfield 18, 3, [7, 5], 0), (49, .iconst 0, 1, [], 0), (50, .aload_n 0, 1, [], 0), (51, .getfield 37, 3, [7, 2], 0), (54, .invokestatic 46, 3, [901], 0), (57, .aload_n 1, 1, [], 0), (58, .getfield 22, 3, [7, 6], 0), (61, .iconst 0, 1, [], 0), (62, .aload_n 0, 1, [], 0), (63, .getfield 22, 3, [7, 6], 0), (66, .iconst 0, 1, [], 0), (67, .aload_n 0, 1, [], 0), (68, .getfield 37, 3, [7, 2], 0), (71, .invokestatic 46, 3, [901], 0), (74, .aload_n 1, 1, [], 0), (75, .getfield 25, 3, [7, 7], 0), (78, .iconst 0, 1, [], 0), (79, .aload_n 0, 1, [], 0), (80, .getfield 25, 3, [7, 7], 0), (83, .iconst 0, 1, [], 0), (84, .aload_n 0, 1, [], 0), (85, .getfield 43, 3, [7, 4], 0), (88, .invokestatic 46, 3, [901], 0), (91, .aload_n 1, 1, [], 0), (92, .getfield 28, 3, [7, 8], 0), (95, .iconst 0, 1, [], 0), (96, .aload_n 0, 1, [], 0), (97, .getfield 28, 3, [7, 8], 0), (100, .iconst 0, 1, [], 0), (101, .aload_n 0, 1, [], 0), (102, .getfield 43, 3, [7, 4], 0), (105, .invokestatic 46, 3, [901], 0), (108, .aload_n 1, 1, [], 0), (109, .getfield 31, 3, [7, 9], 0), (112, .iconst 0, 1, [], 0), (113, .aload_n 0, 1, [], 0), (114, .getfield 31, 3, [7, 9], 0), (117, .iconst 0, 1, [], 0), (118, .aload_n 0, 1, [], 0), (119, .getfield 43, 3, [7, 4], 0), (122, .invokestatic 46, 3, [901], 0), (125, .aload_n 1, 1, [], 0), (126, .getfield 34, 3, [7, 10], 0), (129, .iconst 0, 1, [], 0), (130, .aload_n 0, 1, [], 0), (131, .getfield 34, 3, [7, 10], 0), (134, .iconst 0, 1, [], 0), (135, .aload_n 0, 1, [], 0), (136, .getfield 43, 3, [7, 4], 0), (139, .invokestatic 46, 3, [901], 0), (142, .return_, 1, [1, 0, 0], 0)]
/-- X8_addHouse -/
def cd_80 : List PEn := [(0, .aload_n 0, 1, [], 0), (1, .getfield 37, 3, [7, 2], 0), (4, .ifCond .lt 42, 3, [25], 0), (7, .aload_n 0, 1, [], 0), (8, .getfield 37, 3, [7, 2], 0), (11, .bipush 7, 2, [], 7), (13, .if_icmp .ge 33, 3, [25], 0), (16, .aload_n 0, 1, [], 0), (17, .getfield 18, 3, [7, 5], 0), (20, .aload_n 0, 1, [], 0), (21, .getfield 37, 3, [7, 2], 0), (24, .iload_n 1, 1, [], 0), (25, .iastore, 1, [], 0), (26, .aload_n 0, 1, [], 0), (27, .getfield 22, 3, [7, 6], 0), (30, .aload_n 0, 1, [], 0), (31, .getfield 37, 3, [7, 2], 0), (34, .iload_n 2, 1, [], 0), (35, .iastore, 1, [], 0), (36, .aload_n 0, 1, [], 0), (37, .dup, 1, [], 0), (38, .getfield 37, 3, [7, 2], 0), (41, .iconst 1, 1, [], 1), (42, .iadd, 1, [], 0), (43, .putfield 37, 3, [7, 2, 0, 0], 0), (46, .return_, 1, [1, 0, 0], 0)]
/-- X8_addRule -/
def cd_81 : List PEn := [(0, .aload_n 0, 1, [], 0), (1, .getfield 43, 3, [7, 4], 0), (4, .ifCond .lt 77, 3, [48], 0), (7, .aload_n 0, 1, [], 0), (8, .getfield 43, 3, [7, 4], 0), (11, .bipush 10, 2, [], 10), (13, .if_icmp .ge 68, 3, [48], 0), (16, .aload_n 0, 1, [], 0), (17, .getfield 25, 3, [7, 7], 0), (20, .aload_n 0, 1, [], 0), (21, .getfield 43, 3, [7, 4], 0), (24, .iload_n 1, 1, [], 0), (25, .iastore, 1, [], 0), (26, .aload_n 0, 1, [], 0), (27, .getfield 28, 3, [7, 8], 0), (30, .aload_n 0, 1, [], 0), (31, .getfield 43, 3, [7, 4], 0), (34, .iload_n 2, 1, [], 0), (35, .iastore, 1, [], 0), (36, .aload_n 0, 1, [], 0), (37, .getfield 31, 3, [7, 9], 0), (40, .aload_n 0, 1, [], 0), (41, .getfield 43, 3, [7, 4], 0), (44, .iload_n 3, 1, [], 0), (45, .iastore, 1, [], 0), (46, .aload_n 0, 1, [], 0), (47, .getfield 34, 3, [7, 10], 0), (50, .aload_n 0, 1, [], 0), (51, .getfield 43, 3, [7, 4], 0), (54, .iconst 1, 1, [], 1), (55, .iload_n 2, 1, [], 0), (56, .ishl, 1, [], 0), (57, .iload_n 3, 1, [], 0), (58, .iconst (-1), 1, [], -1), (59, .if_icmp .ne 7, 3, [37], 0), (62, .iconst 0, 1, [], 0), (63, .goto 6, 3, [40], 0), (66, .iconst 1, 1, [], 1), (67, .iload_n 3, 1, [], 0), (68, .ishl, 1, [], 0), (69, .ior, 1, [], 0), (70, .iastore, 1, [], 0), (71, .aload_n 0, 1, [], 0), (72, .dup, 1, [], 0), (73, .getfield 43, 3, [7, 4], 0), (76, .iconst 1, 1, [], 1), (77, .iadd, 1, [], 0), (78, .putfield 43, 3, [7, 4, 0, 0], 0), (81, .return_, 1, [1, 0, 0], 0)]
/-- X8_hasHouse -/
def cd_82 : List PEn := [(0, .iload_n 1, 1, [], 0), (1, .ifCond .lt 21, 3, [11], 0), (4, .iload_n 1, 1, [], 0), (5, .aload_n 0, 1, [], 0), (6, .getfield 37, 3, [7, 2], 0), (9, .if_icmp .ge 13, 3, [11], 0), (12, .iload_n 1, 1, [], 0), (13, .bipush 7, 2, [], 7), (15, .if_icmp .ge 7, 3, [11], 0), (18, .iconst 1, 1, [], 1), (19, .goto 4, 3, [12], 0), (22, .iconst 0, 1, [], 0), (23, .ireturn, 1, [1, 0, 0], 0)]
/-- X8_hasRule -/
def cd_83 : List PEn := [(0, .iload_n 1, 1, [], 0), (1, .ifCond .lt 21, 3, [11], 0), (4, .iload_n 1, 1, [], 0), (5, .aload_n 0, 1, [], 0), (6, .getfield 43, 3, [7, 4], 0), (9, .if_icmp .ge 13, 3, [11], 0), (12, .iload_n 1, 1, [], 0), (13, .bipush 10, 2, [], 10), (15, .if_icmp .ge 7, 3, [11], 0), (18, .iconst 1, 1, [], 1), (19, .goto 4, 3, [12], 0), (22, .iconst 0, 1, [], 0), (23, .ireturn, 1, [1, 0, 0], 0)]
/-- X8_everyHouse -/
def cd_84 : List PEn := [(0, .iconst 1, 1, [], 1), (1, .aload_n 0, 1, [], 0), (2, .getfield 37, 3, [7, 2], 0), (5, .ishl, 1, [], 0), (6, .iconst 1, 1, [], 1), (7, .isub, 1, [], 0), (8, .ireturn, 1, [0, 0, 0], 0)]
/-- X8_ruleDetail -/
def cd_85 : List PEn := [(0, .iload_n 1, 1, [], 0), (1, .bipush 10, 2, [], 10), (3, .irem, 1, [], 0), (4, .istore_n 2, 1, [], 0), (5, .aload_n 0, 1, [], 0), (6, .iload_n 2, 1, [], 0), (7, .invokevirtual 52, 3, [83, 1, 7], 0), (10, .ifCond .ne 5, 3, [10], 0), (13, .iconst (-1), 1, [], -1), (14, .ireturn, 1, [0, 0, 0], 0), (15, .iload_n 1, 1, [], 0), (16, .bipush 10, 2, [], 10), (18, .idiv, 1, [], 0), (19, .tableswitch 46 4 6 #[25, 32, 39], 25, [29, 14, 19, 24], 0), (44, .aload_n 0, 1, [], 0), (45, .getfield 25, 3, [7, 7], 0), (48, .iload_n 2, 1, [], 0), (49, .iaload, 1, [], 0), (50, .ireturn, 1, [0, 0, 0], 0), (51, .aload_n 0, 1, [], 0), (52, .getfield 28, 3, [7, 8], 0), (55, .iload_n 2, 1, [], 0), (56, .iaload, 1, [], 0), (57, .ireturn, 1, [0, 0, 0], 0), (58, .aload_n 0, 1, [], 0), (59, .getfield 31, 3, [7, 9], 0), (62, .iload_n 2, 1, [], 0), (63, .iaload, 1, [], 0), (64, .ireturn, 1, [0, 0, 0], 0), (65, .iconst (-1), 1, [], -1), (66, .ireturn, 1, [0, 0, 0], 0)]
/-- X8_exemptBy -/
def cd_86 : List PEn := [(0, .iload_n 1, 1, [], 0), (1, .istore_n 3, 1, [], 0), (2, .iconst 1, 1, [], 1), (3, .istore 4, 2, [], 0), (5, .iconst 0, 1, [], 0), (6, .istore 5, 2, [], 0), (8, .iload 5, 2, [], 0), (10, .bipush 7, 2, [], 7), (12, .if_icmp .gt 95, 3, [59], 0), (15, .iload 4, 2, [], 0), (17, .ifCond .eq 90, 3, [59], 0), (20, .iload_n 3, 1, [], 0), (21, .istore 6, 2, [], 0), (23, .iconst 0, 1, [], 0), (24, .istore 7, 2, [], 0), (26, .iload 7, 2, [], 0), (28, .aload_n 0, 1, [], 0), (29, .getfield 43, 3, [7, 4], 0), (32, .if_icmp .ge 56, 3, [50], 0), (35, .iload 7, 2, [], 0), (37, .bipush 10, 2, [], 10), (39, .if_icmp .ge 49, 3, [50], 0), (42, .iload_n 2, 1, [], 0), (43, .iload 7, 2, [], 0), (45, .ishr, 1, [], 0), (46, .iconst 1, 1, [], 1), (47, .iand, 1, [], 0), (48, .ifCond .ne 34, 3, [48], 0), (51, .iload_n 3, 1, [], 0), (52, .aload_n 0, 1, [], 0), (53, .getfield 34, 3, [7, 10], 0), (56, .iload 7, 2, [], 0), (58, .iaload, 1, [], 0), (59, .iand, 1, [], 0), (60, .aload_n 0, 1, [], 0), (61, .getfield 34, 3, [7, 10], 0), (64, .iload 7, 2, [], 0), (66, .iaload, 1, [], 0), (67, .if_icmp .ne 15, 3, [48], 0), (70, .iload_n 3, 1, [], 0), (71, .iconst 1, 1, [], 1), (72, .aload_n 0, 1, [], 0), (73, .getfield 25, 3, [7, 7], 0), (76, .iload 7, 2, [], 0), (78, .iaload, 1, [], 0), (79, .ishl, 1, [], 0), (80, .ior, 1, [], 0), (81, .istore_n 3, 1, [], 0), (82, .iinc 7 1, 3, [], 0), (85, .goto (-59), 3, [15], 0), (88, .iload_n 3, 1, [], 0), (89, .iload 6, 2, [], 0), (91, .if_icmp .eq 7, 3, [55], 0), (94, .iconst 1, 1, [], 1), (95, .goto 4, 3, [56], 0), (98, .iconst 0, 1, [], 0), (99, .istore 4, 2, [], 0), (101, .iinc 5 1, 3, [], 0), (104, .goto (-96), 3, [6], 0), (107, .iload_n 3, 1, [], 0), (108, .ireturn, 1, [0, 0, 0], 0)]
/-- X8_oneStepFrom -/
def cd_87 : List PEn := [(0, .iload_n 1, 1, [], 0), (1, .istore_n 2, 1, [], 0), (2, .iconst 0, 1, [], 0), (3, .istore_n 3, 1, [], 0), (4, .iload_n 3, 1, [], 0), (5, .aload_n 0, 1, [], 0), (6, .getfield 43, 3, [7, 4], 0), (9, .if_icmp .ge 43, 3, [33], 0), (12, .iload_n 3, 1, [], 0), (13, .bipush 10, 2, [], 10), (15, .if_icmp .ge 37, 3, [33], 0), (18, .iload_n 1, 1, [], 0), (19, .aload_n 0, 1, [], 0), (20, .getfield 34, 3, [7, 10], 0), (23, .iload_n 3, 1, [], 0), (24, .iaload, 1, [], 0), (25, .iand, 1, [], 0), (26, .aload_n 0, 1, [], 0), (27, .getfield 34, 3, [7, 10], 0), (30, .iload_n 3, 1, [], 0), (31, .iaload, 1, [], 0), (32, .if_icmp .ne 14, 3, [31], 0), (35, .iload_n 2, 1, [], 0), (36, .iconst 1, 1, [], 1), (37, .aload_n 0, 1, [], 0), (38, .getfield 25, 3, [7, 7], 0), (41, .iload_n 3, 1, [], 0), (42, .iaload, 1, [], 0), (43, .ishl, 1, [], 0), (44, .ior, 1, [], 0), (45, .istore_n 2, 1, [], 0), (46, .iinc 3 1, 3, [], 0), (49, .goto (-45), 3, [4], 0), (52, .iload_n 2, 1, [], 0), (53, .ireturn, 1, [0, 0, 0], 0)]
/-- X8_goodsTogether -/
def cd_88 : List PEn := [(0, .iconst 0, 1, [], 0), (1, .istore_n 1, 1, [], 0), (2, .iconst 0, 1, [], 0), (3, .istore_n 2, 1, [], 0), (4, .iload_n 2, 1, [], 0), (5, .aload_n 0, 1, [], 0), (6, .getfield 37, 3, [7, 2], 0), (9, .if_icmp .ge 24, 3, [20], 0), (12, .iload_n 2, 1, [], 0), (13, .bipush 7, 2, [], 7), (15, .if_icmp .ge 18, 3, [20], 0), (18, .iload_n 1, 1, [], 0), (19, .aload_n 0, 1, [], 0), (20, .getfield 18, 3, [7, 5], 0), (23, .iload_n 2, 1, [], 0), (24, .iaload, 1, [], 0), (25, .iadd, 1, [], 0), (26, .istore_n 1, 1, [], 0), (27, .iinc 2 1, 3, [], 0), (30, .goto (-26), 3, [4], 0), (33, .iload_n 1, 1, [], 0), (34, .ireturn, 1, [0, 0, 0], 0)]
/-- X8_richest -/
def cd_89 : List PEn := [(0, .iconst (-1), 1, [], -1), (1, .istore_n 1, 1, [], 0), (2, .iconst 0, 1, [], 0), (3, .istore_n 2, 1, [], 0), (4, .iload_n 2, 1, [], 0), (5, .aload_n 0, 1, [], 0), (6, .getfield 37, 3, [7, 2], 0), (9, .if_icmp .ge 37, 3, [27], 0), (12, .iload_n 2, 1, [], 0), (13, .bipush 7, 2, [], 7), (15, .if_icmp .ge 31, 3, [27], 0), (18, .iload_n 1, 1, [], 0), (19, .iconst (-1), 1, [], -1), (20, .if_icmp .eq 18, 3, [23], 0), (23, .aload_n 0, 1, [], 0), (24, .getfield 18, 3, [7, 5], 0), (27, .iload_n 2, 1, [], 0), (28, .iaload, 1, [], 0), (29, .aload_n 0, 1, [], 0), (30, .getfield 18, 3, [7, 5], 0), (33, .iload_n 1, 1, [], 0), (34, .iaload, 1, [], 0), (35, .if_icmp .le 5, 3, [25], 0), (38, .iload_n 2, 1, [], 0), (39, .istore_n 1, 1, [], 0), (40, .iinc 2 1, 3, [], 0), (43, .goto (-39), 3, [4], 0), (46, .iload_n 1, 1, [], 0), (47, .ireturn, 1, [0, 0, 0], 0)]
/-- X8_poorest -/
def cd_90 : List PEn := [(0, .iconst (-1), 1, [], -1), (1, .istore_n 1, 1, [], 0), (2, .iconst 0, 1, [], 0), (3, .istore_n 2, 1, [], 0), (4, .iload_n 2, 1, [], 0), (5, .aload_n 0, 1, [], 0), (6, .getfield 37, 3, [7, 2], 0), (9, .if_icmp .ge 37, 3, [27], 0), (12, .iload_n 2, 1, [], 0), (13, .bipush 7, 2, [], 7), (15, .if_icmp .ge 31, 3, [27], 0), (18, .iload_n 1, 1, [], 0), (19, .iconst (-1), 1, [], -1), (20, .if_icmp .eq 18, 3, [23], 0), (23, .aload_n 0, 1, [], 0), (24, .getfield 18, 3, [7, 5], 0), (27, .iload_n 2, 1, [], 0), (28, .iaload, 1, [], 0), (29, .aload_n 0, 1, [], 0), (30, .getfield 18, 3, [7, 5], 0), (33, .iload_n 1, 1, [], 0), (34, .iaload, 1, [], 0), (35, .if_icmp .ge 5, 3, [25], 0), (38, .iload_n 2, 1, [], 0), (39, .istore_n 1, 1, [], 0), (40, .iinc 2 1, 3, [], 0), (43, .goto (-39), 3, [4], 0), (46, .iload_n 1, 1, [], 0), (47, .ireturn, 1, [0, 0, 0], 0)]
/-- X9_init -/
def cd_91 : List PEn := [(0, .aload_n 0, 1, [], 0), (1, .invokespecial 3, 3, [900, 0], 0), (4, .aload_n 0, 1, [], 0), (5, .new 9, 3, [7, 0, 0, 0, 0, 0, 2, 2, 2, 2, 2, 2], 0), (8, .dup, 1, [], 0), (9, .invokespecial 11, 3, [77, 0], 0), (12, .putfield 12, 3, [8, 0, 2, 1], 0), (15, .aload_n 0, 1, [], 0), (16, .new 18, 3, [6, 0, 2, 2], 0), (19, .dup, 1, [], 0), (20, .invokespecial 20, 3, [72, 0], 0), (23, .putfield 21, 3, [8, 1, 2, 1], 0), (26, .aload_n 0, 1, [], 0), (27, .new 18, 3, [6, 0, 2, 2], 0), (30, .dup, 1, [], 0), (31, .invokespecial 20, 3, [72, 0], 0), (34, .putfield 25, 3, [8, 2, 2, 1], 0), (37, .aload_n 0, 1, [], 0), (38, .iconst 3, 1, [], 3), (39, .newarray .int, 2, [], 0), (41, .putfield 28, 3, [8, 6, 2, 1], 0), (44, .aload_n 0, 1, [], 0), (45, .aload_n 1, 1, [], 0), (46, .putfield 32, 3, [8, 5, 2, 1], 0), (49, .return_, 1, [1, 14, 234], 0)]
/-- X9_read -/
def cd_92 : List PEn := [(0, .aload_n 0, 1, [], 0), (1, .getfield 12, 3, [8, 0], 0), (4, .invokevirtual 36, 3, [78, 0, 7], 0), (7, .aload_n 0, 1, [], 0), (8, .getfield 21, 3, [8, 1], 0), (11, .iconst 0, 1, [], 0), (12, .putfield 39, 3, [6, 0, 0, 0], 0), (15, .aload_n 0, 1, [], 0), (16, .getfield 25, 3, [8, 2], 0), (19, .iconst 0, 1, [], 0), (20, .putfield 39, 3, [6, 0, 0, 0], 0), (23, .aload_n 0, 1, [], 0), (24, .iconst 0, 1, [], 0), (25, .putfield 43, 3, [8, 3, 0, 0], 0), (28, .aload_n 0, 1, [], 0), (29, .iconst (-1), 1, [], -1), (30, .putfield 46, 3, [8, 4, 0, 0], 0), (33, .aload_n 0, 1, [], 0), (34, .iconst 0, 1, [], 0), (35, .putfield 49, 3, [8, 11, 0, 0], 0), (38, .aload_n 0, 1, [], 0), (39, .iconst 0, 1, [], 0), (40, .putfield 52, 3, [8, 9, 0, 0], 0), (43, .aload_n 0, 1, [], 0), (44, .invokevirtual 55, 3, [106, 0, 8], 0), (47, .iconst 0, 1, [], 0), (48, .istore_n 2, 1, [], 0), (49, .iload_n 2, 1, [], 0), (50, .sipush 600, 3, [], 600), (53, .if_icmp .gt 29, 3, [42], 0), (56, .aload_n 0, 1, [], 0), (57, .getfield 58, 3, [8, 7], 0), (60, .ifCond .eq 22, 3, [42], 0), (63, .aload_n 0, 1, [], 0), (64, .getfield 43, 3, [8, 3], 0), (67, .iconst 1, 1, [], 1), (68, .if_icmp .eq 14, 3, [42], 0), (71, .aload_n 0, 1, [], 0), (72, .iload_n 1, 1, [], 0), (73, .invokevirtual 61, 3, [93, 1, 8], 0), (76, .iinc 2 1, 3, [], 0), (79, .goto (-30), 3, [27], 0), (82, .iload_n 1, 1, [], 0), (83, .ifCond .ne 30, 3, [57], 0), (86, .aload_n 0, 1, [], 0), (87, .getfield 49, 3, [8, 11], 0), (90, .aload_n 0, 1, [], 0), (91, .getfield 12, 3, [8, 0], 0), (94, .getfield 65, 3, [7, 2], 0), (97, .ishr, 1, [], 0), (98, .ifCond .eq 15, 3, [57], 0), (101, .aload_n 0, 1, [], 0), (102, .iconst 4, 1, [], 4), (103, .aload_n 0, 1, [], 0), (104, .getfield 32, 3, [8, 5], 0), (107, .getfield 68, 3, [9, 1], 0), (110, .invokevirtual 73, 3, [105, 2, 8], 0), (113, .return_, 1, [1, 0, 0], 0)]
/-- X9_readLine -/
def cd_93 : List PEn := [(0, .aload_n 0, 1, [], 0), (1, .iload_n 1, 1, [], 0), (2, .invokevirtual 77, 3, [100, 1, 8], 0), (5, .istore_n 2, 1, [], 0), (6, .iload_n 2, 1, [], 0), (7, .iconst (-1), 1, [], -1), (8, .if_icmp .ne 8, 3, [10], 0), (11, .aload_n 0, 1, [], 0), (12, .invokevirtual 81, 3, [104, 0, 8], 0), (15, .return_, 1, [1, 0, 0], 0), (16, .aload_n 0, 1, [], 0), (17, .iload_n 1, 1, [], 0), (18, .iload_n 2, 1, [], 0), (19, .invokevirtual 84, 3, [96, 2, 8], 0), (22, .ifCond .eq 12, 3, [20], 0), (25, .aload_n 0, 1, [], 0), (26, .iconst 3, 1, [], 3), (27, .aload_n 0, 1, [], 0), (28, .getfield 88, 3, [8, 8], 0), (31, .invokevirtual 73, 3, [105, 2, 8], 0), (34, .iconst 0, 1, [], 0), (35, .istore_n 3, 1, [], 0), (36, .iload_n 3, 1, [], 0), (37, .iconst 3, 1, [], 3), (38, .if_icmp .ge 87, 3, [71], 0), (41, .aload_n 0, 1, [], 0), (42, .iload_n 1, 1, [], 0), (43, .iload_n 2, 1, [], 0), (44, .iload_n 3, 1, [], 0), (45, .invokevirtual 91, 3, [99, 3, 8], 0), (48, .iconst (-1), 1, [], -1), (49, .if_icmp .eq 76, 3, [71], 0), (52, .aload_n 0, 1, [], 0), (53, .invokevirtual 55, 3, [106, 0, 8], 0), (56, .aload_n 0, 1, [], 0), (57, .getfield 58, 3, [8, 7], 0), (60, .iconst 2, 1, [], 2), (61, .if_icmp .eq 8, 3, [41], 0), (64, .aload_n 0, 1, [], 0), (65, .invokevirtual 81, 3, [104, 0, 8], 0), (68, .return_, 1, [1, 0, 0], 0), (69, .aload_n 0, 1, [], 0), (70, .getfield 28, 3, [8, 6], 0), (73, .iload_n 3, 1, [], 0), (74, .aload_n 0, 1, [], 0), (75, .getfield 95, 3, [8, 10], 0), (78, .iastore, 1, [], 0), (79, .aload_n 0, 1, [], 0), (80, .getfield 95, 3, [8, 10], 0), (83, .aload_n 0, 1, [], 0), (84, .iload_n 1, 1, [], 0), (85, .iload_n 2, 1, [], 0), (86, .iload_n 3, 1, [], 0), (87, .invokevirtual 91, 3, [99, 3, 8], 0), (90, .if_icmp .gt 20, 3, [64], 0), (93, .aload_n 0, 1, [], 0), (94, .iload_n 1, 1, [], 0), (95, .iload_n 2, 1, [], 0), (96, .invokevirtual 98, 3, [97, 2, 8], 0), (99, .ifCond .eq 20, 3, [69], 0), (102, .aload_n 0, 1, [], 0), (103, .iload_n 3, 1, [], 0), (104, .invokevirtual 101, 3, [98, 1, 8], 0), (107, .ifCond .eq 12, 3, [69], 0), (110, .aload_n 0, 1, [], 0), (111, .iconst 2, 1, [], 2), (112, .aload_n 0, 1, [], 0), (113, .getfield 88, 3, [8, 8], 0), (116, .invokevirtual 73, 3, [105, 2, 8], 0), (119, .iinc 3 1, 3, [], 0), (122, .goto (-86), 3, [22], 0), (125, .aload_n 0, 1, [], 0), (126, .invokevirtual 55, 3, [106, 0, 8], 0), (129, .aload_n 0, 1, [], 0), (130, .getfield 58, 3, [8, 7], 0), (133, .iconst 3, 1, [], 3), (134, .if_icmp .eq 8, 3, [80], 0), (137, .aload_n 0, 1, [], 0), (138, .invokevirtual 81, 3, [104, 0, 8], 0), (141, .return_, 1, [1, 0, 0], 0), (142, .aload_n 0, 1, [], 0), (143, .getfield 43, 3, [8, 3], 0), (146, .ifCond .ne 9, 3, [87], 0), (149, .aload_n 0, 1, [], 0), (150, .iload_n 1, 1, [], 0), (151, .iload_n 2, 1, [], 0), (152, .invokevirtual 105, 3, [94, 2, 8], 0), (155, .aload_n 0, 1, [], 0), (156, .invokevirtual 55, 3, [106, 0, 8], 0), (159, .return_, 1, [1, 0, 0], 0)]
/-- X9_keepLine -/
def cd_94 : List PEn := [(0, .iload_n 1, 1, [], 0), (1, .iconst 1, 1, [], 1), (2, .if_icmp .ne 28, 3, [16], 0), (5, .aload_n 0, 1, [], 0), (6, .getfield 21, 3, [8, 1], 0), (9, .iload_n 2, 1, [], 0), (10, .iload_n 2, 1, [], 0), (11, .ifCond .ne 7, 3, [10], 0), (14, .iconst (-1), 1, [], -1), (15, .goto 9, 3, [14], 0), (18, .aload_n 0, 1, [], 0), (19, .getfield 28, 3, [8, 6], 0), (22, .iconst 0, 1, [], 0), (23, .iaload, 1, [], 0), (24, .invokevirtual 108, 3, [74, 2, 6], 0), (27, .goto 35, 3, [34], 0), (30, .iload_n 1, 1, [], 0), (31, .iconst 2, 1, [], 2), (32, .if_icmp .ne 25, 3, [31], 0), (35, .aload_n 0, 1, [], 0), (36, .getfield 25, 3, [8, 2], 0), (39, .aload_n 0, 1, [], 0), (40, .getfield 28, 3, [8, 6], 0), (43, .iconst 0, 1, [], 0), (44, .iaload, 1, [], 0), (45, .aload_n 0, 1, [], 0), (46, .getfield 28, 3, [8, 6], 0), (49, .iconst 1, 1, [], 1), (50, .iaload, 1, [], 0), (51, .invokevirtual 108, 3, [74, 2, 6], 0), (54, .goto 8, 3, [34], 0), (57, .aload_n 0, 1, [], 0), (58, .iload_n 2, 1, [], 0), (59, .invokevirtual 111, 3, [95, 1, 8], 0), (62, .return_, 1, [1, 0, 0], 0)]
/-- X9_keepParishLine -/
def cd_95 : List PEn := [(0, .iload_n 1, 1, [], 0), (1, .tableswitch 178 0 4 #[35, 51, 67, 107, 129], 35, [85, 2, 10, 18, 42, 54], 0), (36, .aload_n 0, 1, [], 0), (37, .getfield 12, 3, [8, 0], 0), (40, .aload_n 0, 1, [], 0), (41, .getfield 28, 3, [8, 6], 0), (44, .iconst 0, 1, [], 0), (45, .iaload, 1, [], 0), (46, .putfield 114, 3, [7, 0, 0, 0], 0), (49, .goto 190, 3, [125], 0), (52, .aload_n 0, 1, [], 0), (53, .getfield 12, 3, [8, 0], 0), (56, .aload_n 0, 1, [], 0), (57, .getfield 28, 3, [8, 6], 0), (60, .iconst 0, 1, [], 0), (61, .iaload, 1, [], 0), (62, .putfield 117, 3, [7, 1, 0, 0], 0), (65, .goto 174, 3, [125], 0), (68, .aload_n 0, 1, [], 0), (69, .getfield 12, 3, [8, 0], 0), (72, .dup, 1, [], 0), (73, .getfield 120, 3, [7, 3], 0), (76, .iconst 1, 1, [], 1), (77, .aload_n 0, 1, [], 0), (78, .getfield 28, 3, [8, 6], 0), (81, .iconst 0, 1, [], 0), (82, .iaload, 1, [], 0), (83, .ishl, 1, [], 0), (84, .ior, 1, [], 0), (85, .putfield 120, 3, [7, 3, 0, 0], 0), (88, .aload_n 0, 1, [], 0), (89, .dup, 1, [], 0), (90, .getfield 49, 3, [8, 11], 0), (93, .iconst 1, 1, [], 1), (94, .aload_n 0, 1, [], 0), (95, .getfield 28, 3, [8, 6], 0), (98, .iconst 0, 1, [], 0), (99, .iaload, 1, [], 0), (100, .ishl, 1, [], 0), (101, .ior, 1, [], 0), (102, .putfield 49, 3, [8, 11, 0, 0], 0), (105, .goto 134, 3, [125], 0), (108, .aload_n 0, 1, [], 0), (109, .getfield 12, 3, [8, 0], 0), (112, .aload_n 0, 1, [], 0), (113, .getfield 28, 3, [8, 6], 0), (116, .iconst 0, 1, [], 0), (117, .iaload, 1, [], 0), (118, .aload_n 0, 1, [], 0), (119, .getfield 28, 3, [8, 6], 0), (122, .iconst 1, 1, [], 1), (123, .iaload, 1, [], 0), (124, .invokevirtual 123, 3, [80, 2, 7], 0), (127, .goto 112, 3, [125], 0), (130, .aload_n 0, 1, [], 0), (131, .getfield 12, 3, [8, 0], 0), (134, .aload_n 0, 1, [], 0), (135, .getfield 28, 3, [8, 6], 0), (138, .iconst 0, 1, [], 0), (139, .iaload, 1, [], 0), (140, .aload_n 0, 1, [], 0), (141, .getfield 28, 3, [8, 6], 0), (144, .iconst 1, 1, [], 1), (145, .iaload, 1, [], 0), (146, .iconst (-1), 1, [], -1), (147, .invokevirtual 126, 3, [81, 3, 7], 0), (150, .aload_n 0, 1, [], 0), (151, .dup, 1, [], 0), (152, .getfield 49, 3, [8, 11], 0), (155, .iconst 1, 1, [], 1), (156, .aload_n 0, 1, [], 0), (157, .getfield 28, 3, [8, 6], 0), (160, .iconst 0, 1, [], 0), (161, .iaload, 1, [], 0), (162, .ishl, 1, [], 0), (163, .iconst 1, 1, [], 1), (164, .aload_n 0, 1, [], 0), (165, .getfield 28, 3, [8, 6], 0), (168, .iconst 1, 1, [], 1), (169, .iaload, 1, [], 0), (170, .ishl, 1, [], 0), (171, .ior, 1, [], 0), (172, .ior, 1, [], 0), (173, .putfield 49, 3, [8, 11, 0, 0], 0), (176, .goto 63, 3, [125], 0), (179, .aload_n 0, 1, [], 0), (180, .getfield 12, 3, [8, 0], 0), (183, .aload_n 0, 1, [], 0), (184, .getfield 28, 3, [8, 6], 0), (187, .iconst 0, 1, [], 0), (188, .iaload, 1, [], 0), (189, .aload_n 0, 1, [], 0), (190, .getfield 28, 3, [8, 6], 0), (193, .iconst 1, 1, [], 1), (194, .iaload, 1, [], 0), (195, .aload_n 0, 1, [], 0), (196, .getfield 28, 3, [8, 6], 0), (199, .iconst 2, 1, [], 2), (200, .iaload, 1, [], 0), (201, .invokevirtual 126, 3, [81, 3, 7], 0), (204, .aload_n 0, 1, [], 0), (205, .dup, 1, [], 0), (206, .getfield 49, 3, [8, 11], 0), (209, .iconst 1, 1, [], 1), (210, .aload_n 0, 1, [], 0), (211, .getfield 28, 3, [8, 6], 0), (214, .iconst 0, 1, [], 0), (215, .iaload, 1, [], 0), (216, .ishl, 1, [], 0), (217, .iconst 1, 1, [], 1), (218, .aload_n 0, 1, [], 0), (219, .getfield 28, 3, [8, 6], 0), (222, .iconst 1, 1, [], 1), (223, .iaload, 1, [], 0), (224, .ishl, 1, [], 0), (225, .ior, 1, [], 0), (226, .iconst 1, 1, [], 1), (227, .aload_n 0, 1, [], 0), (228, .getfield 28, 3, [8, 6], 0), (231, .iconst 2, 1, [], 2), (232, .iaload, 1, [], 0), (233, .ishl, 1, [], 0), (234, .ior, 1, [], 0), (235, .ior, 1, [], 0), (236, .putfield 49, 3, [8, 11, 0, 0], 0), (239, .return_, 1, [1, 0, 0], 0)]
/-- X9_isFull -/
def cd_96 : List PEn := [(0, .iload_n 1, 1, [], 0), (1, .iconst 1, 1, [], 1), (2, .if_icmp .ne 21, 3, [12], 0), (5, .aload_n 0, 1, [], 0), (6, .getfield 21, 3, [8, 1], 0), (9, .getfield 39, 3, [6, 0], 0), (12, .bipush 40, 2, [], 40), (14, .if_icmp .lt 7, 3, [10], 0), (17, .iconst 1, 1, [], 1), (18, .goto 4, 3, [11], 0), (21, .iconst 0, 1, [], 0), (22, .ireturn, 1, [1, 0, 0], 0), (23, .iload_n 1, 1, [], 0), (24, .iconst 2, 1, [], 2), (25, .if_icmp .ne 21, 3, [24], 0), (28, .aload_n 0, 1, [], 0), (29, .getfield 25, 3, [8, 2], 0), (32, .getfield 39, 3, [6, 0], 0), (35, .bipush 8, 2, [], 8), (37, .if_icmp .lt 7, 3, [22], 0), (40, .iconst 1, 1, [], 1), (41, .goto 4, 3, [23], 0), (44, .iconst 0, 1, [], 0), (45, .ireturn, 1, [1, 0, 0], 0), (46, .iload_n 2, 1, [], 0), (47, .iconst 3, 1, [], 3), (48, .if_icmp .ne 15, 3, [32], 0), (51, .aload_n 0, 1, [], 0), (52, .getfield 12, 3, [8, 0], 0), (55, .getfield 65, 3, [7, 2], 0), (58, .bipush 7, 2, [], 7), (60, .if_icmp .ge 24, 3, [42], 0), (63, .aload_n 0, 1, [], 0), (64, .iload_n 1, 1, [], 0), (65, .iload_n 2, 1, [], 0), (66, .invokevirtual 98, 3, [97, 2, 8], 0), (69, .ifCond .eq 19, 3, [44], 0), (72, .aload_n 0, 1, [], 0), (73, .getfield 12, 3, [8, 0], 0), (76, .getfield 130, 3, [7, 4], 0), (79, .bipush 10, 2, [], 10), (81, .if_icmp .lt 7, 3, [44], 0), (84, .iconst 1, 1, [], 1), (85, .goto 4, 3, [45], 0), (88, .iconst 0, 1, [], 0), (89, .ireturn, 1, [1, 0, 0], 0)]
/-- X9_isRule -/
def cd_97 : List PEn := [(0, .iload_n 1, 1, [], 0), (1, .ifCond .ne 17, 3, [10], 0), (4, .iload_n 2, 1, [], 0), (5, .iconst 4, 1, [], 4), (6, .if_icmp .eq 8, 3, [8], 0), (9, .iload_n 2, 1, [], 0), (10, .iconst 5, 1, [], 5), (11, .if_icmp .ne 7, 3, [10], 0), (14, .iconst 1, 1, [], 1), (15, .goto 4, 3, [11], 0), (18, .iconst 0, 1, [], 0), (19, .ireturn, 1, [1, 0, 0], 0)]
/-- X9_isRepeated -/
def cd_98 : List PEn := [(0, .iconst 0, 1, [], 0), (1, .istore_n 2, 1, [], 0), (2, .iload_n 2, 1, [], 0), (3, .iload_n 1, 1, [], 0), (4, .if_icmp .ge 29, 3, [19], 0), (7, .iload_n 2, 1, [], 0), (8, .iconst 3, 1, [], 3), (9, .if_icmp .ge 24, 3, [19], 0), (12, .aload_n 0, 1, [], 0), (13, .getfield 28, 3, [8, 6], 0), (16, .iload_n 2, 1, [], 0), (17, .iaload, 1, [], 0), (18, .aload_n 0, 1, [], 0), (19, .getfield 95, 3, [8, 10], 0), (22, .if_icmp .ne 5, 3, [17], 0), (25, .iconst 1, 1, [], 1), (26, .ireturn, 1, [1, 0, 0], 0), (27, .iinc 2 1, 3, [], 0), (30, .goto (-28), 3, [2], 0), (33, .iconst 0, 1, [], 0), (34, .ireturn, 1, [1, 0, 0], 0)]
/-- X9_limitOf -/
def cd_99 : List PEn := [(0, .iload_n 2, 1, [], 0), (1, .iconst 3, 1, [], 3), (2, .imul, 1, [], 0), (3, .iload_n 3, 1, [], 0), (4, .iadd, 1, [], 0), (5, .istore 4, 2, [], 0), (7, .iload_n 1, 1, [], 0), (8, .ifCond .ne 9, 3, [10], 0), (11, .getstatic 133, 3, [11], 0), (14, .goto 17, 3, [16], 0), (17, .iload_n 1, 1, [], 0), (18, .iconst 1, 1, [], 1), (19, .if_icmp .ne 9, 3, [15], 0), (22, .getstatic 136, 3, [12], 0), (25, .goto 6, 3, [16], 0), (28, .getstatic 139, 3, [13], 0), (31, .astore 5, 2, [], 0), (33, .iload 4, 2, [], 0), (35, .ifCond .lt 19, 3, [27], 0), (38, .iload 4, 2, [], 0), (40, .aload 5, 2, [], 0), (42, .arraylength, 1, [], 0), (43, .if_icmp .ge 11, 3, [27], 0), (46, .aload 5, 2, [], 0), (48, .iload 4, 2, [], 0), (50, .iaload, 1, [], 0), (51, .goto 4, 3, [28], 0), (54, .iconst (-1), 1, [], -1), (55, .ireturn, 1, [0, 0, 0], 0)]
/-- X9_lineOf -/
def cd_100 : List PEn := [(0, .aload_n 0, 1, [], 0), (1, .getfield 58, 3, [8, 7], 0), (4, .iconst 1, 1, [], 1), (5, .if_icmp .eq 5, 3, [6], 0), (8, .iconst (-1), 1, [], -1), (9, .ireturn, 1, [0, 0, 0], 0), (10, .iload_n 1, 1, [], 0), (11, .ifCond .ne 8, 3, [11], 0), (14, .aload_n 0, 1, [], 0), (15, .invokevirtual 142, 3, [101, 0, 8], 0), (18, .ireturn, 1, [0, 0, 0], 0), (19, .iload_n 1, 1, [], 0), (20, .iconst 1, 1, [], 1), (21, .if_icmp .ne 8, 3, [17], 0), (24, .aload_n 0, 1, [], 0), (25, .invokevirtual 146, 3, [102, 0, 8], 0), (28, .ireturn, 1, [0, 0, 0], 0), (29, .aload_n 0, 1, [], 0), (30, .ldc 149, 2, [10], 0), (32, .invokevirtual 151, 3, [103, 1, 8], 0), (35, .ifCond .eq 7, 3, [23], 0), (38, .iconst 0, 1, [], 0), (39, .goto 4, 3, [24], 0), (42, .iconst (-1), 1, [], -1), (43, .ireturn, 1, [0, 0, 0], 0)]
/-- X9_parishLine -/
def cd_101 : List PEn := [(0, .aload_n 0, 1, [], 0), (1, .ldc 155, 2, [0], 0), (3, .invokevirtual 151, 3, [103, 1, 8], 0), (6, .ifCond .eq 7, 3, [6], 0), (9, .iconst 0, 1, [], 0), (10, .goto 69, 3, [37], 0), (13, .aload_n 0, 1, [], 0), (14, .ldc 156, 2, [1], 0), (16, .invokevirtual 151, 3, [103, 1, 8], 0), (19, .ifCond .eq 7, 3, [12], 0), (22, .iconst 1, 1, [], 1), (23, .goto 56, 3, [37], 0), (26, .aload_n 0, 1, [], 0), (27, .ldc 157, 2, [2], 0), (29, .invokevirtual 151, 3, [103, 1, 8], 0), (32, .ifCond .eq 7, 3, [18], 0), (35, .iconst 2, 1, [], 2), (36, .goto 43, 3, [37], 0), (39, .aload_n 0, 1, [], 0), (40, .ldc 159, 2, [3], 0), (42, .invokevirtual 151, 3, [103, 1, 8], 0), (45, .ifCond .eq 7, 3, [24], 0), (48, .iconst 3, 1, [], 3), (49, .goto 30, 3, [37], 0), (52, .aload_n 0, 1, [], 0), (53, .ldc 161, 2, [4], 0), (55, .invokevirtual 151, 3, [103, 1, 8], 0), (58, .ifCond .eq 7, 3, [30], 0), (61, .iconst 4, 1, [], 4), (62, .goto 17, 3, [37], 0), (65, .aload_n 0, 1, [], 0), (66, .ldc 163, 2, [5], 0), (68, .invokevirtual 151, 3, [103, 1, 8], 0), (71, .ifCond .eq 7, 3, [36], 0), (74, .iconst 5, 1, [], 5), (75, .goto 4, 3, [37], 0), (78, .iconst (-1), 1, [], -1), (79, .ireturn, 1, [0, 0, 0], 0)]
/-- X9_yearsLine -/
def cd_102 : List PEn := [(0, .aload_n 0, 1, [], 0), (1, .ldc 165, 2, [6], 0), (3, .invokevirtual 151, 3, [103, 1, 8], 0), (6, .ifCond .eq 7, 3, [6], 0), (9, .iconst 0, 1, [], 0), (10, .goto 69, 3, [37], 0), (13, .aload_n 0, 1, [], 0), (14, .ldc 167, 2, [7], 0), (16, .invokevirtual 151, 3, [103, 1, 8], 0), (19, .ifCond .eq 7, 3, [12], 0), (22, .iconst 1, 1, [], 1), (23, .goto 56, 3, [37], 0), (26, .aload_n 0, 1, [], 0), (27, .ldc 169, 2, [8], 0), (29, .invokevirtual 151, 3, [103, 1, 8], 0), (32, .ifCond .eq 7, 3, [18], 0), (35, .iconst 2, 1, [], 2), (36, .goto 43, 3, [37], 0), (39, .aload_n 0, 1, [], 0), (40, .ldc 155, 2, [0], 0), (42, .invokevirtual 151, 3, [103, 1, 8], 0), (45, .ifCond .eq 7, 3, [24], 0), (48, .iconst 3, 1, [], 3), (49, .goto 30, 3, [37], 0), (52, .aload_n 0, 1, [], 0), (53, .ldc 156, 2, [1], 0), (55, .invokevirtual 151, 3, [103, 1, 8], 0), (58, .ifCond .eq 7, 3, [30], 0), (61, .iconst 4, 1, [], 4), (62, .goto 17, 3, [37], 0), (65, .aload_n 0, 1, [], 0), (66, .ldc 171, 2, [9], 0), (68, .invokevirtual 151, 3, [103, 1, 8], 0), (71, .ifCond .eq 7, 3, [36], 0), (74, .iconst 5, 1, [], 5), (75, .goto 4, 3, [37], 0), (78, .iconst (-1), 1, [], -1), (79, .ireturn, 1, [0, 0, 0], 0)]
/-- X9_spells -/
def cd_103 : List PEn := [(0, .aload_n 0, 1, [], 0), (1, .getfield 52, 3, [8, 9], 0), (4, .aload_n 0, 1, [], 0), (5, .getfield 88, 3, [8, 8], 0), (8, .isub, 1, [], 0), (9, .aload_n 1, 1, [], 0), (10, .invokevirtual 173, 3, [902], 0), (13, .if_icmp .eq 5, 3, [10], 0), (16, .iconst 0, 1, [], 0), (17, .ireturn, 1, [1, 0, 0], 0), (18, .iconst 0, 1, [], 0), (19, .istore_n 2, 1, [], 0), (20, .iload_n 2, 1, [], 0), (21, .aload_n 1, 1, [], 0), (22, .invokevirtual 173, 3, [902], 0), (25, .if_icmp .ge 32, 3, [31], 0), (28, .aload_n 0, 1, [], 0), (29, .getfield 32, 3, [8, 5], 0), (32, .aload_n 0, 1, [], 0), (33, .getfield 88, 3, [8, 8], 0), (36, .iload_n 2, 1, [], 0), (37, .iadd, 1, [], 0), (38, .invokevirtual 177, 3, [113, 1, 9], 0), (41, .aload_n 1, 1, [], 0), (42, .iload_n 2, 1, [], 0), (43, .invokevirtual 180, 3, [903], 0), (46, .if_icmp .eq 5, 3, [29], 0), (49, .iconst 0, 1, [], 0), (50, .ireturn, 1, [1, 0, 0], 0), (51, .iinc 2 1, 3, [], 0), (54, .goto (-34), 3, [12], 0), (57, .iconst 1, 1, [], 1), (58, .ireturn, 1, [1, 0, 0], 0)]
/-- X9_breakOff -/
def cd_104 : List PEn := [(0, .aload_n 0, 1, [], 0), (1, .iconst 1, 1, [], 1), (2, .putfield 43, 3, [8, 3, 0, 0], 0), (5, .aload_n 0, 1, [], 0), (6, .aload_n 0, 1, [], 0), (7, .getfield 88, 3, [8, 8], 0), (10, .putfield 46, 3, [8, 4, 0, 0], 0), (13, .return_, 1, [1, 0, 0], 0)]
/-- X9_noteFault -/
def cd_105 : List PEn := [(0, .aload_n 0, 1, [], 0), (1, .getfield 43, 3, [8, 3], 0), (4, .ifCond .ne 13, 3, [9], 0), (7, .aload_n 0, 1, [], 0), (8, .iload_n 1, 1, [], 0), (9, .putfield 43, 3, [8, 3, 0, 0], 0), (12, .aload_n 0, 1, [], 0), (13, .iload_n 2, 1, [], 0), (14, .putfield 46, 3, [8, 4, 0, 0], 0), (17, .return_, 1, [1, 0, 0], 0)]
/-- X9_nextToken -/
def cd_106 : List PEn := [(0, .aload_n 0, 1, [], 0), (1, .getfield 52, 3, [8, 9], 0), (4, .istore_n 1, 1, [], 0), (5, .iload_n 1, 1, [], 0), (6, .aload_n 0, 1, [], 0), (7, .getfield 32, 3, [8, 5], 0), (10, .getfield 68, 3, [9, 1], 0), (13, .if_icmp .ge 23, 3, [16], 0), (16, .aload_n 0, 1, [], 0), (17, .getfield 32, 3, [8, 5], 0), (20, .iload_n 1, 1, [], 0), (21, .invokevirtual 177, 3, [113, 1, 9], 0), (24, .invokestatic 184, 3, [108, 1], 0), (27, .ifCond .eq 9, 3, [16], 0), (30, .iinc 1 1, 3, [], 0), (33, .goto (-28), 3, [3], 0), (36, .aload_n 0, 1, [], 0), (37, .iload_n 1, 1, [], 0), (38, .putfield 88, 3, [8, 8, 0, 0], 0), (41, .aload_n 0, 1, [], 0), (42, .getfield 32, 3, [8, 5], 0), (45, .iload_n 1, 1, [], 0), (46, .invokevirtual 177, 3, [113, 1, 9], 0), (49, .istore_n 2, 1, [], 0), (50, .iload_n 2, 1, [], 0), (51, .invokestatic 187, 3, [109, 1], 0), (54, .ifCond .eq 39, 3, [43], 0), (57, .aload_n 0, 1, [], 0), (58, .iconst 1, 1, [], 1), (59, .putfield 58, 3, [8, 7, 0, 0], 0), (62, .iload_n 1, 1, [], 0), (63, .aload_n 0, 1, [], 0), (64, .getfield 32, 3, [8, 5], 0), (67, .getfield 68, 3, [9, 1], 0), (70, .if_icmp .ge 66, 3, [65], 0), (73, .aload_n 0, 1, [], 0), (74, .getfield 32, 3, [8, 5], 0), (77, .iload_n 1, 1, [], 0), (78, .invokevirtual 177, 3, [113, 1, 9], 0), (81, .invokestatic 187, 3, [109, 1], 0), (84, .ifCond .eq 52, 3, [65], 0), (87, .iinc 1 1, 3, [], 0), (90, .goto (-28), 3, [30], 0), (93, .iload_n 2, 1, [], 0), (94, .invokestatic 190, 3, [110, 1], 0), (97, .ifCond .eq 12, 3, [51], 0), (100, .aload_n 0, 1, [], 0), (101, .iload_n 1, 1, [], 0), (102, .invokevirtual 193, 3, [107, 1, 8], 0), (105, .istore_n 1, 1, [], 0), (106, .goto 30, 3, [65], 0), (109, .aload_n 0, 1, [], 0), (110, .iload_n 2, 1, [], 0), (111, .iconst (-1), 1, [], -1), (112, .if_icmp .ne 7, 3, [57], 0), (115, .iconst 0, 1, [], 0), (116, .goto 14, 3, [63], 0), (119, .iload_n 2, 1, [], 0), (120, .bipush 59, 2, [], 59), (122, .if_icmp .ne 7, 3, [62], 0), (125, .iconst 3, 1, [], 3), (126, .goto 4, 3, [63], 0), (129, .iconst 4, 1, [], 4), (130, .putfield 58, 3, [8, 7, 0, 0], 0), (133, .iinc 1 1, 3, [], 0), (136, .aload_n 0, 1, [], 0), (137, .iload_n 1, 1, [], 0), (138, .putfield 52, 3, [8, 9, 0, 0], 0), (141, .return_, 1, [1, 0, 0], 0)]
/-- X9_readDigits -/
def cd_107 : List PEn := [(0, .iload_n 1, 1, [], 0), (1, .istore_n 2, 1, [], 0), (2, .aload_n 0, 1, [], 0), (3, .iconst 0, 1, [], 0), (4, .putfield 95, 3, [8, 10, 0, 0], 0), (7, .iload_n 2, 1, [], 0), (8, .aload_n 0, 1, [], 0), (9, .getfield 32, 3, [8, 5], 0), (12, .getfield 68, 3, [9, 1], 0), (15, .if_icmp .ge 46, 3, [31], 0), (18, .aload_n 0, 1, [], 0), (19, .getfield 32, 3, [8, 5], 0), (22, .iload_n 2, 1, [], 0), (23, .invokevirtual 177, 3, [113, 1, 9], 0), (26, .invokestatic 190, 3, [110, 1], 0), (29, .ifCond .eq 32, 3, [31], 0), (32, .aload_n 0, 1, [], 0), (33, .aload_n 0, 1, [], 0), (34, .getfield 95, 3, [8, 10], 0), (37, .bipush 10, 2, [], 10), (39, .imul, 1, [], 0), (40, .aload_n 0, 1, [], 0), (41, .getfield 32, 3, [8, 5], 0), (44, .iload_n 2, 1, [], 0), (45, .invokevirtual 177, 3, [113, 1, 9], 0), (48, .iadd, 1, [], 0), (49, .bipush 48, 2, [], 48), (51, .isub, 1, [], 0), (52, .putfield 95, 3, [8, 10, 0, 0], 0), (55, .iinc 2 1, 3, [], 0), (58, .goto (-51), 3, [5], 0), (61, .aload_n 0, 1, [], 0), (62, .iload_n 2, 1, [], 0), (63, .iload_n 1, 1, [], 0), (64, .isub, 1, [], 0), (65, .iconst 2, 1, [], 2), (66, .if_icmp .gt 7, 3, [39], 0), (69, .iconst 2, 1, [], 2), (70, .goto 4, 3, [40], 0), (73, .iconst 4, 1, [], 4), (74, .putfield 58, 3, [8, 7, 0, 0], 0), (77, .iload_n 2, 1, [], 0), (78, .ireturn, 1, [0, 0, 0], 0)]
/-- X9_isBlank -/
def cd_108 : List PEn := [(0, .iload_n 0, 1, [], 0), (1, .bipush 10, 2, [], 10), (3, .if_icmp .eq 9, 3, [6], 0), (6, .iload_n 0, 1, [], 0), (7, .bipush 32, 2, [], 32), (9, .if_icmp .ne 7, 3, [8], 0), (12, .iconst 1, 1, [], 1), (13, .goto 4, 3, [9], 0), (16, .iconst 0, 1, [], 0), (17, .ireturn, 1, [1, 0, 0], 0)]
/-- X9_isLetter -/
def cd_109 : List PEn := [(0, .iload_n 0, 1, [], 0), (1, .bipush 97, 2, [], 97), (3, .if_icmp .lt 13, 3, [8], 0), (6, .iload_n 0, 1, [], 0), (7, .bipush 122, 2, [], 122), (9, .if_icmp .gt 7, 3, [8], 0), (12, .iconst 1, 1, [], 1), (13, .goto 4, 3, [9], 0), (16, .iconst 0, 1, [], 0), (17, .ireturn, 1, [1, 0, 0], 0)]
/-- X9_isDigit -/
def cd_110 : List PEn := [(0, .iload_n 0, 1, [], 0), (1, .bipush 48, 2, [], 48), (3, .if_icmp .lt 13, 3, [8], 0), (6, .iload_n 0, 1, [], 0), (7, .bipush 57, 2, [], 57), (9, .if_icmp .gt 7, 3, [8], 0), (12, .iconst 1, 1, [], 1), (13, .goto 4, 3, [9], 0), (16, .iconst 0, 1, [], 0), (17, .ireturn, 1, [1, 0, 0], 0)]
/-- X10_init -/
def cd_111 : List PEn := [(0, .aload_n 0, 1, [], 0), (1, .invokespecial 3, 3, [900, 0], 0), (4, .aload_n 0, 1, [], 0), (5, .sipush 600, 3, [], 600), (8, .newarray .int, 2, [], 0), (10, .putfield 9, 3, [9, 0, 2, 1], 0), (13, .aload_n 0, 1, [], 0), (14, .iconst 2, 1, [], 2), (15, .anewarray 15, 3, [7], 0), (18, .putfield 17, 3, [9, 2, 2, 1], 0), (21, .aload_n 0, 1, [], 0), (22, .iconst 2, 1, [], 2), (23, .anewarray 21, 3, [6], 0), (26, .putfield 23, 3, [9, 3, 2, 1], 0), (29, .aload_n 0, 1, [], 0), (30, .iconst 2, 1, [], 2), (31, .anewarray 21, 3, [6], 0), (34, .putfield 27, 3, [9, 4, 2, 1], 0), (37, .aload_n 0, 1, [], 0), (38, .iconst 3, 1, [], 3), (39, .newarray .int, 2, [], 0), (41, .putfield 30, 3, [9, 5, 2, 1], 0), (44, .aload_n 0, 1, [], 0), (45, .iconst (-1), 1, [], -1), (46, .putfield 33, 3, [9, 7, 0, 0], 0), (49, .iconst 0, 1, [], 0), (50, .istore_n 1, 1, [], 0), (51, .iload_n 1, 1, [], 0), (52, .iconst 2, 1, [], 2), (53, .if_icmp .ge 48, 3, [53], 0), (56, .aload_n 0, 1, [], 0), (57, .getfield 17, 3, [9, 2], 0), (60, .iload_n 1, 1, [], 0), (61, .new 15, 3, [7, 0, 0, 0, 0, 0, 2, 2, 2, 2, 2, 2], 0), (64, .dup, 1, [], 0), (65, .invokespecial 37, 3, [77, 0], 0), (68, .aastore, 1, [7], 0), (69, .aload_n 0, 1, [], 0), (70, .getfield 23, 3, [9, 3], 0), (73, .iload_n 1, 1, [], 0), (74, .new 21, 3, [6, 0, 2, 2], 0), (77, .dup, 1, [], 0), (78, .invokespecial 38, 3, [72, 0], 0), (81, .aastore, 1, [6], 0), (82, .aload_n 0, 1, [], 0), (83, .getfield 27, 3, [9, 4], 0), (86, .iload_n 1, 1, [], 0), (87, .new 21, 3, [6, 0, 2, 2], 0), (90, .dup, 1, [], 0), (91, .invokespecial 38, 3, [72, 0], 0), (94, .aastore, 1, [6], 0), (95, .iinc 1 1, 3, [], 0), (98, .goto (-47), 3, [27], 0), (101, .return_, 1, [1, 31, 1071], 0)]
/-- X10_append -/
def cd_112 : List PEn := [(0, .bipush 24, 2, [], 24), (2, .istore_n 2, 1, [], 0), (3, .iload_n 2, 1, [], 0), (4, .ifCond .lt 52, 3, [29], 0), (7, .aload_n 0, 1, [], 0), (8, .getfield 39, 3, [9, 1], 0), (11, .ifCond .lt 39, 3, [27], 0), (14, .aload_n 0, 1, [], 0), (15, .getfield 39, 3, [9, 1], 0), (18, .sipush 600, 3, [], 600), (21, .if_icmp .ge 29, 3, [27], 0), (24, .aload_n 0, 1, [], 0), (25, .getfield 9, 3, [9, 0], 0), (28, .aload_n 0, 1, [], 0), (29, .getfield 39, 3, [9, 1], 0), (32, .iload_n 1, 1, [], 0), (33, .iload_n 2, 1, [], 0), (34, .iushr, 1, [], 0), (35, .sipush 255, 3, [], 255), (38, .iand, 1, [], 0), (39, .iastore, 1, [], 0), (40, .aload_n 0, 1, [], 0), (41, .dup, 1, [], 0), (42, .getfield 39, 3, [9, 1], 0), (45, .iconst 1, 1, [], 1), (46, .iadd, 1, [], 0), (47, .putfield 39, 3, [9, 1, 0, 0], 0), (50, .iinc 2 (-8), 3, [], 0), (53, .goto (-50), 3, [2], 0), (56, .return_, 1, [1, 0, 0], 0)]
/-- X10_byteAt -/
def cd_113 : List PEn := [(0, .iload_n 1, 1, [], 0), (1, .ifCond .lt 27, 3, [14], 0), (4, .iload_n 1, 1, [], 0), (5, .aload_n 0, 1, [], 0), (6, .getfield 39, 3, [9, 1], 0), (9, .if_icmp .ge 19, 3, [14], 0), (12, .iload_n 1, 1, [], 0), (13, .sipush 600, 3, [], 600), (16, .if_icmp .ge 12, 3, [14], 0), (19, .aload_n 0, 1, [], 0), (20, .getfield 9, 3, [9, 0], 0), (23, .iload_n 1, 1, [], 0), (24, .iaload, 1, [], 0), (25, .goto 4, 3, [15], 0), (28, .iconst (-1), 1, [], -1), (29, .ireturn, 1, [0, 0, 0], 0)]
/-- X10_has -/
def cd_114 : List PEn := [(0, .iload_n 1, 1, [], 0), (1, .ifCond .lt 31, 3, [18], 0), (4, .iload_n 1, 1, [], 0), (5, .iconst 3, 1, [], 3), (6, .if_icmp .ge 26, 3, [18], 0), (9, .iload_n 2, 1, [], 0), (10, .ifCond .lt 22, 3, [18], 0), (13, .iload_n 2, 1, [], 0), (14, .aload_n 0, 1, [], 0), (15, .getfield 30, 3, [9, 5], 0), (18, .iload_n 1, 1, [], 0), (19, .iaload, 1, [], 0), (20, .if_icmp .ge 12, 3, [18], 0), (23, .iload_n 2, 1, [], 0), (24, .iconst 2, 1, [], 2), (25, .if_icmp .ge 7, 3, [18], 0), (28, .iconst 1, 1, [], 1), (29, .goto 4, 3, [19], 0), (32, .iconst 0, 1, [], 0), (33, .ireturn, 1, [1, 0, 0], 0)]
/-- X10_hasHouse -/
def cd_115 : List PEn := [(0, .aload_n 0, 1, [], 0), (1, .iconst 0, 1, [], 0), (2, .iload_n 1, 1, [], 0), (3, .invokevirtual 42, 3, [114, 2, 9], 0), (6, .ifCond .eq 20, 3, [14], 0), (9, .aload_n 0, 1, [], 0), (10, .getfield 17, 3, [9, 2], 0), (13, .iload_n 1, 1, [], 0), (14, .aaload, 1, [7], 0), (15, .iload_n 2, 1, [], 0), (16, .invokevirtual 46, 3, [82, 1, 7], 0), (19, .ifCond .eq 7, 3, [14], 0), (22, .iconst 1, 1, [], 1), (23, .goto 4, 3, [15], 0), (26, .iconst 0, 1, [], 0), (27, .ireturn, 1, [1, 0, 0], 0)]
/-- X10_slotFor -/
def cd_116 : List PEn := [(0, .iload_n 1, 1, [], 0), (1, .ifCond .lt 8, 3, [5], 0), (4, .iload_n 1, 1, [], 0), (5, .iconst 3, 1, [], 3), (6, .if_icmp .lt 6, 3, [7], 0), (9, .bipush (-2), 2, [], -2), (11, .ireturn, 1, [0, 0, 0], 0), (12, .iload_n 2, 1, [], 0), (13, .iconst (-1), 1, [], -1), (14, .if_icmp .ne 25, 3, [23], 0), (17, .aload_n 0, 1, [], 0), (18, .getfield 30, 3, [9, 5], 0), (21, .iload_n 1, 1, [], 0), (22, .iaload, 1, [], 0), (23, .iconst 2, 1, [], 2), (24, .if_icmp .ge 12, 3, [21], 0), (27, .aload_n 0, 1, [], 0), (28, .getfield 30, 3, [9, 5], 0), (31, .iload_n 1, 1, [], 0), (32, .iaload, 1, [], 0), (33, .goto 5, 3, [22], 0), (36, .bipush (-2), 2, [], -2), (38, .ireturn, 1, [0, 0, 0], 0), (39, .aload_n 0, 1, [], 0), (40, .iload_n 1, 1, [], 0), (41, .iload_n 2, 1, [], 0), (42, .invokevirtual 42, 3, [114, 2, 9], 0), (45, .ifCond .eq 7, 3, [30], 0), (48, .iload_n 2, 1, [], 0), (49, .goto 5, 3, [31], 0), (52, .bipush (-2), 2, [], -2), (54, .ireturn, 1, [0, 0, 0], 0)]
/-- X10_growTo -/
def cd_117 : List PEn := [(0, .iload_n 1, 1, [], 0), (1, .ifCond .lt 25, 3, [16], 0), (4, .iload_n 1, 1, [], 0), (5, .iconst 3, 1, [], 3), (6, .if_icmp .ge 20, 3, [16], 0), (9, .aload_n 0, 1, [], 0), (10, .getfield 30, 3, [9, 5], 0), (13, .iload_n 1, 1, [], 0), (14, .iaload, 1, [], 0), (15, .iload_n 2, 1, [], 0), (16, .if_icmp .ge 10, 3, [16], 0), (19, .aload_n 0, 1, [], 0), (20, .getfield 30, 3, [9, 5], 0), (23, .iload_n 1, 1, [], 0), (24, .iload_n 2, 1, [], 0), (25, .iastore, 1, [], 0), (26, .return_, 1, [1, 0, 0], 0)]
/-- X10_copyFrom -/
def cd_118 : List PEn := [(0, .aload_n 0, 1, [], 0), (1, .aload_n 1, 1, [], 0), (2, .getfield 39, 3, [9, 1], 0), (5, .putfield 39, 3, [9, 1, 0, 0], 0), (8, .aload_n 1, 1, [], 0), (9, .getfield 9, 3, [9, 0], 0), (12, .iconst 0, 1, [], 0), (13, .aload_n 0, 1, [], 0), (14, .getfield 9, 3, [9, 0], 0), (17, .iconst 0, 1, [], 0), (18, .aload_n 0, 1, [], 0), (19, .getfield 39, 3, [9, 1], 0), (22, .invokestatic 50, 3, [901], 0), (25, .iconst 0, 1, [], 0), (26, .istore_n 2, 1, [], 0), (27, .iload_n 2, 1, [], 0), (28, .iconst 2, 1, [], 2), (29, .if_icmp .ge 54, 3, [47], 0), (32, .aload_n 0, 1, [], 0), (33, .getfield 17, 3, [9, 2], 0), (36, .iload_n 2, 1, [], 0), (37, .aaload, 1, [7], 0), (38, .aload_n 1, 1, [], 0), (39, .getfield 17, 3, [9, 2], 0), (42, .iload_n 2, 1, [], 0), (43, .aaload, 1, [7], 0), (44, .invokevirtual 56, 3, [79, 1, 7], 0), (47, .aload_n 0, 1, [], 0), (48, .getfield 23, 3, [9, 3], 0), (51, .iload_n 2, 1, [], 0), (52, .aaload, 1, [6], 0), (53, .aload_n 1, 1, [], 0), (54, .getfield 23, 3, [9, 3], 0), (57, .iload_n 2, 1, [], 0), (58, .aaload, 1, [6], 0), (59, .invokevirtual 60, 3, [76, 1, 6], 0), (62, .aload_n 0, 1, [], 0), (63, .getfield 27, 3, [9, 4], 0), (66, .iload_n 2, 1, [], 0), (67, .aaload, 1, [6], 0), (68, .aload_n 1, 1, [], 0), (69, .getfield 27, 3, [9, 4], 0), (72, .iload_n 2, 1, [], 0), (73, .aaload, 1, [6], 0), (74, .invokevirtual 60, 3, [76, 1, 6], 0), (77, .iinc 2 1, 3, [], 0), (80, .goto (-53), 3, [15], 0), (83, .iconst 0, 1, [], 0), (84, .istore_n 2, 1, [], 0), (85, .iload_n 2, 1, [], 0), (86, .iconst 3, 1, [], 3), (87, .if_icmp .ge 21, 3, [62], 0), (90, .aload_n 0, 1, [], 0), (91, .getfield 30, 3, [9, 5], 0), (94, .iload_n 2, 1, [], 0), (95, .aload_n 1, 1, [], 0), (96, .getfield 30, 3, [9, 5], 0), (99, .iload_n 2, 1, [], 0), (100, .iaload, 1, [], 0), (101, .iastore, 1, [], 0), (102, .iinc 2 1, 3, [], 0), (105, .goto (-20), 3, [49], 0), (108, .aload_n 0, 1, [], 0), (109, .aload_n 1, 1, [], 0), (110, .getfield 63, 3, [9, 6], 0), (113, .putfield 63, 3, [9, 6, 0, 0], 0), (116, .aload_n 0, 1, [], 0), (117, .aload_n 1, 1, [], 0), (118, .getfield 33, 3, [9, 7], 0), (121, .putfield 33, 3, [9, 7, 0, 0], 0), (124, .return_, 1, [1, 0, 0], 0)]
/-- X11_init -/
def cd_119 : List PEn := [(0, .aload_n 0, 1, [], 0), (1, .invokespecial 1, 3, [900, 0], 0), (4, .aload_n 0, 1, [], 0), (5, .new 7, 3, [9, 2, 0, 2, 2, 2, 2, 0, 0], 0), (8, .dup, 1, [], 0), (9, .invokespecial 9, 3, [111, 0], 0), (12, .putfield 10, 3, [10, 0, 2, 1], 0), (15, .aload_n 0, 1, [], 0), (16, .iconst 3, 1, [], 3), (17, .anewarray 7, 3, [9], 0), (20, .putfield 16, 3, [10, 1, 2, 1], 0), (23, .iconst 0, 1, [], 0), (24, .istore_n 1, 1, [], 0), (25, .iload_n 1, 1, [], 0), (26, .iconst 3, 1, [], 3), (27, .if_icmp .ge 22, 3, [25], 0), (30, .aload_n 0, 1, [], 0), (31, .getfield 16, 3, [10, 1], 0), (34, .iload_n 1, 1, [], 0), (35, .new 7, 3, [9, 2, 0, 2, 2, 2, 2, 0, 0], 0), (38, .dup, 1, [], 0), (39, .invokespecial 9, 3, [111, 0], 0), (42, .aastore, 1, [9], 0), (43, .iinc 1 1, 3, [], 0), (46, .goto (-21), 3, [13], 0), (49, .aload_n 0, 1, [], 0), (50, .iconst 3, 1, [], 3), (51, .newarray .boolean, 2, [], 0), (53, .putfield 20, 3, [10, 2, 2, 1], 0), (56, .aload_n 0, 1, [], 0), (57, .new 24, 3, [8, 2, 2, 2, 0, 0, 2, 2, 0, 0, 0, 0, 0], 0), (60, .dup, 1, [], 0), (61, .aload_n 0, 1, [], 0), (62, .getfield 10, 3, [10, 0], 0), (65, .invokespecial 26, 3, [91, 1], 0), (68, .putfield 29, 3, [10, 3, 2, 1], 0), (71, .aload_n 0, 1, [], 0), (72, .new 33, 3, [2, 2, 2, 0, 0, 0, 0, 0, 0, 0, 1], 0), (75, .dup, 1, [], 0), (76, .invokespecial 35, 3, [28, 0], 0), (79, .putfield 36, 3, [10, 4, 2, 1], 0), (82, .aload_n 0, 1, [], 0), (83, .new 40, 3, [1, 2, 2, 0, 0, 0, 0, 0, 2], 0), (86, .dup, 1, [], 0), (87, .aload_n 0, 1, [], 0), (88, .getfield 36, 3, [10, 4], 0), (91, .invokespecial 42, 3, [17, 1], 0), (94, .putfield 45, 3, [10, 5, 2, 1], 0), (97, .aload_n 0, 1, [], 0), (98, .new 49, 3, [5, 2, 0], 0), (101, .dup, 1, [], 0), (102, .aload_n 0, 1, [], 0), (103, .getfield 36, 3, [10, 4], 0), (106, .invokespecial 51, 3, [57, 1], 0), (109, .putfield 52, 3, [10, 6, 2, 1], 0), (112, .aload_n 0, 1, [], 0), (113, .new 56, 3, [0, 2, 2, 0, 0, 0, 0, 0], 0), (116, .dup, 1, [], 0), (117, .aload_n 0, 1, [], 0), (118, .getfield 36, 3, [10, 4], 0), (121, .invokespecial 58, 3, [0, 1], 0), (124, .putfield 59, 3, [10, 7, 2, 1], 0), (127, .aload_n 0, 1, [], 0), (128, .new 63, 3, [3, 0, 0, 2, 2, 2, 2], 0), (131, .dup, 1, [], 0), (132, .invokespecial 65, 3, [41, 0], 0), (135, .putfield 66, 3, [10, 8, 2, 1], 0), (138, .return_, 1, [1, 169, 5102], 0)]
/-- X11_feed -/
def cd_120 : List PEn := [(0, .aload_n 0, 1, [], 0), (1, .getfield 10, 3, [10, 0], 0), (4, .getfield 70, 3, [9, 1], 0), (7, .bipush 20, 2, [], 20), (9, .iadd, 1, [], 0), (10, .sipush 600, 3, [], 600), (13, .if_icmp .le 5, 3, [9], 0), (16, .iconst (-1), 1, [], -1), (17, .ireturn, 1, [0, 0, 0], 0), (18, .aload_n 0, 1, [], 0), (19, .getfield 10, 3, [10, 0], 0), (22, .iload_n 1, 1, [], 0), (23, .invokevirtual 74, 3, [112, 1, 9], 0), (26, .aload_n 0, 1, [], 0), (27, .getfield 10, 3, [10, 0], 0), (30, .iload_n 2, 1, [], 0), (31, .invokevirtual 74, 3, [112, 1, 9], 0), (34, .aload_n 0, 1, [], 0), (35, .getfield 10, 3, [10, 0], 0), (38, .iload_n 3, 1, [], 0), (39, .invokevirtual 74, 3, [112, 1, 9], 0), (42, .aload_n 0, 1, [], 0), (43, .getfield 10, 3, [10, 0], 0), (46, .iload 4, 2, [], 0), (48, .invokevirtual 74, 3, [112, 1, 9], 0), (51, .aload_n 0, 1, [], 0), (52, .getfield 10, 3, [10, 0], 0), (55, .iload 5, 2, [], 0), (57, .invokevirtual 74, 3, [112, 1, 9], 0), (60, .aload_n 0, 1, [], 0), (61, .getfield 10, 3, [10, 0], 0), (64, .getfield 70, 3, [9, 1], 0), (67, .ireturn, 1, [0, 0, 0], 0)]
/-- X11_end -/
def cd_121 : List PEn := [(0, .iload_n 1, 1, [], 0), (1, .ifCond .lt 14, 3, [7], 0), (4, .iload_n 1, 1, [], 0), (5, .aload_n 0, 1, [], 0), (6, .getfield 10, 3, [10, 0], 0), (9, .getfield 70, 3, [9, 1], 0), (12, .if_icmp .le 5, 3, [9], 0), (15, .iconst (-1), 1, [], -1), (16, .ireturn, 1, [0, 0, 0], 0), (17, .aload_n 0, 1, [], 0), (18, .getfield 10, 3, [10, 0], 0), (21, .iload_n 1, 1, [], 0), (22, .putfield 70, 3, [9, 1, 0, 0], 0), (25, .iload_n 1, 1, [], 0), (26, .ireturn, 1, [0, 0, 0], 0)]
/-- X11_text -/
def cd_122 : List PEn := [(0, .aload_n 0, 1, [], 0), (1, .getfield 10, 3, [10, 0], 0), (4, .iconst 0, 1, [], 0), (5, .putfield 78, 3, [9, 6, 0, 0], 0), (8, .aload_n 0, 1, [], 0), (9, .getfield 10, 3, [10, 0], 0), (12, .iconst (-1), 1, [], -1), (13, .putfield 81, 3, [9, 7, 0, 0], 0), (16, .aload_n 0, 1, [], 0), (17, .getfield 10, 3, [10, 0], 0), (20, .iload_n 1, 1, [], 0), (21, .iload_n 2, 1, [], 0), (22, .invokevirtual 84, 3, [116, 2, 9], 0), (25, .istore_n 3, 1, [], 0), (26, .iload_n 3, 1, [], 0), (27, .bipush (-2), 2, [], -2), (29, .if_icmp .ne 14, 3, [23], 0), (32, .aload_n 0, 1, [], 0), (33, .getfield 10, 3, [10, 0], 0), (36, .iconst 0, 1, [], 0), (37, .putfield 70, 3, [9, 1, 0, 0], 0), (40, .bipush (-2), 2, [], -2), (42, .ireturn, 1, [0, 0, 0], 0), (43, .aload_n 0, 1, [], 0), (44, .getfield 29, 3, [10, 3], 0), (47, .iload_n 1, 1, [], 0), (48, .invokevirtual 88, 3, [92, 1, 8], 0), (51, .aload_n 0, 1, [], 0), (52, .getfield 10, 3, [10, 0], 0), (55, .iconst 0, 1, [], 0), (56, .putfield 70, 3, [9, 1, 0, 0], 0), (59, .aload_n 0, 1, [], 0), (60, .getfield 10, 3, [10, 0], 0), (63, .aload_n 0, 1, [], 0), (64, .getfield 29, 3, [10, 3], 0), (67, .getfield 91, 3, [8, 3], 0), (70, .putfield 78, 3, [9, 6, 0, 0], 0), (73, .aload_n 0, 1, [], 0), (74, .getfield 10, 3, [10, 0], 0), (77, .aload_n 0, 1, [], 0), (78, .getfield 29, 3, [10, 3], 0), (81, .getfield 92, 3, [8, 4], 0), (84, .putfield 81, 3, [9, 7, 0, 0], 0), (87, .aload_n 0, 1, [], 0), (88, .getfield 29, 3, [10, 3], 0), (91, .getfield 91, 3, [8, 3], 0), (94, .ifCond .eq 5, 3, [49], 0), (97, .iconst (-1), 1, [], -1), (98, .ireturn, 1, [0, 0, 0], 0), (99, .aload_n 0, 1, [], 0), (100, .iload_n 1, 1, [], 0), (101, .iload_n 3, 1, [], 0), (102, .invokevirtual 93, 3, [123, 2, 10], 0), (105, .iload_n 3, 1, [], 0), (106, .ireturn, 1, [0, 0, 0], 0)]
/-- X11_keepText -/
def cd_123 : List PEn := [(0, .iload_n 2, 1, [], 0), (1, .ifCond .lt 8, 3, [5], 0), (4, .iload_n 2, 1, [], 0), (5, .iconst 2, 1, [], 2), (6, .if_icmp .lt 4, 3, [6], 0), (9, .return_, 1, [1, 0, 0], 0), (10, .iload_n 1, 1, [], 0), (11, .ifCond .ne 25, 3, [18], 0), (14, .aload_n 0, 1, [], 0), (15, .getfield 10, 3, [10, 0], 0), (18, .getfield 97, 3, [9, 2], 0), (21, .iload_n 2, 1, [], 0), (22, .aaload, 1, [7], 0), (23, .aload_n 0, 1, [], 0), (24, .getfield 29, 3, [10, 3], 0), (27, .getfield 101, 3, [8, 0], 0), (30, .invokevirtual 105, 3, [79, 1, 7], 0), (33, .goto 49, 3, [40], 0), (36, .iload_n 1, 1, [], 0), (37, .iconst 1, 1, [], 1), (38, .if_icmp .ne 25, 3, [31], 0), (41, .aload_n 0, 1, [], 0), (42, .getfield 10, 3, [10, 0], 0), (45, .getfield 111, 3, [9, 3], 0), (48, .iload_n 2, 1, [], 0), (49, .aaload, 1, [6], 0), (50, .aload_n 0, 1, [], 0), (51, .getfield 29, 3, [10, 3], 0), (54, .getfield 115, 3, [8, 1], 0), (57, .invokevirtual 118, 3, [76, 1, 6], 0), (60, .goto 22, 3, [40], 0), (63, .aload_n 0, 1, [], 0), (64, .getfield 10, 3, [10, 0], 0), (67, .getfield 123, 3, [9, 4], 0), (70, .iload_n 2, 1, [], 0), (71, .aaload, 1, [6], 0), (72, .aload_n 0, 1, [], 0), (73, .getfield 29, 3, [10, 3], 0), (76, .getfield 126, 3, [8, 2], 0), (79, .invokevirtual 118, 3, [76, 1, 6], 0), (82, .aload_n 0, 1, [], 0), (83, .getfield 10, 3, [10, 0], 0), (86, .iload_n 1, 1, [], 0), (87, .iload_n 2, 1, [], 0), (88, .iconst 1, 1, [], 1), (89, .iadd, 1, [], 0), (90, .invokevirtual 129, 3, [117, 2, 9], 0), (93, .return_, 1, [1, 0, 0], 0)]
/-- X11_fault -/
def cd_124 : List PEn := [(0, .iload_n 1, 1, [], 0), (1, .ifCond .ne 11, 3, [6], 0), (4, .aload_n 0, 1, [], 0), (5, .getfield 10, 3, [10, 0], 0), (8, .getfield 78, 3, [9, 6], 0), (11, .ireturn, 1, [0, 0, 0], 0), (12, .iload_n 1, 1, [], 0), (13, .iconst 1, 1, [], 1), (14, .if_icmp .ne 13, 3, [13], 0), (17, .aload_n 0, 1, [], 0), (18, .getfield 10, 3, [10, 0], 0), (21, .getfield 81, 3, [9, 7], 0), (24, .goto 4, 3, [14], 0), (27, .iconst (-1), 1, [], -1), (28, .ireturn, 1, [0, 0, 0], 0)]
/-- X11_count -/
def cd_125 : List PEn := [(0, .iload_n 1, 1, [], 0), (1, .ifCond .lt 20, 3, [11], 0), (4, .iload_n 1, 1, [], 0), (5, .iconst 3, 1, [], 3), (6, .if_icmp .ge 15, 3, [11], 0), (9, .aload_n 0, 1, [], 0), (10, .getfield 10, 3, [10, 0], 0), (13, .getfield 132, 3, [9, 5], 0), (16, .iload_n 1, 1, [], 0), (17, .iaload, 1, [], 0), (18, .goto 5, 3, [12], 0), (21, .bipush (-2), 2, [], -2), (23, .ireturn, 1, [0, 0, 0], 0)]
/-- X11_image -/
def cd_126 : List PEn := [(0, .iload_n 1, 1, [], 0), (1, .ifCond .lt 8, 3, [5], 0), (4, .iload_n 1, 1, [], 0), (5, .iconst 3, 1, [], 3), (6, .if_icmp .lt 5, 3, [7], 0), (9, .iconst 0, 1, [], 0), (10, .ireturn, 1, [1, 0, 0], 0), (11, .aload_n 0, 1, [], 0), (12, .getfield 16, 3, [10, 1], 0), (15, .iload_n 1, 1, [], 0), (16, .aaload, 1, [9], 0), (17, .aload_n 0, 1, [], 0), (18, .getfield 10, 3, [10, 0], 0), (21, .invokevirtual 136, 3, [118, 1, 9], 0), (24, .aload_n 0, 1, [], 0), (25, .getfield 20, 3, [10, 2], 0), (28, .iload_n 1, 1, [], 0), (29, .iconst 1, 1, [], 1), (30, .bastore, 1, [], 0), (31, .iconst 1, 1, [], 1), (32, .ireturn, 1, [1, 0, 0], 0)]
/-- X11_again -/
def cd_127 : List PEn := [(0, .iload_n 1, 1, [], 0), (1, .ifCond .lt 17, 3, [10], 0), (4, .iload_n 1, 1, [], 0), (5, .iconst 3, 1, [], 3), (6, .if_icmp .ge 12, 3, [10], 0), (9, .aload_n 0, 1, [], 0), (10, .getfield 20, 3, [10, 2], 0), (13, .iload_n 1, 1, [], 0), (14, .baload, 1, [], 0), (15, .ifCond .ne 5, 3, [12], 0), (18, .iconst 0, 1, [], 0), (19, .ireturn, 1, [1, 0, 0], 0), (20, .aload_n 0, 1, [], 0), (21, .getfield 10, 3, [10, 0], 0), (24, .aload_n 0, 1, [], 0), (25, .getfield 16, 3, [10, 1], 0), (28, .iload_n 1, 1, [], 0), (29, .aaload, 1, [9], 0), (30, .invokevirtual 136, 3, [118, 1, 9], 0), (33, .iconst 1, 1, [], 1), (34, .ireturn, 1, [1, 0, 0], 0)]
/-- X11_parish -/
def cd_128 : List PEn := [(0, .aload_n 0, 1, [], 0), (1, .getfield 10, 3, [10, 0], 0), (4, .iconst 0, 1, [], 0), (5, .iload_n 1, 1, [], 0), (6, .invokevirtual 138, 3, [114, 2, 9], 0), (9, .ifCond .ne 5, 3, [8], 0), (12, .iconst (-1), 1, [], -1), (13, .ireturn, 1, [0, 0, 0], 0), (14, .aload_n 0, 1, [], 0), (15, .getfield 10, 3, [10, 0], 0), (18, .getfield 97, 3, [9, 2], 0), (21, .iload_n 1, 1, [], 0), (22, .aaload, 1, [7], 0), (23, .astore_n 3, 1, [], 0), (24, .iload_n 2, 1, [], 0), (25, .bipush 40, 2, [], 40), (27, .if_icmp .lt 9, 3, [21], 0), (30, .aload_n 3, 1, [], 0), (31, .iload_n 2, 1, [], 0), (32, .invokevirtual 142, 3, [85, 1, 7], 0), (35, .ireturn, 1, [0, 0, 0], 0), (36, .aload_n 0, 1, [], 0), (37, .getfield 36, 3, [10, 4], 0), (40, .aload_n 3, 1, [], 0), (41, .invokevirtual 146, 3, [29, 1, 2], 0), (44, .iload_n 2, 1, [], 0), (45, .bipush 10, 2, [], 10), (47, .if_icmp .lt 10, 3, [33], 0), (50, .aload_n 0, 1, [], 0), (51, .aload_n 3, 1, [], 0), (52, .iload_n 2, 1, [], 0), (53, .invokevirtual 149, 3, [129, 2, 10], 0), (56, .ireturn, 1, [0, 0, 0], 0), (57, .iload_n 2, 1, [], 0), (58, .tableswitch 86 0 6 #[42, 47, 52, 57, 62, 67, 75], 42, [59, 35, 38, 41, 44, 47, 50, 54], 0), (100, .aload_n 3, 1, [], 0), (101, .getfield 153, 3, [7, 0], 0), (104, .ireturn, 1, [0, 0, 0], 0), (105, .aload_n 3, 1, [], 0), (106, .getfield 156, 3, [7, 1], 0), (109, .ireturn, 1, [0, 0, 0], 0), (110, .aload_n 3, 1, [], 0), (111, .getfield 159, 3, [7, 2], 0), (114, .ireturn, 1, [0, 0, 0], 0), (115, .aload_n 3, 1, [], 0), (116, .getfield 162, 3, [7, 4], 0), (119, .ireturn, 1, [0, 0, 0], 0), (120, .aload_n 3, 1, [], 0), (121, .getfield 165, 3, [7, 3], 0), (124, .ireturn, 1, [0, 0, 0], 0), (125, .aload_n 0, 1, [], 0), (126, .getfield 36, 3, [10, 4], 0), (129, .getfield 168, 3, [2, 6], 0), (132, .ireturn, 1, [0, 0, 0], 0), (133, .aload_n 0, 1, [], 0), (134, .getfield 36, 3, [10, 4], 0), (137, .getfield 171, 3, [2, 1], 0), (140, .getfield 175, 3, [4, 0], 0), (143, .ireturn, 1, [0, 0, 0], 0), (144, .iconst (-1), 1, [], -1), (145, .ireturn, 1, [0, 0, 0], 0)]
/-- X11_houseDetail -/
def cd_129 : List PEn := [(0, .iload_n 2, 1, [], 0), (1, .bipush 10, 2, [], 10), (3, .irem, 1, [], 0), (4, .istore_n 3, 1, [], 0), (5, .aload_n 1, 1, [], 0), (6, .iload_n 3, 1, [], 0), (7, .invokevirtual 180, 3, [82, 1, 7], 0), (10, .ifCond .ne 5, 3, [10], 0), (13, .iconst (-1), 1, [], -1), (14, .ireturn, 1, [0, 0, 0], 0), (15, .iload_n 2, 1, [], 0), (16, .bipush 10, 2, [], 10), (18, .idiv, 1, [], 0), (19, .tableswitch 51 1 3 #[25, 32, 39], 25, [30, 14, 19, 24], 0), (44, .aload_n 1, 1, [], 0), (45, .getfield 184, 3, [7, 5], 0), (48, .iload_n 3, 1, [], 0), (49, .iaload, 1, [], 0), (50, .ireturn, 1, [0, 0, 0], 0), (51, .aload_n 1, 1, [], 0), (52, .getfield 187, 3, [7, 6], 0), (55, .iload_n 3, 1, [], 0), (56, .iaload, 1, [], 0), (57, .ireturn, 1, [0, 0, 0], 0), (58, .aload_n 0, 1, [], 0), (59, .getfield 36, 3, [10, 4], 0), (62, .getfield 171, 3, [2, 1], 0), (65, .iload_n 3, 1, [], 0), (66, .invokevirtual 190, 3, [54, 1, 4], 0), (69, .ireturn, 1, [0, 0, 0], 0), (70, .iconst (-1), 1, [], -1), (71, .ireturn, 1, [0, 0, 0], 0)]
/-- X11_deed -/
def cd_130 : List PEn := [(0, .aload_n 0, 1, [], 0), (1, .getfield 10, 3, [10, 0], 0), (4, .iconst 1, 1, [], 1), (5, .iload_n 1, 1, [], 0), (6, .invokevirtual 138, 3, [114, 2, 9], 0), (9, .ifCond .eq 20, 3, [15], 0), (12, .aload_n 0, 1, [], 0), (13, .getfield 10, 3, [10, 0], 0), (16, .getfield 111, 3, [9, 3], 0), (19, .iload_n 1, 1, [], 0), (20, .aaload, 1, [6], 0), (21, .iload_n 2, 1, [], 0), (22, .iload_n 3, 1, [], 0), (23, .invokevirtual 193, 3, [75, 2, 6], 0), (26, .goto 5, 3, [16], 0), (29, .bipush (-2), 2, [], -2), (31, .ireturn, 1, [0, 0, 0], 0)]
/-- X11_fact -/
def cd_131 : List PEn := [(0, .aload_n 0, 1, [], 0), (1, .getfield 10, 3, [10, 0], 0), (4, .iconst 2, 1, [], 2), (5, .iload_n 1, 1, [], 0), (6, .invokevirtual 138, 3, [114, 2, 9], 0), (9, .ifCond .eq 20, 3, [15], 0), (12, .aload_n 0, 1, [], 0), (13, .getfield 10, 3, [10, 0], 0), (16, .getfield 123, 3, [9, 4], 0), (19, .iload_n 1, 1, [], 0), (20, .aaload, 1, [6], 0), (21, .iload_n 2, 1, [], 0), (22, .iload_n 3, 1, [], 0), (23, .invokevirtual 193, 3, [75, 2, 6], 0), (26, .goto 5, 3, [16], 0), (29, .bipush (-2), 2, [], -2), (31, .ireturn, 1, [0, 0, 0], 0)]
/-- X11_stop -/
def cd_132 : List PEn := [(0, .aload_n 0, 1, [], 0), (1, .getfield 10, 3, [10, 0], 0), (4, .iconst 0, 1, [], 0), (5, .iload_n 1, 1, [], 0), (6, .invokevirtual 138, 3, [114, 2, 9], 0), (9, .ifCond .eq 15, 3, [12], 0), (12, .aload_n 0, 1, [], 0), (13, .getfield 10, 3, [10, 0], 0), (16, .iconst 1, 1, [], 1), (17, .iload_n 2, 1, [], 0), (18, .invokevirtual 138, 3, [114, 2, 9], 0), (21, .ifCond .ne 5, 3, [14], 0), (24, .iconst (-1), 1, [], -1), (25, .ireturn, 1, [0, 0, 0], 0), (26, .aload_n 0, 1, [], 0), (27, .getfield 10, 3, [10, 0], 0), (30, .getfield 111, 3, [9, 3], 0), (33, .iload_n 2, 1, [], 0), (34, .aaload, 1, [6], 0), (35, .astore_n 3, 1, [], 0), (36, .aload_n 0, 1, [], 0), (37, .getfield 59, 3, [10, 7], 0), (40, .aload_n 0, 1, [], 0), (41, .getfield 10, 3, [10, 0], 0), (44, .getfield 97, 3, [9, 2], 0), (47, .iload_n 1, 1, [], 0), (48, .aaload, 1, [7], 0), (49, .aload_n 3, 1, [], 0), (50, .aload_n 3, 1, [], 0), (51, .getfield 196, 3, [6, 0], 0), (54, .invokevirtual 199, 3, [1, 3, 0], 0), (57, .ireturn, 1, [0, 0, 0], 0)]
/-- X11_state -/
def cd_133 : List PEn := [(0, .aload_n 0, 1, [], 0), (1, .getfield 10, 3, [10, 0], 0), (4, .iconst 0, 1, [], 0), (5, .iload_n 1, 1, [], 0), (6, .invokevirtual 138, 3, [114, 2, 9], 0), (9, .ifCond .eq 15, 3, [12], 0), (12, .aload_n 0, 1, [], 0), (13, .getfield 10, 3, [10, 0], 0), (16, .iconst 1, 1, [], 1), (17, .iload_n 2, 1, [], 0), (18, .invokevirtual 138, 3, [114, 2, 9], 0), (21, .ifCond .ne 6, 3, [14], 0), (24, .bipush (-2), 2, [], -2), (26, .ireturn, 1, [0, 0, 0], 0), (27, .aload_n 0, 1, [], 0), (28, .getfield 10, 3, [10, 0], 0), (31, .getfield 111, 3, [9, 3], 0), (34, .iload_n 2, 1, [], 0), (35, .aaload, 1, [6], 0), (36, .astore 5, 2, [], 0), (38, .iload_n 3, 1, [], 0), (39, .ifCond .lt 35, 3, [38], 0), (42, .iload_n 3, 1, [], 0), (43, .aload 5, 2, [], 0), (45, .getfield 196, 3, [6, 0], 0), (48, .if_icmp .gt 26, 3, [38], 0), (51, .aload_n 0, 1, [], 0), (52, .getfield 59, 3, [10, 7], 0), (55, .aload_n 0, 1, [], 0), (56, .getfield 10, 3, [10, 0], 0), (59, .getfield 97, 3, [9, 2], 0), (62, .iload_n 1, 1, [], 0), (63, .aaload, 1, [7], 0), (64, .aload 5, 2, [], 0), (66, .iload_n 3, 1, [], 0), (67, .invokevirtual 199, 3, [1, 3, 0], 0), (70, .iload_n 3, 1, [], 0), (71, .if_icmp .ge 6, 3, [40], 0), (74, .bipush (-2), 2, [], -2), (76, .ireturn, 1, [0, 0, 0], 0), (77, .aload_n 0, 1, [], 0), (78, .getfield 36, 3, [10, 4], 0), (81, .iload 4, 2, [], 0), (83, .invokevirtual 203, 3, [40, 1, 2], 0), (86, .ireturn, 1, [0, 0, 0], 0)]
/-- X11_after -/
def cd_134 : List PEn := [(0, .aload_n 0, 1, [], 0), (1, .getfield 10, 3, [10, 0], 0), (4, .iconst 0, 1, [], 0), (5, .iload_n 1, 1, [], 0), (6, .invokevirtual 138, 3, [114, 2, 9], 0), (9, .ifCond .eq 15, 3, [12], 0), (12, .aload_n 0, 1, [], 0), (13, .getfield 10, 3, [10, 0], 0), (16, .iconst 1, 1, [], 1), (17, .iload_n 2, 1, [], 0), (18, .invokevirtual 138, 3, [114, 2, 9], 0), (21, .ifCond .ne 6, 3, [14], 0), (24, .bipush (-2), 2, [], -2), (26, .ireturn, 1, [0, 0, 0], 0), (27, .aload_n 0, 1, [], 0), (28, .getfield 10, 3, [10, 0], 0), (31, .getfield 111, 3, [9, 3], 0), (34, .iload_n 2, 1, [], 0), (35, .aaload, 1, [6], 0), (36, .astore 4, 2, [], 0), (38, .aload_n 0, 1, [], 0), (39, .getfield 59, 3, [10, 7], 0), (42, .aload_n 0, 1, [], 0), (43, .getfield 10, 3, [10, 0], 0), (46, .getfield 97, 3, [9, 2], 0), (49, .iload_n 1, 1, [], 0), (50, .aaload, 1, [7], 0), (51, .aload 4, 2, [], 0), (53, .aload 4, 2, [], 0), (55, .getfield 196, 3, [6, 0], 0), (58, .invokevirtual 199, 3, [1, 3, 0], 0), (61, .pop, 1, [], 0), (62, .iload_n 3, 1, [], 0), (63, .tableswitch 73 0 4 #[33, 41, 49, 57, 65], 33, [54, 34, 38, 42, 46, 50], 0), (96, .aload_n 0, 1, [], 0), (97, .getfield 59, 3, [10, 7], 0), (100, .getfield 205, 3, [0, 2], 0), (103, .ireturn, 1, [0, 0, 0], 0), (104, .aload_n 0, 1, [], 0), (105, .getfield 59, 3, [10, 7], 0), (108, .getfield 208, 3, [0, 3], 0), (111, .ireturn, 1, [0, 0, 0], 0), (112, .aload_n 0, 1, [], 0), (113, .getfield 59, 3, [10, 7], 0), (116, .getfield 211, 3, [0, 4], 0), (119, .ireturn, 1, [0, 0, 0], 0), (120, .aload_n 0, 1, [], 0), (121, .getfield 59, 3, [10, 7], 0), (124, .getfield 214, 3, [0, 5], 0), (127, .ireturn, 1, [0, 0, 0], 0), (128, .aload_n 0, 1, [], 0), (129, .getfield 59, 3, [10, 7], 0), (132, .invokevirtual 217, 3, [3, 0, 0], 0), (135, .ireturn, 1, [0, 0, 0], 0), (136, .bipush (-2), 2, [], -2), (138, .ireturn, 1, [0, 0, 0], 0)]
/-- X11_drawn -/
def cd_135 : List PEn := [(0, .aload_n 0, 1, [], 0), (1, .getfield 10, 3, [10, 0], 0), (4, .iconst 0, 1, [], 0), (5, .iload_n 1, 1, [], 0), (6, .invokevirtual 138, 3, [114, 2, 9], 0), (9, .ifCond .eq 13, 3, [11], 0), (12, .iload_n 3, 1, [], 0), (13, .ifCond .lt 9, 3, [11], 0), (16, .iload_n 3, 1, [], 0), (17, .bipush 60, 2, [], 60), (19, .if_icmp .le 6, 3, [13], 0), (22, .bipush (-2), 2, [], -2), (24, .ireturn, 1, [0, 0, 0], 0), (25, .aload_n 0, 1, [], 0), (26, .getfield 52, 3, [10, 6], 0), (29, .aload_n 0, 1, [], 0), (30, .getfield 10, 3, [10, 0], 0), (33, .getfield 97, 3, [9, 2], 0), (36, .iload_n 1, 1, [], 0), (37, .aaload, 1, [7], 0), (38, .iload_n 2, 1, [], 0), (39, .invokevirtual 221, 3, [69, 2, 5], 0), (42, .iconst 0, 1, [], 0), (43, .istore 5, 2, [], 0), (45, .iload 5, 2, [], 0), (47, .iload_n 3, 1, [], 0), (48, .if_icmp .ge 16, 3, [32], 0), (51, .aload_n 0, 1, [], 0), (52, .getfield 52, 3, [10, 6], 0), (55, .invokevirtual 225, 3, [70, 0, 5], 0), (58, .iinc 5 1, 3, [], 0), (61, .goto (-16), 3, [24], 0), (64, .aload_n 0, 1, [], 0), (65, .getfield 36, 3, [10, 4], 0), (68, .iload 4, 2, [], 0), (70, .invokevirtual 203, 3, [40, 1, 2], 0), (73, .ireturn, 1, [0, 0, 0], 0)]
/-- X11_rush -/
def cd_136 : List PEn := [(0, .aload_n 0, 1, [], 0), (1, .getfield 10, 3, [10, 0], 0), (4, .iconst 0, 1, [], 0), (5, .iload_n 1, 1, [], 0), (6, .invokevirtual 138, 3, [114, 2, 9], 0), (9, .ifCond .eq 14, 3, [12], 0), (12, .iload_n 2, 1, [], 0), (13, .iconst 1, 1, [], 1), (14, .if_icmp .lt 9, 3, [12], 0), (17, .iload_n 2, 1, [], 0), (18, .bipush 9, 2, [], 9), (20, .if_icmp .le 5, 3, [14], 0), (23, .iconst (-1), 1, [], -1), (24, .ireturn, 1, [0, 0, 0], 0), (25, .aload_n 0, 1, [], 0), (26, .getfield 10, 3, [10, 0], 0), (29, .getfield 97, 3, [9, 2], 0), (32, .iload_n 1, 1, [], 0), (33, .aaload, 1, [7], 0), (34, .astore 4, 2, [], 0), (36, .aload_n 0, 1, [], 0), (37, .getfield 45, 3, [10, 5], 0), (40, .aload 4, 2, [], 0), (42, .aload 4, 2, [], 0), (44, .getfield 156, 3, [7, 1], 0), (47, .iload_n 2, 1, [], 0), (48, .invokevirtual 228, 3, [18, 3, 1], 0), (51, .iload_n 3, 1, [], 0), (52, .tableswitch 55 0 2 #[28, 39, 47], 28, [42, 29, 34, 38], 0), (80, .aload_n 0, 1, [], 0), (81, .getfield 36, 3, [10, 4], 0), (84, .getfield 232, 3, [2, 0], 0), (87, .getfield 165, 3, [7, 3], 0), (90, .ireturn, 1, [0, 0, 0], 0), (91, .aload_n 0, 1, [], 0), (92, .getfield 45, 3, [10, 5], 0), (95, .getfield 235, 3, [1, 2], 0), (98, .ireturn, 1, [0, 0, 0], 0), (99, .aload_n 0, 1, [], 0), (100, .getfield 45, 3, [10, 5], 0), (103, .getfield 238, 3, [1, 3], 0), (106, .ireturn, 1, [0, 0, 0], 0), (107, .iload_n 3, 1, [], 0), (108, .bipush 20, 2, [], 20), (110, .if_icmp .lt 34, 3, [61], 0), (113, .aload 4, 2, [], 0), (115, .iload_n 3, 1, [], 0), (116, .bipush 20, 2, [], 20), (118, .isub, 1, [], 0), (119, .invokevirtual 180, 3, [82, 1, 7], 0), (122, .ifCond .eq 20, 3, [59], 0), (125, .aload_n 0, 1, [], 0), (126, .getfield 36, 3, [10, 4], 0), (129, .getfield 171, 3, [2, 1], 0), (132, .iload_n 3, 1, [], 0), (133, .bipush 20, 2, [], 20), (135, .isub, 1, [], 0), (136, .invokevirtual 190, 3, [54, 1, 4], 0), (139, .goto 4, 3, [60], 0), (142, .iconst (-1), 1, [], -1), (143, .ireturn, 1, [0, 0, 0], 0), (144, .iload_n 3, 1, [], 0), (145, .bipush 10, 2, [], 10), (147, .if_icmp .lt 17, 3, [71], 0), (150, .aload_n 0, 1, [], 0), (151, .getfield 45, 3, [10, 5], 0), (154, .iload_n 3, 1, [], 0), (155, .bipush 10, 2, [], 10), (157, .isub, 1, [], 0), (158, .invokevirtual 241, 3, [21, 1, 1], 0), (161, .goto 4, 3, [72], 0), (164, .iconst (-1), 1, [], -1), (165, .ireturn, 1, [0, 0, 0], 0)]
/-- X11_sale -/
def cd_137 : List PEn := [(0, .aload_n 0, 1, [], 0), (1, .getfield 10, 3, [10, 0], 0), (4, .iconst 0, 1, [], 0), (5, .iload_n 1, 1, [], 0), (6, .invokevirtual 138, 3, [114, 2, 9], 0), (9, .ifCond .eq 23, 3, [17], 0), (12, .iload_n 2, 1, [], 0), (13, .iconst 1, 1, [], 1), (14, .if_icmp .lt 18, 3, [17], 0), (17, .iload_n 2, 1, [], 0), (18, .bipush 9, 2, [], 9), (20, .if_icmp .gt 12, 3, [17], 0), (23, .iload_n 3, 1, [], 0), (24, .ifCond .lt 8, 3, [17], 0), (27, .iload_n 3, 1, [], 0), (28, .iconst 2, 1, [], 2), (29, .if_icmp .le 5, 3, [19], 0), (32, .iconst (-1), 1, [], -1), (33, .ireturn, 1, [0, 0, 0], 0), (34, .aload_n 0, 1, [], 0), (35, .getfield 45, 3, [10, 5], 0), (38, .aload_n 0, 1, [], 0), (39, .getfield 10, 3, [10, 0], 0), (42, .getfield 97, 3, [9, 2], 0), (45, .iload_n 1, 1, [], 0), (46, .aaload, 1, [7], 0), (47, .iload_n 2, 1, [], 0), (48, .invokevirtual 244, 3, [22, 2, 1], 0), (51, .iload_n 3, 1, [], 0), (52, .ifCond .ne 11, 3, [34], 0), (55, .aload_n 0, 1, [], 0), (56, .getfield 45, 3, [10, 5], 0), (59, .getfield 247, 3, [1, 4], 0), (62, .ireturn, 1, [0, 0, 0], 0), (63, .iload_n 3, 1, [], 0), (64, .iconst 1, 1, [], 1), (65, .if_icmp .ne 13, 3, [41], 0), (68, .aload_n 0, 1, [], 0), (69, .getfield 45, 3, [10, 5], 0), (72, .getfield 250, 3, [1, 5], 0), (75, .goto 10, 3, [44], 0), (78, .aload_n 0, 1, [], 0), (79, .getfield 45, 3, [10, 5], 0), (82, .getfield 253, 3, [1, 6], 0), (85, .ireturn, 1, [0, 0, 0], 0)]
/-- X11_strife -/
def cd_138 : List PEn := [(0, .aload_n 0, 1, [], 0), (1, .getfield 10, 3, [10, 0], 0), (4, .iconst 0, 1, [], 0), (5, .iload_n 1, 1, [], 0), (6, .invokevirtual 138, 3, [114, 2, 9], 0), (9, .ifCond .eq 20, 3, [14], 0), (12, .iload 4, 2, [], 0), (14, .ifCond .lt 15, 3, [14], 0), (17, .iload 4, 2, [], 0), (19, .bipush 6, 2, [], 6), (21, .if_icmp .gt 8, 3, [14], 0), (24, .iload_n 2, 1, [], 0), (25, .iload_n 3, 1, [], 0), (26, .if_icmp .ne 7, 3, [16], 0), (29, .sipush (-999), 3, [], -999), (32, .ireturn, 1, [0, 0, 0], 0), (33, .aload_n 0, 1, [], 0), (34, .getfield 10, 3, [10, 0], 0), (37, .getfield 97, 3, [9, 2], 0), (40, .iload_n 1, 1, [], 0), (41, .aaload, 1, [7], 0), (42, .astore 6, 2, [], 0), (44, .aload 6, 2, [], 0), (46, .iload_n 2, 1, [], 0), (47, .invokevirtual 180, 3, [82, 1, 7], 0), (50, .ifCond .eq 12, 3, [30], 0), (53, .aload 6, 2, [], 0), (55, .iload_n 3, 1, [], 0), (56, .invokevirtual 180, 3, [82, 1, 7], 0), (59, .ifCond .ne 7, 3, [32], 0), (62, .sipush (-999), 3, [], -999), (65, .ireturn, 1, [0, 0, 0], 0), (66, .iload 5, 2, [], 0), (68, .ifCond .ne 17, 3, [42], 0), (71, .aload_n 0, 1, [], 0), (72, .getfield 45, 3, [10, 5], 0), (75, .aload 6, 2, [], 0), (77, .iload_n 2, 1, [], 0), (78, .iload_n 3, 1, [], 0), (79, .iload 4, 2, [], 0), (81, .invokevirtual 256, 3, [23, 4, 1], 0), (84, .ireturn, 1, [0, 0, 0], 0), (85, .iload 4, 2, [], 0), (87, .ifCond .ne 7, 3, [46], 0), (90, .iconst (-1), 1, [], -1), (91, .goto 16, 3, [53], 0), (94, .aload_n 0, 1, [], 0), (95, .getfield 45, 3, [10, 5], 0), (98, .aload 6, 2, [], 0), (100, .iload_n 2, 1, [], 0), (101, .iload_n 3, 1, [], 0), (102, .iload 4, 2, [], 0), (104, .invokevirtual 260, 3, [24, 4, 1], 0), (107, .ireturn, 1, [0, 0, 0], 0)]
/-- X11_seeds -/
def cd_139 : List PEn := [(0, .aload_n 0, 1, [], 0), (1, .getfield 10, 3, [10, 0], 0), (4, .iconst 0, 1, [], 0), (5, .iload_n 1, 1, [], 0), (6, .invokevirtual 138, 3, [114, 2, 9], 0), (9, .ifCond .ne 5, 3, [8], 0), (12, .iconst (-1), 1, [], -1), (13, .ireturn, 1, [0, 0, 0], 0), (14, .aload_n 0, 1, [], 0), (15, .getfield 10, 3, [10, 0], 0), (18, .getfield 97, 3, [9, 2], 0), (21, .iload_n 1, 1, [], 0), (22, .aaload, 1, [7], 0), (23, .invokestatic 263, 3, [4, 1], 0), (26, .istore_n 3, 1, [], 0), (27, .iload_n 2, 1, [], 0), (28, .ifCond .eq 7, 3, [19], 0), (31, .iload_n 3, 1, [], 0), (32, .goto 7, 3, [21], 0), (35, .iload_n 3, 1, [], 0), (36, .invokestatic 269, 3, [283, 1], 0), (39, .ireturn, 1, [0, 0, 0], 0)]
/-- X11_cuts -/
def cd_140 : List PEn := [(0, .aload_n 0, 1, [], 0), (1, .getfield 10, 3, [10, 0], 0), (4, .iload_n 1, 1, [], 0), (5, .iload_n 2, 1, [], 0), (6, .invokevirtual 274, 3, [115, 2, 9], 0), (9, .ifCond .ne 5, 3, [8], 0), (12, .iconst (-1), 1, [], -1), (13, .ireturn, 1, [0, 0, 0], 0), (14, .aload_n 0, 1, [], 0), (15, .getfield 10, 3, [10, 0], 0), (18, .getfield 97, 3, [9, 2], 0), (21, .iload_n 1, 1, [], 0), (22, .aaload, 1, [7], 0), (23, .astore 4, 2, [], 0), (25, .iconst 1, 1, [], 1), (26, .iload_n 2, 1, [], 0), (27, .ishl, 1, [], 0), (28, .istore 5, 2, [], 0), (30, .aload 4, 2, [], 0), (32, .getfield 165, 3, [7, 3], 0), (35, .iload 5, 2, [], 0), (37, .iand, 1, [], 0), (38, .ifCond .ne 20, 3, [31], 0), (41, .aload 4, 2, [], 0), (43, .aload 4, 2, [], 0), (45, .getfield 165, 3, [7, 3], 0), (48, .iconst 0, 1, [], 0), (49, .invokevirtual 276, 3, [86, 2, 7], 0), (52, .iload 5, 2, [], 0), (54, .iand, 1, [], 0), (55, .ifCond .ne 5, 3, [33], 0), (58, .iconst (-1), 1, [], -1), (59, .ireturn, 1, [0, 0, 0], 0), (60, .aload 4, 2, [], 0), (62, .iload 5, 2, [], 0), (64, .invokestatic 279, 3, [5, 2], 0), (67, .istore 6, 2, [], 0), (69, .iload_n 3, 1, [], 0), (70, .ifCond .eq 8, 3, [41], 0), (73, .iload 6, 2, [], 0), (75, .goto 8, 3, [43], 0), (78, .iload 6, 2, [], 0), (80, .invokestatic 269, 3, [283, 1], 0), (83, .ireturn, 1, [0, 0, 0], 0)]
/-- X11_lot -/
def cd_141 : List PEn := [(0, .aload_n 0, 1, [], 0), (1, .getfield 10, 3, [10, 0], 0), (4, .iload_n 1, 1, [], 0), (5, .iload_n 3, 1, [], 0), (6, .invokevirtual 274, 3, [115, 2, 9], 0), (9, .ifCond .ne 5, 3, [8], 0), (12, .iconst (-1), 1, [], -1), (13, .ireturn, 1, [0, 0, 0], 0), (14, .aload_n 0, 1, [], 0), (15, .getfield 10, 3, [10, 0], 0), (18, .getfield 97, 3, [9, 2], 0), (21, .iload_n 1, 1, [], 0), (22, .aaload, 1, [7], 0), (23, .astore 5, 2, [], 0), (25, .iload_n 2, 1, [], 0), (26, .ifCond .lt 12, 3, [20], 0), (29, .iload_n 2, 1, [], 0), (30, .aload 5, 2, [], 0), (32, .getfield 159, 3, [7, 2], 0), (35, .if_icmp .le 5, 3, [22], 0), (38, .iconst (-1), 1, [], -1), (39, .ireturn, 1, [0, 0, 0], 0), (40, .aload 5, 2, [], 0), (42, .iload_n 2, 1, [], 0), (43, .iconst 1, 1, [], 1), (44, .iload_n 3, 1, [], 0), (45, .ishl, 1, [], 0), (46, .invokestatic 282, 3, [6, 3], 0), (49, .aload 5, 2, [], 0), (51, .iload_n 2, 1, [], 0), (52, .invokestatic 286, 3, [7, 2], 0), (55, .iload 4, 2, [], 0), (57, .invokestatic 289, 3, [158, 3], 0), (60, .ireturn, 1, [0, 0, 0], 0)]
/-- X11_spared -/
def cd_142 : List PEn := [(0, .aload_n 0, 1, [], 0), (1, .getfield 10, 3, [10, 0], 0), (4, .iconst 0, 1, [], 0), (5, .iload_n 1, 1, [], 0), (6, .invokevirtual 138, 3, [114, 2, 9], 0), (9, .ifCond .ne 5, 3, [8], 0), (12, .iconst (-1), 1, [], -1), (13, .ireturn, 1, [0, 0, 0], 0), (14, .aload_n 0, 1, [], 0), (15, .getfield 10, 3, [10, 0], 0), (18, .getfield 97, 3, [9, 2], 0), (21, .iload_n 1, 1, [], 0), (22, .aaload, 1, [7], 0), (23, .astore 4, 2, [], 0), (25, .iload_n 2, 1, [], 0), (26, .ifCond .lt 12, 3, [20], 0), (29, .iload_n 2, 1, [], 0), (30, .aload 4, 2, [], 0), (32, .getfield 159, 3, [7, 2], 0), (35, .if_icmp .le 5, 3, [22], 0), (38, .iconst (-1), 1, [], -1), (39, .ireturn, 1, [0, 0, 0], 0), (40, .aload 4, 2, [], 0), (42, .iload_n 2, 1, [], 0), (43, .aload 4, 2, [], 0), (45, .invokevirtual 293, 3, [84, 0, 7], 0), (48, .invokestatic 282, 3, [6, 3], 0), (51, .aload 4, 2, [], 0), (53, .iload_n 2, 1, [], 0), (54, .invokestatic 286, 3, [7, 2], 0), (57, .iload_n 3, 1, [], 0), (58, .invokestatic 289, 3, [158, 3], 0), (61, .ireturn, 1, [0, 0, 0], 0)]
/-- X11_retinue -/
def cd_143 : List PEn := [(0, .aload_n 0, 1, [], 0), (1, .getfield 10, 3, [10, 0], 0), (4, .iload_n 1, 1, [], 0), (5, .iload_n 2, 1, [], 0), (6, .invokevirtual 274, 3, [115, 2, 9], 0), (9, .ifCond .ne 5, 3, [8], 0), (12, .iconst (-1), 1, [], -1), (13, .ireturn, 1, [0, 0, 0], 0), (14, .aload_n 0, 1, [], 0), (15, .getfield 10, 3, [10, 0], 0), (18, .getfield 97, 3, [9, 2], 0), (21, .iload_n 1, 1, [], 0), (22, .aaload, 1, [7], 0), (23, .iconst 1, 1, [], 1), (24, .iload_n 2, 1, [], 0), (25, .ishl, 1, [], 0), (26, .iconst 0, 1, [], 0), (27, .invokevirtual 276, 3, [86, 2, 7], 0), (30, .ireturn, 1, [0, 0, 0], 0)]
/-- X11_chief -/
def cd_144 : List PEn := [(0, .aload_n 0, 1, [], 0), (1, .getfield 10, 3, [10, 0], 0), (4, .iconst 0, 1, [], 0), (5, .iload_n 1, 1, [], 0), (6, .invokevirtual 138, 3, [114, 2, 9], 0), (9, .ifCond .ne 6, 3, [8], 0), (12, .bipush (-2), 2, [], -2), (14, .ireturn, 1, [0, 0, 0], 0), (15, .aload_n 0, 1, [], 0), (16, .getfield 10, 3, [10, 0], 0), (19, .getfield 97, 3, [9, 2], 0), (22, .iload_n 1, 1, [], 0), (23, .aaload, 1, [7], 0), (24, .astore_n 3, 1, [], 0), (25, .iload_n 2, 1, [], 0), (26, .tableswitch 81 0 6 #[42, 47, 56, 61, 66, 71, 76], 42, [39, 16, 19, 24, 27, 30, 33, 36], 0), (68, .aload_n 3, 1, [], 0), (69, .invokestatic 296, 3, [9, 1], 0), (72, .ireturn, 1, [0, 0, 0], 0), (73, .aload_n 3, 1, [], 0), (74, .aload_n 3, 1, [], 0), (75, .invokestatic 296, 3, [9, 1], 0), (78, .invokestatic 299, 3, [8, 2], 0), (81, .ireturn, 1, [0, 0, 0], 0), (82, .aload_n 3, 1, [], 0), (83, .invokestatic 302, 3, [10, 1], 0), (86, .ireturn, 1, [0, 0, 0], 0), (87, .aload_n 3, 1, [], 0), (88, .invokestatic 305, 3, [11, 1], 0), (91, .ireturn, 1, [0, 0, 0], 0), (92, .aload_n 3, 1, [], 0), (93, .invokestatic 308, 3, [12, 1], 0), (96, .ireturn, 1, [0, 0, 0], 0), (97, .aload_n 3, 1, [], 0), (98, .invokestatic 311, 3, [14, 1], 0), (101, .ireturn, 1, [0, 0, 0], 0), (102, .aload_n 3, 1, [], 0), (103, .invokestatic 314, 3, [16, 1], 0), (106, .ireturn, 1, [0, 0, 0], 0), (107, .bipush (-2), 2, [], -2), (109, .ireturn, 1, [0, 0, 0], 0)]
/-- X11_rank -/
def cd_145 : List PEn := [(0, .aload_n 0, 1, [], 0), (1, .getfield 10, 3, [10, 0], 0), (4, .iload_n 1, 1, [], 0), (5, .iload_n 2, 1, [], 0), (6, .invokevirtual 274, 3, [115, 2, 9], 0), (9, .ifCond .ne 5, 3, [8], 0), (12, .iconst (-1), 1, [], -1), (13, .ireturn, 1, [0, 0, 0], 0), (14, .aload_n 0, 1, [], 0), (15, .getfield 10, 3, [10, 0], 0), (18, .getfield 97, 3, [9, 2], 0), (21, .iload_n 1, 1, [], 0), (22, .aaload, 1, [7], 0), (23, .iconst 1, 1, [], 1), (24, .iload_n 2, 1, [], 0), (25, .ishl, 1, [], 0), (26, .invokestatic 317, 3, [15, 2], 0), (29, .ireturn, 1, [0, 0, 0], 0)]
/-- X11_burden -/
def cd_146 : List PEn := [(0, .aload_n 0, 1, [], 0), (1, .getfield 10, 3, [10, 0], 0), (4, .iconst 0, 1, [], 0), (5, .iload_n 1, 1, [], 0), (6, .invokevirtual 138, 3, [114, 2, 9], 0), (9, .ifCond .ne 5, 3, [8], 0), (12, .iconst (-1), 1, [], -1), (13, .ireturn, 1, [0, 0, 0], 0), (14, .aload_n 0, 1, [], 0), (15, .getfield 10, 3, [10, 0], 0), (18, .getfield 97, 3, [9, 2], 0), (21, .iload_n 1, 1, [], 0), (22, .aaload, 1, [7], 0), (23, .astore_n 3, 1, [], 0), (24, .aload_n 0, 1, [], 0), (25, .getfield 52, 3, [10, 6], 0), (28, .aload_n 3, 1, [], 0), (29, .invokevirtual 320, 3, [65, 1, 5], 0), (32, .istore 4, 2, [], 0), (34, .aload_n 3, 1, [], 0), (35, .iload 4, 2, [], 0), (37, .invokevirtual 180, 3, [82, 1, 7], 0), (40, .ifCond .eq 12, 3, [28], 0), (43, .iload_n 2, 1, [], 0), (44, .ifCond .lt 8, 3, [28], 0), (47, .iload_n 2, 1, [], 0), (48, .iconst 2, 1, [], 2), (49, .if_icmp .le 5, 3, [30], 0), (52, .iconst (-1), 1, [], -1), (53, .ireturn, 1, [0, 0, 0], 0), (54, .iload_n 2, 1, [], 0), (55, .ifCond .ne 6, 3, [34], 0), (58, .iload 4, 2, [], 0), (60, .ireturn, 1, [0, 0, 0], 0), (61, .aload_n 0, 1, [], 0), (62, .getfield 36, 3, [10, 4], 0), (65, .getfield 171, 3, [2, 1], 0), (68, .iload 4, 2, [], 0), (70, .invokevirtual 190, 3, [54, 1, 4], 0), (73, .aload_n 3, 1, [], 0), (74, .getfield 184, 3, [7, 5], 0), (77, .iload 4, 2, [], 0), (79, .iaload, 1, [], 0), (80, .iload_n 2, 1, [], 0), (81, .iconst 2, 1, [], 2), (82, .if_icmp .ne 7, 3, [48], 0), (85, .iconst 1, 1, [], 1), (86, .goto 4, 3, [49], 0), (89, .iconst 0, 1, [], 0), (90, .invokestatic 289, 3, [158, 3], 0), (93, .ireturn, 1, [0, 0, 0], 0)]
/-- X11_falls -/
def cd_147 : List PEn := [(0, .aload_n 0, 1, [], 0), (1, .getfield 10, 3, [10, 0], 0), (4, .iload_n 1, 1, [], 0), (5, .iload_n 2, 1, [], 0), (6, .invokevirtual 274, 3, [115, 2, 9], 0), (9, .ifCond .ne 5, 3, [8], 0), (12, .iconst (-1), 1, [], -1), (13, .ireturn, 1, [0, 0, 0], 0), (14, .aload_n 0, 1, [], 0), (15, .getfield 52, 3, [10, 6], 0), (18, .aload_n 0, 1, [], 0), (19, .getfield 10, 3, [10, 0], 0), (22, .getfield 97, 3, [9, 2], 0), (25, .iload_n 1, 1, [], 0), (26, .aaload, 1, [7], 0), (27, .iload_n 2, 1, [], 0), (28, .iload_n 3, 1, [], 0), (29, .invokevirtual 323, 3, [66, 3, 5], 0), (32, .ireturn, 1, [0, 0, 0], 0)]
/-- X11_harm -/
def cd_148 : List PEn := [(0, .iload_n 2, 1, [], 0), (1, .iload_n 3, 1, [], 0), (2, .if_icmp .eq 27, 3, [15], 0), (5, .aload_n 0, 1, [], 0), (6, .getfield 10, 3, [10, 0], 0), (9, .iload_n 1, 1, [], 0), (10, .iload_n 2, 1, [], 0), (11, .invokevirtual 274, 3, [115, 2, 9], 0), (14, .ifCond .eq 15, 3, [15], 0), (17, .aload_n 0, 1, [], 0), (18, .getfield 10, 3, [10, 0], 0), (21, .iload_n 1, 1, [], 0), (22, .iload_n 3, 1, [], 0), (23, .invokevirtual 274, 3, [115, 2, 9], 0), (26, .ifCond .ne 7, 3, [17], 0), (29, .sipush (-999), 3, [], -999), (32, .ireturn, 1, [0, 0, 0], 0), (33, .aload_n 0, 1, [], 0), (34, .getfield 52, 3, [10, 6], 0), (37, .aload_n 0, 1, [], 0), (38, .getfield 10, 3, [10, 0], 0), (41, .getfield 97, 3, [9, 2], 0), (44, .iload_n 1, 1, [], 0), (45, .aaload, 1, [7], 0), (46, .iload_n 2, 1, [], 0), (47, .iload_n 3, 1, [], 0), (48, .invokevirtual 326, 3, [67, 3, 5], 0), (51, .ireturn, 1, [0, 0, 0], 0)]
/-- X11_foe -/
def cd_149 : List PEn := [(0, .aload_n 0, 1, [], 0), (1, .getfield 10, 3, [10, 0], 0), (4, .iload_n 1, 1, [], 0), (5, .iload_n 2, 1, [], 0), (6, .invokevirtual 274, 3, [115, 2, 9], 0), (9, .ifCond .eq 12, 3, [11], 0), (12, .iload_n 3, 1, [], 0), (13, .ifCond .lt 8, 3, [11], 0), (16, .iload_n 3, 1, [], 0), (17, .iconst 3, 1, [], 3), (18, .if_icmp .le 6, 3, [13], 0), (21, .bipush (-2), 2, [], -2), (23, .ireturn, 1, [0, 0, 0], 0), (24, .aload_n 0, 1, [], 0), (25, .getfield 10, 3, [10, 0], 0), (28, .getfield 97, 3, [9, 2], 0), (31, .iload_n 1, 1, [], 0), (32, .aaload, 1, [7], 0), (33, .astore 4, 2, [], 0), (35, .iload_n 3, 1, [], 0), (36, .iconst 2, 1, [], 2), (37, .if_icmp .lt 7, 3, [24], 0), (40, .iconst 1, 1, [], 1), (41, .goto 4, 3, [25], 0), (44, .iconst 0, 1, [], 0), (45, .istore 5, 2, [], 0), (47, .aload_n 0, 1, [], 0), (48, .getfield 52, 3, [10, 6], 0), (51, .aload 4, 2, [], 0), (53, .iload_n 2, 1, [], 0), (54, .iload 5, 2, [], 0), (56, .invokevirtual 329, 3, [68, 3, 5], 0), (59, .istore 6, 2, [], 0), (61, .iload_n 3, 1, [], 0), (62, .ifCond .eq 8, 3, [38], 0), (65, .iload_n 3, 1, [], 0), (66, .iconst 2, 1, [], 2), (67, .if_icmp .ne 6, 3, [40], 0), (70, .iload 6, 2, [], 0), (72, .ireturn, 1, [0, 0, 0], 0), (73, .aload 4, 2, [], 0), (75, .iload 6, 2, [], 0), (77, .invokevirtual 180, 3, [82, 1, 7], 0), (80, .ifCond .eq 21, 3, [52], 0), (83, .aload_n 0, 1, [], 0), (84, .getfield 52, 3, [10, 6], 0), (87, .aload 4, 2, [], 0), (89, .iload 6, 2, [], 0), (91, .iload_n 2, 1, [], 0), (92, .invokevirtual 326, 3, [67, 3, 5], 0), (95, .invokestatic 333, 3, [906], 0), (98, .goto 4, 3, [53], 0), (101, .iconst 0, 1, [], 0), (102, .ireturn, 1, [0, 0, 0], 0)]
/-- X11_ruin -/
def cd_150 : List PEn := [(0, .aload_n 0, 1, [], 0), (1, .getfield 10, 3, [10, 0], 0), (4, .iconst 0, 1, [], 0), (5, .iload_n 1, 1, [], 0), (6, .invokevirtual 138, 3, [114, 2, 9], 0), (9, .ifCond .ne 5, 3, [8], 0), (12, .iconst (-1), 1, [], -1), (13, .ireturn, 1, [0, 0, 0], 0), (14, .aload_n 0, 1, [], 0), (15, .getfield 10, 3, [10, 0], 0), (18, .getfield 97, 3, [9, 2], 0), (21, .iload_n 1, 1, [], 0), (22, .aaload, 1, [7], 0), (23, .astore_n 3, 1, [], 0), (24, .aload_n 0, 1, [], 0), (25, .getfield 52, 3, [10, 6], 0), (28, .aload_n 3, 1, [], 0), (29, .aload_n 3, 1, [], 0), (30, .getfield 153, 3, [7, 0], 0), (33, .bipush 50, 2, [], 50), (35, .invokevirtual 338, 3, [59, 3, 5], 0), (38, .istore 4, 2, [], 0), (40, .iload_n 2, 1, [], 0), (41, .ifCond .eq 13, 3, [28], 0), (44, .aload_n 0, 1, [], 0), (45, .getfield 36, 3, [10, 4], 0), (48, .getfield 341, 3, [2, 8], 0), (51, .goto 5, 3, [29], 0), (54, .iload 4, 2, [], 0), (56, .ireturn, 1, [0, 0, 0], 0)]
/-- X11_bid -/
def cd_151 : List PEn := [(0, .aload_n 0, 1, [], 0), (1, .getfield 10, 3, [10, 0], 0), (4, .iconst 0, 1, [], 0), (5, .iload_n 1, 1, [], 0), (6, .invokevirtual 138, 3, [114, 2, 9], 0), (9, .ifCond .eq 13, 3, [11], 0), (12, .iload_n 2, 1, [], 0), (13, .ifCond .lt 9, 3, [11], 0), (16, .iload_n 2, 1, [], 0), (17, .bipush 50, 2, [], 50), (19, .if_icmp .le 5, 3, [13], 0), (22, .iconst (-1), 1, [], -1), (23, .ireturn, 1, [0, 0, 0], 0), (24, .aload_n 0, 1, [], 0), (25, .getfield 52, 3, [10, 6], 0), (28, .aload_n 0, 1, [], 0), (29, .getfield 10, 3, [10, 0], 0), (32, .getfield 97, 3, [9, 2], 0), (35, .iload_n 1, 1, [], 0), (36, .aaload, 1, [7], 0), (37, .iload_n 2, 1, [], 0), (38, .invokevirtual 344, 3, [58, 2, 5], 0), (41, .aload_n 0, 1, [], 0), (42, .getfield 36, 3, [10, 4], 0), (45, .getfield 347, 3, [2, 3], 0), (48, .ireturn, 1, [0, 0, 0], 0)]
/-- X11_top -/
def cd_152 : List PEn := [(0, .aload_n 0, 1, [], 0), (1, .getfield 10, 3, [10, 0], 0), (4, .iconst 0, 1, [], 0), (5, .iload_n 1, 1, [], 0), (6, .invokevirtual 138, 3, [114, 2, 9], 0), (9, .ifCond .eq 14, 3, [12], 0), (12, .iload_n 2, 1, [], 0), (13, .iconst 1, 1, [], 1), (14, .if_icmp .lt 9, 3, [12], 0), (17, .iload_n 2, 1, [], 0), (18, .bipush 50, 2, [], 50), (20, .if_icmp .le 5, 3, [14], 0), (23, .iconst (-1), 1, [], -1), (24, .ireturn, 1, [0, 0, 0], 0), (25, .aload_n 0, 1, [], 0), (26, .getfield 52, 3, [10, 6], 0), (29, .aload_n 0, 1, [], 0), (30, .getfield 10, 3, [10, 0], 0), (33, .getfield 97, 3, [9, 2], 0), (36, .iload_n 1, 1, [], 0), (37, .aaload, 1, [7], 0), (38, .iload_n 2, 1, [], 0), (39, .invokevirtual 350, 3, [60, 2, 5], 0), (42, .ireturn, 1, [0, 0, 0], 0)]
/-- X11_behind -/
def cd_153 : List PEn := [(0, .aload_n 0, 1, [], 0), (1, .getfield 10, 3, [10, 0], 0), (4, .iconst 0, 1, [], 0), (5, .iload_n 1, 1, [], 0), (6, .invokevirtual 138, 3, [114, 2, 9], 0), (9, .ifCond .eq 13, 3, [11], 0), (12, .iload_n 2, 1, [], 0), (13, .ifCond .lt 9, 3, [11], 0), (16, .iload_n 2, 1, [], 0), (17, .bipush 50, 2, [], 50), (19, .if_icmp .le 6, 3, [13], 0), (22, .bipush (-2), 2, [], -2), (24, .ireturn, 1, [0, 0, 0], 0), (25, .aload_n 0, 1, [], 0), (26, .getfield 52, 3, [10, 6], 0), (29, .aload_n 0, 1, [], 0), (30, .getfield 10, 3, [10, 0], 0), (33, .getfield 97, 3, [9, 2], 0), (36, .iload_n 1, 1, [], 0), (37, .aaload, 1, [7], 0), (38, .iload_n 2, 1, [], 0), (39, .invokevirtual 344, 3, [58, 2, 5], 0), (42, .iload_n 3, 1, [], 0), (43, .tableswitch 70 0 3 #[29, 40, 51, 62], 29, [43, 24, 29, 34, 39], 0), (72, .aload_n 0, 1, [], 0), (73, .getfield 36, 3, [10, 4], 0), (76, .getfield 232, 3, [2, 0], 0), (79, .invokevirtual 353, 3, [88, 0, 7], 0), (82, .ireturn, 1, [0, 0, 0], 0), (83, .aload_n 0, 1, [], 0), (84, .getfield 36, 3, [10, 4], 0), (87, .getfield 232, 3, [2, 0], 0), (90, .invokevirtual 356, 3, [89, 0, 7], 0), (93, .ireturn, 1, [0, 0, 0], 0), (94, .aload_n 0, 1, [], 0), (95, .getfield 36, 3, [10, 4], 0), (98, .getfield 232, 3, [2, 0], 0), (101, .invokevirtual 359, 3, [90, 0, 7], 0), (104, .ireturn, 1, [0, 0, 0], 0), (105, .aload_n 0, 1, [], 0), (106, .getfield 36, 3, [10, 4], 0), (109, .getfield 362, 3, [2, 4], 0), (112, .ireturn, 1, [0, 0, 0], 0), (113, .iload_n 3, 1, [], 0), (114, .bipush 10, 2, [], 10), (116, .isub, 1, [], 0), (117, .istore 4, 2, [], 0), (119, .iload_n 3, 1, [], 0), (120, .bipush 10, 2, [], 10), (122, .if_icmp .lt 34, 3, [63], 0), (125, .aload_n 0, 1, [], 0), (126, .getfield 36, 3, [10, 4], 0), (129, .getfield 232, 3, [2, 0], 0), (132, .iload 4, 2, [], 0), (134, .invokevirtual 180, 3, [82, 1, 7], 0), (137, .ifCond .eq 19, 3, [63], 0), (140, .aload_n 0, 1, [], 0), (141, .getfield 36, 3, [10, 4], 0), (144, .getfield 232, 3, [2, 0], 0), (147, .getfield 184, 3, [7, 5], 0), (150, .iload 4, 2, [], 0), (152, .iaload, 1, [], 0), (153, .goto 5, 3, [64], 0), (156, .bipush (-2), 2, [], -2), (158, .ireturn, 1, [0, 0, 0], 0)]
/-- X11_passed -/
def cd_154 : List PEn := [(0, .aload_n 0, 1, [], 0), (1, .getfield 10, 3, [10, 0], 0), (4, .iconst 0, 1, [], 0), (5, .iload_n 1, 1, [], 0), (6, .invokevirtual 138, 3, [114, 2, 9], 0), (9, .ifCond .ne 6, 3, [8], 0), (12, .bipush (-2), 2, [], -2), (14, .ireturn, 1, [0, 0, 0], 0), (15, .aload_n 0, 1, [], 0), (16, .getfield 10, 3, [10, 0], 0), (19, .getfield 97, 3, [9, 2], 0), (22, .iload_n 1, 1, [], 0), (23, .aaload, 1, [7], 0), (24, .astore_n 3, 1, [], 0), (25, .iload_n 2, 1, [], 0), (26, .tableswitch 66 0 3 #[30, 39, 48, 57], 30, [36, 16, 21, 26, 31], 0), (56, .aload_n 0, 1, [], 0), (57, .getfield 52, 3, [10, 6], 0), (60, .aload_n 3, 1, [], 0), (61, .invokevirtual 363, 3, [61, 1, 5], 0), (64, .ireturn, 1, [0, 0, 0], 0), (65, .aload_n 0, 1, [], 0), (66, .getfield 52, 3, [10, 6], 0), (69, .aload_n 3, 1, [], 0), (70, .invokevirtual 366, 3, [62, 1, 5], 0), (73, .ireturn, 1, [0, 0, 0], 0), (74, .aload_n 0, 1, [], 0), (75, .getfield 52, 3, [10, 6], 0), (78, .aload_n 3, 1, [], 0), (79, .invokevirtual 369, 3, [63, 1, 5], 0), (82, .ireturn, 1, [0, 0, 0], 0), (83, .aload_n 0, 1, [], 0), (84, .getfield 52, 3, [10, 6], 0), (87, .aload_n 3, 1, [], 0), (88, .invokevirtual 372, 3, [64, 1, 5], 0), (91, .ireturn, 1, [0, 0, 0], 0), (92, .bipush (-2), 2, [], -2), (94, .ireturn, 1, [0, 0, 0], 0)]
/-- X11_fits -/
def cd_155 : List PEn := [(0, .aload_n 0, 1, [], 0), (1, .getfield 10, 3, [10, 0], 0), (4, .iconst 0, 1, [], 0), (5, .iload_n 1, 1, [], 0), (6, .invokevirtual 138, 3, [114, 2, 9], 0), (9, .ifCond .eq 19, 3, [14], 0), (12, .aload_n 0, 1, [], 0), (13, .getfield 10, 3, [10, 0], 0), (16, .iconst 2, 1, [], 2), (17, .iload_n 2, 1, [], 0), (18, .invokevirtual 138, 3, [114, 2, 9], 0), (21, .ifCond .eq 7, 3, [14], 0), (24, .iload_n 3, 1, [], 0), (25, .ifCond .ge 6, 3, [16], 0), (28, .bipush (-2), 2, [], -2), (30, .ireturn, 1, [0, 0, 0], 0), (31, .aload_n 0, 1, [], 0), (32, .getfield 66, 3, [10, 8], 0), (35, .aload_n 0, 1, [], 0), (36, .getfield 10, 3, [10, 0], 0), (39, .getfield 97, 3, [9, 2], 0), (42, .iload_n 1, 1, [], 0), (43, .aaload, 1, [7], 0), (44, .aload_n 0, 1, [], 0), (45, .getfield 10, 3, [10, 0], 0), (48, .getfield 123, 3, [9, 4], 0), (51, .iload_n 2, 1, [], 0), (52, .aaload, 1, [6], 0), (53, .invokevirtual 375, 3, [42, 2, 3], 0), (56, .iload_n 3, 1, [], 0), (57, .ifCond .ne 11, 3, [35], 0), (60, .aload_n 0, 1, [], 0), (61, .getfield 66, 3, [10, 8], 0), (64, .getfield 379, 3, [3, 0], 0), (67, .ireturn, 1, [0, 0, 0], 0), (68, .iload_n 3, 1, [], 0), (69, .iconst 1, 1, [], 1), (70, .if_icmp .ne 11, 3, [42], 0), (73, .aload_n 0, 1, [], 0), (74, .getfield 66, 3, [10, 8], 0), (77, .invokevirtual 380, 3, [48, 0, 3], 0), (80, .ireturn, 1, [0, 0, 0], 0), (81, .iload_n 3, 1, [], 0), (82, .bipush 10, 2, [], 10), (84, .if_icmp .lt 15, 3, [52], 0), (87, .aload_n 0, 1, [], 0), (88, .getfield 66, 3, [10, 8], 0), (91, .iload_n 3, 1, [], 0), (92, .bipush 10, 2, [], 10), (94, .isub, 1, [], 0), (95, .invokevirtual 383, 3, [45, 1, 3], 0), (98, .ireturn, 1, [0, 0, 0], 0), (99, .iload_n 3, 1, [], 0), (100, .iconst 2, 1, [], 2), (101, .isub, 1, [], 0), (102, .istore 4, 2, [], 0), (104, .iload 4, 2, [], 0), (106, .bipush 7, 2, [], 7), (108, .if_icmp .ge 15, 3, [64], 0), (111, .aload_n 0, 1, [], 0), (112, .getfield 66, 3, [10, 8], 0), (115, .iload 4, 2, [], 0), (117, .invokevirtual 386, 3, [47, 1, 3], 0), (120, .goto 5, 3, [65], 0), (123, .bipush (-2), 2, [], -2), (125, .ireturn, 1, [0, 0, 0], 0)]
/-- X11_odds -/
def cd_156 : List PEn := [(0, .aload_n 0, 1, [], 0), (1, .getfield 10, 3, [10, 0], 0), (4, .iload_n 1, 1, [], 0), (5, .iload_n 3, 1, [], 0), (6, .invokevirtual 274, 3, [115, 2, 9], 0), (9, .ifCond .eq 15, 3, [12], 0), (12, .aload_n 0, 1, [], 0), (13, .getfield 10, 3, [10, 0], 0), (16, .iconst 2, 1, [], 2), (17, .iload_n 2, 1, [], 0), (18, .invokevirtual 138, 3, [114, 2, 9], 0), (21, .ifCond .ne 5, 3, [14], 0), (24, .iconst (-1), 1, [], -1), (25, .ireturn, 1, [0, 0, 0], 0), (26, .aload_n 0, 1, [], 0), (27, .getfield 66, 3, [10, 8], 0), (30, .aload_n 0, 1, [], 0), (31, .getfield 10, 3, [10, 0], 0), (34, .getfield 97, 3, [9, 2], 0), (37, .iload_n 1, 1, [], 0), (38, .aaload, 1, [7], 0), (39, .aload_n 0, 1, [], 0), (40, .getfield 10, 3, [10, 0], 0), (43, .getfield 123, 3, [9, 4], 0), (46, .iload_n 2, 1, [], 0), (47, .aaload, 1, [6], 0), (48, .invokevirtual 375, 3, [42, 2, 3], 0), (51, .aload_n 0, 1, [], 0), (52, .getfield 66, 3, [10, 8], 0), (55, .iload_n 3, 1, [], 0), (56, .invokevirtual 389, 3, [46, 1, 3], 0), (59, .aload_n 0, 1, [], 0), (60, .getfield 66, 3, [10, 8], 0), (63, .getfield 379, 3, [3, 0], 0), (66, .iload 4, 2, [], 0), (68, .invokestatic 289, 3, [158, 3], 0), (71, .ireturn, 1, [0, 0, 0], 0)]
/-- X11_fewest -/
def cd_157 : List PEn := [(0, .aload_n 0, 1, [], 0), (1, .getfield 10, 3, [10, 0], 0), (4, .iconst 0, 1, [], 0), (5, .iload_n 1, 1, [], 0), (6, .invokevirtual 138, 3, [114, 2, 9], 0), (9, .ifCond .eq 15, 3, [12], 0), (12, .aload_n 0, 1, [], 0), (13, .getfield 10, 3, [10, 0], 0), (16, .iconst 2, 1, [], 2), (17, .iload_n 2, 1, [], 0), (18, .invokevirtual 138, 3, [114, 2, 9], 0), (21, .ifCond .ne 6, 3, [14], 0), (24, .bipush (-2), 2, [], -2), (26, .ireturn, 1, [0, 0, 0], 0), (27, .aload_n 0, 1, [], 0), (28, .getfield 66, 3, [10, 8], 0), (31, .aload_n 0, 1, [], 0), (32, .getfield 10, 3, [10, 0], 0), (35, .getfield 97, 3, [9, 2], 0), (38, .iload_n 1, 1, [], 0), (39, .aaload, 1, [7], 0), (40, .aload_n 0, 1, [], 0), (41, .getfield 10, 3, [10, 0], 0), (44, .getfield 123, 3, [9, 4], 0), (47, .iload_n 2, 1, [], 0), (48, .aaload, 1, [6], 0), (49, .invokevirtual 375, 3, [42, 2, 3], 0), (52, .iload_n 3, 1, [], 0), (53, .tableswitch 51 0 2 #[27, 35, 43], 27, [41, 29, 33, 37], 0), (80, .aload_n 0, 1, [], 0), (81, .getfield 66, 3, [10, 8], 0), (84, .invokevirtual 392, 3, [50, 0, 3], 0), (87, .ireturn, 1, [0, 0, 0], 0), (88, .aload_n 0, 1, [], 0), (89, .getfield 66, 3, [10, 8], 0), (92, .invokevirtual 395, 3, [51, 0, 3], 0), (95, .ireturn, 1, [0, 0, 0], 0), (96, .aload_n 0, 1, [], 0), (97, .getfield 66, 3, [10, 8], 0), (100, .invokevirtual 398, 3, [52, 0, 3], 0), (103, .ireturn, 1, [0, 0, 0], 0), (104, .bipush (-2), 2, [], -2), (106, .ireturn, 1, [0, 0, 0], 0)]
/-- X11_leastTerm -/
def cd_158 : List PEn := [(0, .iload_n 0, 1, [], 0), (1, .iload_n 1, 1, [], 0), (2, .invokestatic 401, 3, [159, 2], 0), (5, .istore_n 3, 1, [], 0), (6, .iload_n 1, 1, [], 0), (7, .ifCond .le 7, 3, [8], 0), (10, .iload_n 3, 1, [], 0), (11, .ifCond .gt 5, 3, [10], 0), (14, .iconst (-1), 1, [], -1), (15, .ireturn, 1, [0, 0, 0], 0), (16, .iload_n 2, 1, [], 0), (17, .ifCond .eq 9, 3, [16], 0), (20, .iload_n 1, 1, [], 0), (21, .iload_n 3, 1, [], 0), (22, .idiv, 1, [], 0), (23, .goto 6, 3, [19], 0), (26, .iload_n 0, 1, [], 0), (27, .iload_n 3, 1, [], 0), (28, .idiv, 1, [], 0), (29, .ireturn, 1, [0, 0, 0], 0)]
/-- X11_greatestCommon -/
def cd_159 : List PEn := [(0, .iload_n 0, 1, [], 0), (1, .istore_n 2, 1, [], 0), (2, .iload_n 1, 1, [], 0), (3, .istore_n 3, 1, [], 0), (4, .iconst 0, 1, [], 0), (5, .istore 4, 2, [], 0), (7, .iload 4, 2, [], 0), (9, .bipush 64, 2, [], 64), (11, .if_icmp .ge 23, 3, [21], 0), (14, .iload_n 3, 1, [], 0), (15, .ifCond .eq 19, 3, [21], 0), (18, .iload_n 2, 1, [], 0), (19, .iload_n 3, 1, [], 0), (20, .irem, 1, [], 0), (21, .istore 5, 2, [], 0), (23, .iload_n 3, 1, [], 0), (24, .istore_n 2, 1, [], 0), (25, .iload 5, 2, [], 0), (27, .istore_n 3, 1, [], 0), (28, .iinc 4 1, 3, [], 0), (31, .goto (-24), 3, [6], 0), (34, .iload_n 2, 1, [], 0), (35, .ireturn, 1, [0, 0, 0], 0)]
/-- X12_init -/
def cd_160 : List PEn := [(0, .aload_n 0, 1, [], 0), (1, .invokespecial 1, 3, [900, 0], 0), (4, .aload_n 0, 1, [], 0), (5, .sipush 3616, 3, [], 3616), (8, .newarray .int, 2, [], 0), (10, .putfield 7, 3, [11, 0, 2, 1], 0), (13, .aload_n 0, 1, [], 0), (14, .iconst 3, 1, [], 3), (15, .newarray .boolean, 2, [], 0), (17, .putfield 13, 3, [11, 1, 2, 1], 0), (20, .aload_n 0, 1, [], 0), (21, .bipush 81, 2, [], 81), (23, .newarray .int, 2, [], 0), (25, .putfield 17, 3, [11, 10, 2, 1], 0), (28, .aload_n 0, 1, [], 0), (29, .bipush 7, 2, [], 7), (31, .newarray .int, 2, [], 0), (33, .putfield 20, 3, [11, 25, 2, 1], 0), (36, .aload_n 0, 1, [], 0), (37, .bipush 7, 2, [], 7), (39, .newarray .int, 2, [], 0), (41, .putfield 23, 3, [11, 26, 2, 1], 0), (44, .aload_n 0, 1, [], 0), (45, .bipush 7, 2, [], 7), (47, .newarray .int, 2, [], 0), (49, .putfield 26, 3, [11, 27, 2, 1], 0), (52, .aload_n 0, 1, [], 0), (53, .bipush 7, 2, [], 7), (55, .newarray .int, 2, [], 0), (57, .putfield 29, 3, [11, 28, 2, 1], 0), (60, .aload_n 0, 1, [], 0), (61, .bipush 64, 2, [], 64), (63, .newarray .int, 2, [], 0), (65, .putfield 32, 3, [11, 31, 2, 1], 0), (68, .aload_n 0, 1, [], 0), (69, .bipush 7, 2, [], 7), (71, .newarray .int, 2, [], 0), (73, .putfield 35, 3, [11, 32, 2, 1], 0), (76, .aload_n 0, 1, [], 0), (77, .bipush 7, 2, [], 7), (79, .newarray .int, 2, [], 0), (81, .putfield 38, 3, [11, 33, 2, 1], 0), (84, .aload_n 0, 1, [], 0), (85, .bipush 7, 2, [], 7), (87, .newarray .int, 2, [], 0), (89, .putfield 41, 3, [11, 40, 2, 1], 0), (92, .aload_n 0, 1, [], 0), (93, .sipush 128, 3, [], 128), (96, .newarray .int, 2, [], 0), (98, .putfield 44, 3, [11, 43, 2, 1], 0), (101, .aload_n 0, 1, [], 0), (102, .sipush 896, 3, [], 896), (105, .newarray .int, 2, [], 0), (107, .putfield 47, 3, [11, 44, 2, 1], 0), (110, .aload_n 0, 1, [], 0), (111, .bipush 7, 2, [], 7), (113, .newarray .int, 2, [], 0), (115, .putfield 50, 3, [11, 45, 2, 1], 0), (118, .aload_n 0, 1, [], 0), (119, .getfield 7, 3, [11, 0], 0), (122, .bipush 6, 2, [], 6), (124, .iconst (-1), 1, [], -1), (125, .iastore, 1, [], 0), (126, .return_, 1, [1, 14, 4844], 0)]
/-- X12_isIn -/
def cd_161 : List PEn := [(0, .iload_n 0, 1, [], 0), (1, .iload_n 1, 1, [], 0), (2, .if_icmp .lt 12, 3, [8], 0), (5, .iload_n 0, 1, [], 0), (6, .iload_n 2, 1, [], 0), (7, .if_icmp .gt 7, 3, [8], 0), (10, .iconst 1, 1, [], 1), (11, .goto 4, 3, [9], 0), (14, .iconst 0, 1, [], 0), (15, .ireturn, 1, [1, 0, 0], 0)]
/-- X12_feed -/
def cd_162 : List PEn := [(0, .aload_n 0, 1, [], 0), (1, .getfield 7, 3, [11, 0], 0), (4, .iconst 4, 1, [], 4), (5, .iaload, 1, [], 0), (6, .bipush 20, 2, [], 20), (8, .iadd, 1, [], 0), (9, .sipush 600, 3, [], 600), (12, .if_icmp .le 5, 3, [10], 0), (15, .iconst (-1), 1, [], -1), (16, .ireturn, 1, [0, 0, 0], 0), (17, .iconst 0, 1, [], 0), (18, .istore 6, 2, [], 0), (20, .iload 6, 2, [], 0), (22, .bipush 20, 2, [], 20), (24, .if_icmp .ge 98, 3, [67], 0), (27, .iload 6, 2, [], 0), (29, .iconst 4, 1, [], 4), (30, .if_icmp .ge 7, 3, [20], 0), (33, .iload_n 1, 1, [], 0), (34, .goto 39, 3, [36], 0), (37, .iload 6, 2, [], 0), (39, .bipush 8, 2, [], 8), (41, .if_icmp .ge 7, 3, [25], 0), (44, .iload_n 2, 1, [], 0), (45, .goto 28, 3, [36], 0), (48, .iload 6, 2, [], 0), (50, .bipush 12, 2, [], 12), (52, .if_icmp .ge 7, 3, [30], 0), (55, .iload_n 3, 1, [], 0), (56, .goto 17, 3, [36], 0), (59, .iload 6, 2, [], 0), (61, .bipush 16, 2, [], 16), (63, .if_icmp .ge 8, 3, [35], 0), (66, .iload 4, 2, [], 0), (68, .goto 5, 3, [36], 0), (71, .iload 5, 2, [], 0), (73, .istore 7, 2, [], 0), (75, .aload_n 0, 1, [], 0), (76, .getfield 7, 3, [11, 0], 0), (79, .bipush 10, 2, [], 10), (81, .aload_n 0, 1, [], 0), (82, .getfield 7, 3, [11, 0], 0), (85, .iconst 4, 1, [], 4), (86, .iaload, 1, [], 0), (87, .iadd, 1, [], 0), (88, .iload 7, 2, [], 0), (90, .bipush 24, 2, [], 24), (92, .bipush 8, 2, [], 8), (94, .iload 6, 2, [], 0), (96, .iconst 4, 1, [], 4), (97, .irem, 1, [], 0), (98, .imul, 1, [], 0), (99, .isub, 1, [], 0), (100, .ishr, 1, [], 0), (101, .sipush 255, 3, [], 255), (104, .iand, 1, [], 0), (105, .iastore, 1, [], 0), (106, .aload_n 0, 1, [], 0), (107, .getfield 7, 3, [11, 0], 0), (110, .iconst 4, 1, [], 4), (111, .dup2, 1, [], 0), (112, .iaload, 1, [], 0), (113, .iconst 1, 1, [], 1), (114, .iadd, 1, [], 0), (115, .iastore, 1, [], 0), (116, .iinc 6 1, 3, [], 0), (119, .goto (-99), 3, [12], 0), (122, .aload_n 0, 1, [], 0), (123, .getfield 7, 3, [11, 0], 0), (126, .iconst 4, 1, [], 4), (127, .iaload, 1, [], 0), (128, .ireturn, 1, [0, 0, 0], 0)]
/-- X12_end -/
def cd_163 : List PEn := [(0, .iload_n 1, 1, [], 0), (1, .ifCond .lt 13, 3, [8], 0), (4, .iload_n 1, 1, [], 0), (5, .aload_n 0, 1, [], 0), (6, .getfield 7, 3, [11, 0], 0), (9, .iconst 4, 1, [], 4), (10, .iaload, 1, [], 0), (11, .if_icmp .le 5, 3, [10], 0), (14, .iconst (-1), 1, [], -1), (15, .ireturn, 1, [0, 0, 0], 0), (16, .aload_n 0, 1, [], 0), (17, .getfield 7, 3, [11, 0], 0), (20, .iconst 4, 1, [], 4), (21, .iload_n 1, 1, [], 0), (22, .iastore, 1, [], 0), (23, .iload_n 1, 1, [], 0), (24, .ireturn, 1, [0, 0, 0], 0)]
/-- X12_byteAt -/
def cd_164 : List PEn := [(0, .iload_n 1, 1, [], 0), (1, .aload_n 0, 1, [], 0), (2, .getfield 53, 3, [11, 2], 0), (5, .if_icmp .ge 15, 3, [11], 0), (8, .aload_n 0, 1, [], 0), (9, .getfield 7, 3, [11, 0], 0), (12, .bipush 10, 2, [], 10), (14, .iload_n 1, 1, [], 0), (15, .iadd, 1, [], 0), (16, .iaload, 1, [], 0), (17, .goto 4, 3, [12], 0), (20, .iconst (-1), 1, [], -1), (21, .ireturn, 1, [0, 0, 0], 0)]
/-- X12_isLetter -/
def cd_165 : List PEn := [(0, .iload_n 0, 1, [], 0), (1, .bipush 97, 2, [], 97), (3, .if_icmp .lt 13, 3, [8], 0), (6, .iload_n 0, 1, [], 0), (7, .bipush 122, 2, [], 122), (9, .if_icmp .gt 7, 3, [8], 0), (12, .iconst 1, 1, [], 1), (13, .goto 4, 3, [9], 0), (16, .iconst 0, 1, [], 0), (17, .ireturn, 1, [1, 0, 0], 0)]
/-- X12_isDigit -/
def cd_166 : List PEn := [(0, .iload_n 0, 1, [], 0), (1, .bipush 48, 2, [], 48), (3, .if_icmp .lt 13, 3, [8], 0), (6, .iload_n 0, 1, [], 0), (7, .bipush 57, 2, [], 57), (9, .if_icmp .gt 7, 3, [8], 0), (12, .iconst 1, 1, [], 1), (13, .goto 4, 3, [9], 0), (16, .iconst 0, 1, [], 0), (17, .ireturn, 1, [1, 0, 0], 0)]
/-- X12_four -/
def cd_167 : List PEn := [(0, .iload_n 0, 1, [], 0), (1, .bipush 32, 2, [], 32), (3, .imul, 1, [], 0), (4, .iload_n 1, 1, [], 0), (5, .iadd, 1, [], 0), (6, .bipush 32, 2, [], 32), (8, .imul, 1, [], 0), (9, .iload_n 2, 1, [], 0), (10, .iadd, 1, [], 0), (11, .bipush 32, 2, [], 32), (13, .imul, 1, [], 0), (14, .iload_n 3, 1, [], 0), (15, .iadd, 1, [], 0), (16, .i2l, 1, [], 0), (17, .lreturn, 1, [1, 0, 0], 0)]
/-- X12_eight -/
def cd_168 : List PEn := [(0, .iload_n 0, 1, [], 0), (1, .iload_n 1, 1, [], 0), (2, .iload_n 2, 1, [], 0), (3, .iload_n 3, 1, [], 0), (4, .invokestatic 57, 3, [167, 4], 0), (7, .ldc2_w 61, 3, [], 1048576), (10, .lmul, 1, [], 0), (11, .iload 4, 2, [], 0), (13, .iload 5, 2, [], 0), (15, .iload 6, 2, [], 0), (17, .iload 7, 2, [], 0), (19, .invokestatic 57, 3, [167, 4], 0), (22, .ladd, 1, [], 0), (23, .lreturn, 1, [1, 0, 0], 0)]
/-- X12_wordOf -/
def cd_169 : List PEn := [(0, .lload_n 0, 1, [], 0), (1, .iconst 0, 1, [], 0), (2, .iconst 0, 1, [], 0), (3, .bipush 15, 2, [], 15), (5, .bipush 6, 2, [], 6), (7, .bipush 6, 2, [], 6), (9, .bipush 9, 2, [], 9), (11, .iconst 3, 1, [], 3), (12, .iconst 5, 1, [], 5), (13, .invokestatic 63, 3, [168, 8], 0), (16, .lcmp, 1, [], 0), (17, .ifCond .ne 5, 3, [14], 0), (20, .iconst 1, 1, [], 1), (21, .ireturn, 1, [0, 0, 0], 0), (22, .lload_n 0, 1, [], 0), (23, .iconst 0, 1, [], 0), (24, .iconst 0, 1, [], 0), (25, .iconst 0, 1, [], 0), (26, .bipush 8, 2, [], 8), (28, .bipush 15, 2, [], 15), (30, .bipush 21, 2, [], 21), (32, .bipush 19, 2, [], 19), (34, .iconst 5, 1, [], 5), (35, .invokestatic 63, 3, [168, 8], 0), (38, .lcmp, 1, [], 0), (39, .ifCond .ne 5, 3, [28], 0), (42, .iconst 2, 1, [], 2), (43, .ireturn, 1, [0, 0, 0], 0), (44, .lload_n 0, 1, [], 0), (45, .iconst 0, 1, [], 0), (46, .bipush 20, 2, [], 20), (48, .bipush 9, 2, [], 9), (50, .iconst 5, 1, [], 5), (51, .invokestatic 57, 3, [167, 4], 0), (54, .lcmp, 1, [], 0), (55, .ifCond .ne 5, 3, [38], 0), (58, .iconst 3, 1, [], 3), (59, .ireturn, 1, [0, 0, 0], 0), (60, .lload_n 0, 1, [], 0), (61, .bipush 16, 2, [], 16), (63, .iconst 1, 1, [], 1), (64, .iconst 3, 1, [], 3), (65, .bipush 20, 2, [], 20), (67, .invokestatic 57, 3, [167, 4], 0), (70, .lcmp, 1, [], 0), (71, .ifCond .ne 5, 3, [48], 0), (74, .iconst 4, 1, [], 4), (75, .ireturn, 1, [0, 0, 0], 0), (76, .lload_n 0, 1, [], 0), (77, .iconst 0, 1, [], 0), (78, .iconst 0, 1, [], 0), (79, .iconst 0, 1, [], 0), (80, .bipush 17, 2, [], 17), (82, .bipush 21, 2, [], 21), (84, .bipush 15, 2, [], 15), (86, .bipush 20, 2, [], 20), (88, .iconst 1, 1, [], 1), (89, .invokestatic 63, 3, [168, 8], 0), (92, .lcmp, 1, [], 0), (93, .ifCond .ne 5, 3, [62], 0), (96, .iconst 5, 1, [], 5), (97, .ireturn, 1, [0, 0, 0], 0), (98, .lload_n 0, 1, [], 0), (99, .iconst 0, 1, [], 0), (100, .iconst 0, 1, [], 0), (101, .iconst 0, 1, [], 0), (102, .bipush 16, 2, [], 16), (104, .bipush 18, 2, [], 18), (106, .bipush 9, 2, [], 9), (108, .iconst 3, 1, [], 3), (109, .iconst 5, 1, [], 5), (110, .invokestatic 63, 3, [168, 8], 0), (113, .lcmp, 1, [], 0), (114, .ifCond .ne 6, 3, [76], 0), (117, .bipush 6, 2, [], 6), (119, .ireturn, 1, [0, 0, 0], 0), (120, .lload_n 0, 1, [], 0), (121, .bipush 25, 2, [], 25), (123, .iconst 5, 1, [], 5), (124, .iconst 1, 1, [], 1), (125, .bipush 18, 2, [], 18), (127, .invokestatic 57, 3, [167, 4], 0), (130, .lcmp, 1, [], 0), (131, .ifCond .ne 6, 3, [86], 0), (134, .bipush 7, 2, [], 7), (136, .ireturn, 1, [0, 0, 0], 0), (137, .lload_n 0, 1, [], 0), (138, .iconst 0, 1, [], 0), (139, .iconst 2, 1, [], 2), (140, .bipush 21, 2, [], 21), (142, .bipush 25, 2, [], 25), (144, .invokestatic 57, 3, [167, 4], 0), (147, .lcmp, 1, [], 0), (148, .ifCond .ne 6, 3, [96], 0), (151, .bipush 8, 2, [], 8), (153, .ireturn, 1, [0, 0, 0], 0), (154, .lload_n 0, 1, [], 0), (155, .bipush 12, 2, [], 12), (157, .bipush 15, 2, [], 15), (159, .bipush 19, 2, [], 19), (161, .iconst 5, 1, [], 5), (162, .invokestatic 57, 3, [167, 4], 0), (165, .lcmp, 1, [], 0), (166, .ifCond .ne 6, 3, [106], 0), (169, .bipush 9, 2, [], 9), (171, .ireturn, 1, [0, 0, 0], 0), (172, .lload_n 0, 1, [], 0), (173, .iconst 0, 1, [], 0), (174, .iconst 3, 1, [], 3), (175, .bipush 21, 2, [], 21), (177, .bipush 20, 2, [], 20), (179, .invokestatic 57, 3, [167, 4], 0), (182, .lcmp, 1, [], 0), (183, .ifCond .ne 6, 3, [116], 0), (186, .bipush 10, 2, [], 10), (188, .ireturn, 1, [0, 0, 0], 0), (189, .lload_n 0, 1, [], 0), (190, .bipush 16, 2, [], 16), (192, .iconst 1, 1, [], 1), (193, .bipush 9, 2, [], 9), (195, .iconst 4, 1, [], 4), (196, .invokestatic 57, 3, [167, 4], 0), (199, .lcmp, 1, [], 0), (200, .ifCond .ne 8, 3, [126], 0), (203, .bipush 11, 2, [], 11), (205, .goto 5, 3, [127], 0), (208, .bipush 99, 2, [], 99), (210, .ireturn, 1, [0, 0, 0], 0)]
/-- X12_advance -/
def cd_170 : List PEn := [(0, .aload_n 0, 1, [], 0), (1, .aload_n 0, 1, [], 0), (2, .getfield 67, 3, [11, 3], 0), (5, .invokevirtual 70, 3, [164, 1, 11], 0), (8, .bipush 10, 2, [], 10), (10, .if_icmp .eq 16, 3, [12], 0), (13, .aload_n 0, 1, [], 0), (14, .aload_n 0, 1, [], 0), (15, .getfield 67, 3, [11, 3], 0), (18, .invokevirtual 70, 3, [164, 1, 11], 0), (21, .bipush 32, 2, [], 32), (23, .if_icmp .ne 16, 3, [19], 0), (26, .aload_n 0, 1, [], 0), (27, .dup, 1, [], 0), (28, .getfield 67, 3, [11, 3], 0), (31, .iconst 1, 1, [], 1), (32, .iadd, 1, [], 0), (33, .putfield 67, 3, [11, 3, 0, 0], 0), (36, .goto (-36), 3, [0], 0), (39, .aload_n 0, 1, [], 0), (40, .aload_n 0, 1, [], 0), (41, .getfield 67, 3, [11, 3], 0), (44, .putfield 74, 3, [11, 4, 0, 0], 0), (47, .aload_n 0, 1, [], 0), (48, .aload_n 0, 1, [], 0), (49, .getfield 67, 3, [11, 3], 0), (52, .invokevirtual 70, 3, [164, 1, 11], 0), (55, .istore_n 1, 1, [], 0), (56, .iload_n 1, 1, [], 0), (57, .ifCond .ge 11, 3, [34], 0), (60, .aload_n 0, 1, [], 0), (61, .iconst 0, 1, [], 0), (62, .putfield 77, 3, [11, 5, 0, 0], 0), (65, .goto 246, 3, [160], 0), (68, .iload_n 1, 1, [], 0), (69, .invokestatic 80, 3, [165, 1], 0), (72, .ifCond .eq 114, 3, [94], 0), (75, .lconst 0, 1, [], 0), (76, .lstore_n 2, 1, [], 0), (77, .aload_n 0, 1, [], 0), (78, .aload_n 0, 1, [], 0), (79, .getfield 67, 3, [11, 3], 0), (82, .invokevirtual 70, 3, [164, 1, 11], 0), (85, .invokestatic 80, 3, [165, 1], 0), (88, .ifCond .eq 50, 3, [71], 0), (91, .aload_n 0, 1, [], 0), (92, .getfield 67, 3, [11, 3], 0), (95, .aload_n 0, 1, [], 0), (96, .getfield 74, 3, [11, 4], 0), (99, .isub, 1, [], 0), (100, .bipush 8, 2, [], 8), (102, .if_icmp .ge 23, 3, [64], 0), (105, .ldc2_w 84, 3, [], 32), (108, .lload_n 2, 1, [], 0), (109, .lmul, 1, [], 0), (110, .aload_n 0, 1, [], 0), (111, .aload_n 0, 1, [], 0), (112, .getfield 67, 3, [11, 3], 0), (115, .invokevirtual 70, 3, [164, 1, 11], 0), (118, .i2l, 1, [], 0), (119, .ladd, 1, [], 0), (120, .ldc2_w 86, 3, [], 96), (123, .lsub, 1, [], 0), (124, .lstore_n 2, 1, [], 0), (125, .aload_n 0, 1, [], 0), (126, .dup, 1, [], 0), (127, .getfield 67, 3, [11, 3], 0), (130, .iconst 1, 1, [], 1), (131, .iadd, 1, [], 0), (132, .putfield 67, 3, [11, 3, 0, 0], 0), (135, .goto (-58), 3, [39], 0), (138, .aload_n 0, 1, [], 0), (139, .aload_n 0, 1, [], 0), (140, .getfield 67, 3, [11, 3], 0), (143, .aload_n 0, 1, [], 0), (144, .getfield 74, 3, [11, 4], 0), (147, .isub, 1, [], 0), (148, .bipush 8, 2, [], 8), (150, .if_icmp .le 8, 3, [81], 0), (153, .bipush 99, 2, [], 99), (155, .goto 7, 3, [83], 0), (158, .lload_n 2, 1, [], 0), (159, .invokestatic 88, 3, [169, 1], 0), (162, .putfield 92, 3, [11, 7, 0, 0], 0), (165, .aload_n 0, 1, [], 0), (166, .aload_n 0, 1, [], 0), (167, .getfield 92, 3, [11, 7], 0), (170, .bipush 99, 2, [], 99), (172, .if_icmp .ne 7, 3, [91], 0), (175, .iconst 4, 1, [], 4), (176, .goto 4, 3, [92], 0), (179, .iconst 3, 1, [], 3), (180, .putfield 77, 3, [11, 5, 0, 0], 0), (183, .goto 128, 3, [160], 0), (186, .iload_n 1, 1, [], 0), (187, .invokestatic 95, 3, [166, 1], 0), (190, .ifCond .eq 96, 3, [146], 0), (193, .aload_n 0, 1, [], 0), (194, .iconst 0, 1, [], 0), (195, .putfield 98, 3, [11, 6, 0, 0], 0), (198, .aload_n 0, 1, [], 0), (199, .aload_n 0, 1, [], 0), (200, .getfield 67, 3, [11, 3], 0), (203, .invokevirtual 70, 3, [164, 1, 11], 0), (206, .invokestatic 95, 3, [166, 1], 0), (209, .ifCond .eq 52, 3, [133], 0), (212, .aload_n 0, 1, [], 0), (213, .getfield 67, 3, [11, 3], 0), (216, .aload_n 0, 1, [], 0), (217, .getfield 74, 3, [11, 4], 0), (220, .isub, 1, [], 0), (221, .iconst 2, 1, [], 2), (222, .if_icmp .ge 26, 3, [126], 0), (225, .aload_n 0, 1, [], 0), (226, .bipush 10, 2, [], 10), (228, .aload_n 0, 1, [], 0), (229, .getfield 98, 3, [11, 6], 0), (232, .imul, 1, [], 0), (233, .aload_n 0, 1, [], 0), (234, .aload_n 0, 1, [], 0), (235, .getfield 67, 3, [11, 3], 0), (238, .invokevirtual 70, 3, [164, 1, 11], 0), (241, .iadd, 1, [], 0), (242, .bipush 48, 2, [], 48), (244, .isub, 1, [], 0), (245, .putfield 98, 3, [11, 6, 0, 0], 0), (248, .aload_n 0, 1, [], 0), (249, .dup, 1, [], 0), (250, .getfield 67, 3, [11, 3], 0), (253, .iconst 1, 1, [], 1), (254, .iadd, 1, [], 0), (255, .putfield 67, 3, [11, 3, 0, 0], 0), (258, .goto (-60), 3, [100], 0), (261, .aload_n 0, 1, [], 0), (262, .aload_n 0, 1, [], 0), (263, .getfield 67, 3, [11, 3], 0), (266, .aload_n 0, 1, [], 0), (267, .getfield 74, 3, [11, 4], 0), (270, .isub, 1, [], 0), (271, .iconst 2, 1, [], 2), (272, .if_icmp .le 7, 3, [143], 0), (275, .iconst 4, 1, [], 4), (276, .goto 4, 3, [144], 0), (279, .iconst 1, 1, [], 1), (280, .putfield 77, 3, [11, 5, 0, 0], 0), (283, .goto 28, 3, [160], 0), (286, .aload_n 0, 1, [], 0), (287, .dup, 1, [], 0), (288, .getfield 67, 3, [11, 3], 0), (291, .iconst 1, 1, [], 1), (292, .iadd, 1, [], 0), (293, .putfield 67, 3, [11, 3, 0, 0], 0), (296, .aload_n 0, 1, [], 0), (297, .iload_n 1, 1, [], 0), (298, .bipush 59, 2, [], 59), (300, .if_icmp .ne 7, 3, [158], 0), (303, .iconst 2, 1, [], 2), (304, .goto 4, 3, [159], 0), (307, .iconst 4, 1, [], 4), (308, .putfield 77, 3, [11, 5, 0, 0], 0), (311, .return_, 1, [1, 0, 0], 0)]
/-- X12_ends -/
def cd_171 : List PEn := [(0, .aload_n 0, 1, [], 0), (1, .getfield 101, 3, [11, 8], 0), (4, .ifCond .eq 4, 3, [4], 0), (7, .return_, 1, [1, 0, 0], 0), (8, .aload_n 0, 1, [], 0), (9, .iconst 1, 1, [], 1), (10, .putfield 101, 3, [11, 8, 1, 0], 0), (13, .aload_n 0, 1, [], 0), (14, .getfield 7, 3, [11, 0], 0), (17, .iconst 5, 1, [], 5), (18, .iconst 1, 1, [], 1), (19, .iastore, 1, [], 0), (20, .aload_n 0, 1, [], 0), (21, .getfield 7, 3, [11, 0], 0), (24, .bipush 6, 2, [], 6), (26, .aload_n 0, 1, [], 0), (27, .getfield 74, 3, [11, 4], 0), (30, .iastore, 1, [], 0), (31, .return_, 1, [1, 0, 0], 0)]
/-- X12_also -/
def cd_172 : List PEn := [(0, .aload_n 0, 1, [], 0), (1, .getfield 101, 3, [11, 8], 0), (4, .ifCond .ne 44, 3, [26], 0), (7, .aload_n 0, 1, [], 0), (8, .getfield 7, 3, [11, 0], 0), (11, .iconst 5, 1, [], 5), (12, .iaload, 1, [], 0), (13, .ifCond .eq 36, 3, [27], 0), (16, .aload_n 0, 1, [], 0), (17, .getfield 7, 3, [11, 0], 0), (20, .bipush 6, 2, [], 6), (22, .iaload, 1, [], 0), (23, .iload_n 2, 1, [], 0), (24, .if_icmp .lt 24, 3, [26], 0), (27, .aload_n 0, 1, [], 0), (28, .getfield 7, 3, [11, 0], 0), (31, .bipush 6, 2, [], 6), (33, .iaload, 1, [], 0), (34, .iload_n 2, 1, [], 0), (35, .if_icmp .ne 14, 3, [27], 0), (38, .aload_n 0, 1, [], 0), (39, .getfield 7, 3, [11, 0], 0), (42, .iconst 5, 1, [], 5), (43, .iaload, 1, [], 0), (44, .iload_n 1, 1, [], 0), (45, .if_icmp .gt 4, 3, [27], 0), (48, .return_, 1, [1, 0, 0], 0), (49, .aload_n 0, 1, [], 0), (50, .getfield 7, 3, [11, 0], 0), (53, .iconst 5, 1, [], 5), (54, .iload_n 1, 1, [], 0), (55, .iastore, 1, [], 0), (56, .aload_n 0, 1, [], 0), (57, .getfield 7, 3, [11, 0], 0), (60, .bipush 6, 2, [], 6), (62, .iload_n 2, 1, [], 0), (63, .iastore, 1, [], 0), (64, .return_, 1, [1, 0, 0], 0)]
/-- X12_numbered -/
def cd_173 : List PEn := [(0, .aload_n 0, 1, [], 0), (1, .getfield 101, 3, [11, 8], 0), (4, .ifCond .ne 11, 3, [7], 0), (7, .aload_n 0, 1, [], 0), (8, .getfield 77, 3, [11, 5], 0), (11, .iconst 1, 1, [], 1), (12, .if_icmp .eq 9, 3, [11], 0), (15, .aload_n 0, 1, [], 0), (16, .invokevirtual 105, 3, [171, 0, 11], 0), (19, .iload_n 1, 1, [], 0), (20, .ireturn, 1, [0, 0, 0], 0), (21, .aload_n 0, 1, [], 0), (22, .getfield 98, 3, [11, 6], 0), (25, .istore_n 3, 1, [], 0), (26, .iload_n 3, 1, [], 0), (27, .iload_n 1, 1, [], 0), (28, .iload_n 2, 1, [], 0), (29, .invokestatic 108, 3, [161, 3], 0), (32, .ifCond .ne 12, 3, [24], 0), (35, .aload_n 0, 1, [], 0), (36, .iconst 2, 1, [], 2), (37, .aload_n 0, 1, [], 0), (38, .getfield 74, 3, [11, 4], 0), (41, .invokevirtual 112, 3, [172, 2, 11], 0), (44, .aload_n 0, 1, [], 0), (45, .invokevirtual 116, 3, [170, 0, 11], 0), (48, .iload_n 3, 1, [], 0), (49, .iload_n 1, 1, [], 0), (50, .iload_n 2, 1, [], 0), (51, .invokestatic 108, 3, [161, 3], 0), (54, .ifCond .eq 7, 3, [33], 0), (57, .iload_n 3, 1, [], 0), (58, .goto 4, 3, [34], 0), (61, .iload_n 1, 1, [], 0), (62, .ireturn, 1, [0, 0, 0], 0)]
/-- X12_wordIn -/
def cd_174 : List PEn := [(0, .aload_n 0, 1, [], 0), (1, .getfield 101, 3, [11, 8], 0), (4, .ifCond .ne 23, 3, [13], 0), (7, .aload_n 0, 1, [], 0), (8, .getfield 77, 3, [11, 5], 0), (11, .iconst 3, 1, [], 3), (12, .if_icmp .ne 15, 3, [13], 0), (15, .aload_n 0, 1, [], 0), (16, .getfield 92, 3, [11, 7], 0), (19, .iload_n 1, 1, [], 0), (20, .iload_n 2, 1, [], 0), (21, .invokestatic 108, 3, [161, 3], 0), (24, .ifCond .ne 9, 3, [17], 0), (27, .aload_n 0, 1, [], 0), (28, .invokevirtual 105, 3, [171, 0, 11], 0), (31, .iconst 0, 1, [], 0), (32, .ireturn, 1, [0, 0, 0], 0), (33, .aload_n 0, 1, [], 0), (34, .getfield 92, 3, [11, 7], 0), (37, .istore_n 3, 1, [], 0), (38, .aload_n 0, 1, [], 0), (39, .invokevirtual 116, 3, [170, 0, 11], 0), (42, .iload_n 3, 1, [], 0), (43, .ireturn, 1, [0, 0, 0], 0)]
/-- X12_endsLine -/
def cd_175 : List PEn := [(0, .aload_n 0, 1, [], 0), (1, .getfield 101, 3, [11, 8], 0), (4, .ifCond .ne 18, 3, [10], 0), (7, .aload_n 0, 1, [], 0), (8, .getfield 77, 3, [11, 5], 0), (11, .iconst 2, 1, [], 2), (12, .if_icmp .ne 10, 3, [10], 0), (15, .aload_n 0, 1, [], 0), (16, .invokevirtual 116, 3, [170, 0, 11], 0), (19, .goto 7, 3, [12], 0), (22, .aload_n 0, 1, [], 0), (23, .invokevirtual 105, 3, [171, 0, 11], 0), (26, .return_, 1, [1, 0, 0], 0)]
/-- X12_houseTold -/
def cd_176 : List PEn := [(0, .aload_n 0, 1, [], 0), (1, .iconst 0, 1, [], 0), (2, .bipush 6, 2, [], 6), (4, .invokevirtual 119, 3, [173, 2, 11], 0), (7, .istore_n 1, 1, [], 0), (8, .aload_n 0, 1, [], 0), (9, .iload_n 1, 1, [], 0), (10, .aload_n 0, 1, [], 0), (11, .getfield 123, 3, [11, 9], 0), (14, .if_icmp .le 7, 3, [12], 0), (17, .iload_n 1, 1, [], 0), (18, .goto 7, 3, [14], 0), (21, .aload_n 0, 1, [], 0), (22, .getfield 123, 3, [11, 9], 0), (25, .putfield 123, 3, [11, 9, 0, 0], 0), (28, .iload_n 1, 1, [], 0), (29, .ireturn, 1, [0, 0, 0], 0)]
/-- X12_patronTold -/
def cd_177 : List PEn := [(0, .aload_n 0, 1, [], 0), (1, .getfield 101, 3, [11, 8], 0), (4, .ifCond .ne 36, 3, [20], 0), (7, .aload_n 0, 1, [], 0), (8, .getfield 77, 3, [11, 5], 0), (11, .iconst 1, 1, [], 1), (12, .if_icmp .ne 28, 3, [20], 0), (15, .aload_n 0, 1, [], 0), (16, .getfield 98, 3, [11, 6], 0), (19, .iload_n 1, 1, [], 0), (20, .if_icmp .eq 11, 3, [15], 0), (23, .aload_n 0, 1, [], 0), (24, .getfield 98, 3, [11, 6], 0), (27, .iload_n 2, 1, [], 0), (28, .if_icmp .ne 12, 3, [20], 0), (31, .aload_n 0, 1, [], 0), (32, .iconst 2, 1, [], 2), (33, .aload_n 0, 1, [], 0), (34, .getfield 74, 3, [11, 4], 0), (37, .invokevirtual 112, 3, [172, 2, 11], 0), (40, .aload_n 0, 1, [], 0), (41, .invokevirtual 126, 3, [176, 0, 11], 0), (44, .ireturn, 1, [0, 0, 0], 0)]
/-- X12_houseLine -/
def cd_178 : List PEn := [(0, .aload_n 0, 1, [], 0), (1, .getfield 17, 3, [11, 10], 0), (4, .iconst 2, 1, [], 2), (5, .iaload, 1, [], 0), (6, .bipush 7, 2, [], 7), (8, .if_icmp .lt 9, 3, [10], 0), (11, .aload_n 0, 1, [], 0), (12, .iconst 3, 1, [], 3), (13, .iload_n 1, 1, [], 0), (14, .invokevirtual 112, 3, [172, 2, 11], 0), (17, .aload_n 0, 1, [], 0), (18, .iconst 0, 1, [], 0), (19, .bipush 99, 2, [], 99), (21, .invokevirtual 119, 3, [173, 2, 11], 0), (24, .istore_n 2, 1, [], 0), (25, .aload_n 0, 1, [], 0), (26, .iconst 0, 1, [], 0), (27, .bipush 9, 2, [], 9), (29, .invokevirtual 119, 3, [173, 2, 11], 0), (32, .istore_n 3, 1, [], 0), (33, .aload_n 0, 1, [], 0), (34, .getfield 17, 3, [11, 10], 0), (37, .iconst 2, 1, [], 2), (38, .iaload, 1, [], 0), (39, .bipush 7, 2, [], 7), (41, .if_icmp .lt 4, 3, [27], 0), (44, .return_, 1, [1, 0, 0], 0), (45, .aload_n 0, 1, [], 0), (46, .getfield 17, 3, [11, 10], 0), (49, .iconst 5, 1, [], 5), (50, .iconst 2, 1, [], 2), (51, .aload_n 0, 1, [], 0), (52, .getfield 17, 3, [11, 10], 0), (55, .iconst 2, 1, [], 2), (56, .iaload, 1, [], 0), (57, .imul, 1, [], 0), (58, .iadd, 1, [], 0), (59, .iload_n 2, 1, [], 0), (60, .iastore, 1, [], 0), (61, .aload_n 0, 1, [], 0), (62, .getfield 17, 3, [11, 10], 0), (65, .bipush 6, 2, [], 6), (67, .iconst 2, 1, [], 2), (68, .aload_n 0, 1, [], 0), (69, .getfield 17, 3, [11, 10], 0), (72, .iconst 2, 1, [], 2), (73, .iaload, 1, [], 0), (74, .imul, 1, [], 0), (75, .iadd, 1, [], 0), (76, .iload_n 3, 1, [], 0), (77, .iastore, 1, [], 0), (78, .aload_n 0, 1, [], 0), (79, .getfield 17, 3, [11, 10], 0), (82, .iconst 2, 1, [], 2), (83, .dup2, 1, [], 0), (84, .iaload, 1, [], 0), (85, .iconst 1, 1, [], 1), (86, .iadd, 1, [], 0), (87, .iastore, 1, [], 0), (88, .return_, 1, [1, 0, 0], 0)]
/-- X12_ruleTold -/
def cd_179 : List PEn := [(0, .aload_n 0, 1, [], 0), (1, .getfield 17, 3, [11, 10], 0), (4, .iconst 3, 1, [], 3), (5, .iaload, 1, [], 0), (6, .bipush 10, 2, [], 10), (8, .if_icmp .lt 9, 3, [10], 0), (11, .aload_n 0, 1, [], 0), (12, .iconst 3, 1, [], 3), (13, .iload_n 1, 1, [], 0), (14, .invokevirtual 112, 3, [172, 2, 11], 0), (17, .aload_n 0, 1, [], 0), (18, .invokevirtual 126, 3, [176, 0, 11], 0), (21, .istore_n 3, 1, [], 0), (22, .aload_n 0, 1, [], 0), (23, .iload_n 3, 1, [], 0), (24, .iload_n 3, 1, [], 0), (25, .invokevirtual 130, 3, [177, 2, 11], 0), (28, .istore 4, 2, [], 0), (30, .iload_n 2, 1, [], 0), (31, .ifCond .eq 13, 3, [25], 0), (34, .aload_n 0, 1, [], 0), (35, .iload_n 3, 1, [], 0), (36, .iload 4, 2, [], 0), (38, .invokevirtual 130, 3, [177, 2, 11], 0), (41, .goto 4, 3, [26], 0), (44, .iconst (-1), 1, [], -1), (45, .istore 5, 2, [], 0), (47, .aload_n 0, 1, [], 0), (48, .getfield 17, 3, [11, 10], 0), (51, .iconst 3, 1, [], 3), (52, .iaload, 1, [], 0), (53, .bipush 10, 2, [], 10), (55, .if_icmp .lt 4, 3, [34], 0), (58, .return_, 1, [1, 0, 0], 0), (59, .bipush 19, 2, [], 19), (61, .iconst 3, 1, [], 3), (62, .aload_n 0, 1, [], 0), (63, .getfield 17, 3, [11, 10], 0), (66, .iconst 3, 1, [], 3), (67, .iaload, 1, [], 0), (68, .imul, 1, [], 0), (69, .iadd, 1, [], 0), (70, .istore 6, 2, [], 0), (72, .aload_n 0, 1, [], 0), (73, .getfield 17, 3, [11, 10], 0), (76, .iload 6, 2, [], 0), (78, .iload_n 3, 1, [], 0), (79, .iastore, 1, [], 0), (80, .aload_n 0, 1, [], 0), (81, .getfield 17, 3, [11, 10], 0), (84, .iload 6, 2, [], 0), (86, .iconst 1, 1, [], 1), (87, .iadd, 1, [], 0), (88, .iload 4, 2, [], 0), (90, .iastore, 1, [], 0), (91, .aload_n 0, 1, [], 0), (92, .getfield 17, 3, [11, 10], 0), (95, .iload 6, 2, [], 0), (97, .iconst 2, 1, [], 2), (98, .iadd, 1, [], 0), (99, .iload 5, 2, [], 0), (101, .iastore, 1, [], 0), (102, .aload_n 0, 1, [], 0), (103, .getfield 17, 3, [11, 10], 0), (106, .iconst 3, 1, [], 3), (107, .dup2, 1, [], 0), (108, .iaload, 1, [], 0), (109, .iconst 1, 1, [], 1), (110, .iadd, 1, [], 0), (111, .iastore, 1, [], 0), (112, .return_, 1, [1, 0, 0], 0)]
/-- X12_parishLine -/
def cd_180 : List PEn := [(0, .aload_n 0, 1, [], 0), (1, .getfield 74, 3, [11, 4], 0), (4, .istore_n 1, 1, [], 0), (5, .aload_n 0, 1, [], 0), (6, .iconst 1, 1, [], 1), (7, .bipush 6, 2, [], 6), (9, .invokevirtual 133, 3, [174, 2, 11], 0), (12, .istore_n 2, 1, [], 0), (13, .aload_n 0, 1, [], 0), (14, .getfield 101, 3, [11, 8], 0), (17, .ifCond .eq 7, 3, [13], 0), (20, .iconst 0, 1, [], 0), (21, .goto 4, 3, [14], 0), (24, .iload_n 2, 1, [], 0), (25, .tableswitch 115 1 6 #[39, 57, 65, 65, 83, 99], 39, [59, 15, 27, 31, 31, 41, 50], 0), (64, .aload_n 0, 1, [], 0), (65, .getfield 17, 3, [11, 10], 0), (68, .iconst 4, 1, [], 4), (69, .dup2, 1, [], 0), (70, .iaload, 1, [], 0), (71, .iconst 1, 1, [], 1), (72, .aload_n 0, 1, [], 0), (73, .invokevirtual 126, 3, [176, 0, 11], 0), (76, .ishl, 1, [], 0), (77, .ior, 1, [], 0), (78, .iastore, 1, [], 0), (79, .goto 61, 3, [59], 0), (82, .aload_n 0, 1, [], 0), (83, .iload_n 1, 1, [], 0), (84, .invokevirtual 136, 3, [178, 1, 11], 0), (87, .goto 53, 3, [59], 0), (90, .aload_n 0, 1, [], 0), (91, .iload_n 1, 1, [], 0), (92, .iload_n 2, 1, [], 0), (93, .iconst 4, 1, [], 4), (94, .if_icmp .ne 7, 3, [38], 0), (97, .iconst 1, 1, [], 1), (98, .goto 4, 3, [39], 0), (101, .iconst 0, 1, [], 0), (102, .invokevirtual 140, 3, [179, 2, 11], 0), (105, .goto 35, 3, [59], 0), (108, .aload_n 0, 1, [], 0), (109, .getfield 17, 3, [11, 10], 0), (112, .iconst 0, 1, [], 0), (113, .aload_n 0, 1, [], 0), (114, .iconst 0, 1, [], 0), (115, .bipush 99, 2, [], 99), (117, .invokevirtual 119, 3, [173, 2, 11], 0), (120, .iastore, 1, [], 0), (121, .goto 19, 3, [59], 0), (124, .aload_n 0, 1, [], 0), (125, .getfield 17, 3, [11, 10], 0), (128, .iconst 1, 1, [], 1), (129, .aload_n 0, 1, [], 0), (130, .iconst 0, 1, [], 0), (131, .bipush 99, 2, [], 99), (133, .invokevirtual 119, 3, [173, 2, 11], 0), (136, .iastore, 1, [], 0), (137, .goto 3, 3, [59], 0), (140, .aload_n 0, 1, [], 0), (141, .invokevirtual 144, 3, [175, 0, 11], 0), (144, .return_, 1, [1, 0, 0], 0)]
/-- X12_deedOf -/
def cd_181 : List PEn := [(0, .iload_n 0, 1, [], 0), (1, .lookupswitch 41 #[(5, 35), (6, 37), (10, 39)], 35, [8, 2, 4, 6], 0), (36, .iconst 3, 1, [], 3), (37, .ireturn, 1, [0, 0, 0], 0), (38, .iconst 4, 1, [], 4), (39, .ireturn, 1, [0, 0, 0], 0), (40, .iconst 5, 1, [], 5), (41, .ireturn, 1, [0, 0, 0], 0), (42, .iload_n 0, 1, [], 0), (43, .bipush 6, 2, [], 6), (45, .isub, 1, [], 0), (46, .iconst 1, 1, [], 1), (47, .isub, 1, [], 0), (48, .ireturn, 1, [0, 0, 0], 0)]
/-- X12_yearsLine -/
def cd_182 : List PEn := [(0, .aload_n 0, 1, [], 0), (1, .getfield 74, 3, [11, 4], 0), (4, .istore_n 1, 1, [], 0), (5, .aload_n 0, 1, [], 0), (6, .iconst 5, 1, [], 5), (7, .bipush 10, 2, [], 10), (9, .invokevirtual 133, 3, [174, 2, 11], 0), (12, .invokestatic 147, 3, [181, 1], 0), (15, .istore_n 2, 1, [], 0), (16, .aload_n 0, 1, [], 0), (17, .getfield 101, 3, [11, 8], 0), (20, .ifCond .ne 20, 3, [22], 0), (23, .aload_n 0, 1, [], 0), (24, .getfield 17, 3, [11, 10], 0), (27, .iconst 0, 1, [], 0), (28, .iaload, 1, [], 0), (29, .bipush 40, 2, [], 40), (31, .if_icmp .lt 9, 3, [22], 0), (34, .aload_n 0, 1, [], 0), (35, .iconst 3, 1, [], 3), (36, .iload_n 1, 1, [], 0), (37, .invokevirtual 112, 3, [172, 2, 11], 0), (40, .iload_n 2, 1, [], 0), (41, .ifCond .ne 7, 3, [26], 0), (44, .iconst (-1), 1, [], -1), (45, .goto 30, 3, [40], 0), (48, .aload_n 0, 1, [], 0), (49, .iconst 0, 1, [], 0), (50, .iload_n 2, 1, [], 0), (51, .iconst 3, 1, [], 3), (52, .if_icmp .ge 8, 3, [33], 0), (55, .bipush 6, 2, [], 6), (57, .goto 15, 3, [39], 0), (60, .iload_n 2, 1, [], 0), (61, .iconst 5, 1, [], 5), (62, .if_icmp .ge 8, 3, [38], 0), (65, .bipush 99, 2, [], 99), (67, .goto 5, 3, [39], 0), (70, .bipush 9, 2, [], 9), (72, .invokevirtual 119, 3, [173, 2, 11], 0), (75, .istore_n 3, 1, [], 0), (76, .aload_n 0, 1, [], 0), (77, .getfield 17, 3, [11, 10], 0), (80, .iconst 0, 1, [], 0), (81, .iaload, 1, [], 0), (82, .bipush 40, 2, [], 40), (84, .if_icmp .ge 45, 3, [79], 0), (87, .aload_n 0, 1, [], 0), (88, .getfield 17, 3, [11, 10], 0), (91, .iconst 1, 1, [], 1), (92, .iconst 2, 1, [], 2), (93, .aload_n 0, 1, [], 0), (94, .getfield 17, 3, [11, 10], 0), (97, .iconst 0, 1, [], 0), (98, .iaload, 1, [], 0), (99, .imul, 1, [], 0), (100, .iadd, 1, [], 0), (101, .iload_n 2, 1, [], 0), (102, .iastore, 1, [], 0), (103, .aload_n 0, 1, [], 0), (104, .getfield 17, 3, [11, 10], 0), (107, .iconst 2, 1, [], 2), (108, .iconst 2, 1, [], 2), (109, .aload_n 0, 1, [], 0), (110, .getfield 17, 3, [11, 10], 0), (113, .iconst 0, 1, [], 0), (114, .iaload, 1, [], 0), (115, .imul, 1, [], 0), (116, .iadd, 1, [], 0), (117, .iload_n 3, 1, [], 0), (118, .iastore, 1, [], 0), (119, .aload_n 0, 1, [], 0), (120, .getfield 17, 3, [11, 10], 0), (123, .iconst 0, 1, [], 0), (124, .dup2, 1, [], 0), (125, .iaload, 1, [], 0), (126, .iconst 1, 1, [], 1), (127, .iadd, 1, [], 0), (128, .iastore, 1, [], 0), (129, .aload_n 0, 1, [], 0), (130, .invokevirtual 144, 3, [175, 0, 11], 0), (133, .return_, 1, [1, 0, 0], 0)]
/-- X12_logLine -/
def cd_183 : List PEn := [(0, .aload_n 0, 1, [], 0), (1, .getfield 74, 3, [11, 4], 0), (4, .istore_n 1, 1, [], 0), (5, .aload_n 0, 1, [], 0), (6, .bipush 11, 2, [], 11), (8, .bipush 11, 2, [], 11), (10, .invokevirtual 133, 3, [174, 2, 11], 0), (13, .pop, 1, [], 0), (14, .aload_n 0, 1, [], 0), (15, .getfield 101, 3, [11, 8], 0), (18, .ifCond .ne 20, 3, [21], 0), (21, .aload_n 0, 1, [], 0), (22, .getfield 17, 3, [11, 10], 0), (25, .iconst 0, 1, [], 0), (26, .iaload, 1, [], 0), (27, .bipush 8, 2, [], 8), (29, .if_icmp .lt 9, 3, [21], 0), (32, .aload_n 0, 1, [], 0), (33, .iconst 3, 1, [], 3), (34, .iload_n 1, 1, [], 0), (35, .invokevirtual 112, 3, [172, 2, 11], 0), (38, .aload_n 0, 1, [], 0), (39, .iconst 0, 1, [], 0), (40, .bipush 6, 2, [], 6), (42, .invokevirtual 119, 3, [173, 2, 11], 0), (45, .istore_n 2, 1, [], 0), (46, .aload_n 0, 1, [], 0), (47, .iconst 0, 1, [], 0), (48, .bipush 99, 2, [], 99), (50, .invokevirtual 119, 3, [173, 2, 11], 0), (53, .istore_n 3, 1, [], 0), (54, .aload_n 0, 1, [], 0), (55, .getfield 17, 3, [11, 10], 0), (58, .iconst 0, 1, [], 0), (59, .iaload, 1, [], 0), (60, .bipush 8, 2, [], 8), (62, .if_icmp .ge 45, 3, [69], 0), (65, .aload_n 0, 1, [], 0), (66, .getfield 17, 3, [11, 10], 0), (69, .iconst 1, 1, [], 1), (70, .iconst 2, 1, [], 2), (71, .aload_n 0, 1, [], 0), (72, .getfield 17, 3, [11, 10], 0), (75, .iconst 0, 1, [], 0), (76, .iaload, 1, [], 0), (77, .imul, 1, [], 0), (78, .iadd, 1, [], 0), (79, .iload_n 2, 1, [], 0), (80, .iastore, 1, [], 0), (81, .aload_n 0, 1, [], 0), (82, .getfield 17, 3, [11, 10], 0), (85, .iconst 2, 1, [], 2), (86, .iconst 2, 1, [], 2), (87, .aload_n 0, 1, [], 0), (88, .getfield 17, 3, [11, 10], 0), (91, .iconst 0, 1, [], 0), (92, .iaload, 1, [], 0), (93, .imul, 1, [], 0), (94, .iadd, 1, [], 0), (95, .iload_n 3, 1, [], 0), (96, .iastore, 1, [], 0), (97, .aload_n 0, 1, [], 0), (98, .getfield 17, 3, [11, 10], 0), (101, .iconst 0, 1, [], 0), (102, .dup2, 1, [], 0), (103, .iaload, 1, [], 0), (104, .iconst 1, 1, [], 1), (105, .iadd, 1, [], 0), (106, .iastore, 1, [], 0), (107, .aload_n 0, 1, [], 0), (108, .invokevirtual 144, 3, [175, 0, 11], 0), (111, .return_, 1, [1, 0, 0], 0)]
/-- X12_placeOf -/
def cd_184 : List PEn := [(0, .iload_n 0, 1, [], 0), (1, .ifCond .ne 14, 3, [8], 0), (4, .sipush 610, 3, [], 610), (7, .bipush 49, 2, [], 49), (9, .iload_n 1, 1, [], 0), (10, .imul, 1, [], 0), (11, .iadd, 1, [], 0), (12, .goto 27, 3, [22], 0), (15, .iload_n 0, 1, [], 0), (16, .iconst 1, 1, [], 1), (17, .if_icmp .ne 14, 3, [17], 0), (20, .sipush 708, 3, [], 708), (23, .bipush 81, 2, [], 81), (25, .iload_n 1, 1, [], 0), (26, .imul, 1, [], 0), (27, .iadd, 1, [], 0), (28, .goto 11, 3, [22], 0), (31, .sipush 870, 3, [], 870), (34, .bipush 17, 2, [], 17), (36, .iload_n 1, 1, [], 0), (37, .imul, 1, [], 0), (38, .iadd, 1, [], 0), (39, .ireturn, 1, [0, 0, 0], 0)]
/-- X12_sizeOf -/
def cd_185 : List PEn := [(0, .iload_n 0, 1, [], 0), (1, .ifCond .ne 8, 3, [4], 0), (4, .bipush 49, 2, [], 49), (6, .goto 15, 3, [10], 0), (9, .iload_n 0, 1, [], 0), (10, .iconst 1, 1, [], 1), (11, .if_icmp .ne 8, 3, [9], 0), (14, .bipush 81, 2, [], 81), (16, .goto 5, 3, [10], 0), (19, .bipush 17, 2, [], 17), (21, .ireturn, 1, [0, 0, 0], 0)]
/-- X12_isOf -/
def cd_186 : List PEn := [(0, .iload_n 2, 1, [], 0), (1, .iconst 0, 1, [], 0), (2, .aload_n 0, 1, [], 0), (3, .getfield 7, 3, [11, 0], 0), (6, .iload_n 1, 1, [], 0), (7, .iaload, 1, [], 0), (8, .iconst 1, 1, [], 1), (9, .isub, 1, [], 0), (10, .invokestatic 108, 3, [161, 3], 0), (13, .ireturn, 1, [1, 0, 0], 0)]
/-- X12_text -/
def cd_187 : List PEn := [(0, .aload_n 0, 1, [], 0), (1, .aload_n 0, 1, [], 0), (2, .getfield 7, 3, [11, 0], 0), (5, .iconst 4, 1, [], 4), (6, .iaload, 1, [], 0), (7, .putfield 53, 3, [11, 2, 0, 0], 0), (10, .aload_n 0, 1, [], 0), (11, .getfield 7, 3, [11, 0], 0), (14, .iconst 4, 1, [], 4), (15, .iconst 0, 1, [], 0), (16, .iastore, 1, [], 0), (17, .aload_n 0, 1, [], 0), (18, .getfield 7, 3, [11, 0], 0), (21, .iconst 5, 1, [], 5), (22, .iconst 0, 1, [], 0), (23, .iastore, 1, [], 0), (24, .aload_n 0, 1, [], 0), (25, .getfield 7, 3, [11, 0], 0), (28, .bipush 6, 2, [], 6), (30, .iconst (-1), 1, [], -1), (31, .iastore, 1, [], 0), (32, .iload_n 1, 1, [], 0), (33, .iconst 0, 1, [], 0), (34, .iconst 2, 1, [], 2), (35, .invokestatic 108, 3, [161, 3], 0), (38, .ifCond .eq 30, 3, [41], 0), (41, .iload_n 2, 1, [], 0), (42, .iconst (-1), 1, [], -1), (43, .if_icmp .ne 16, 3, [36], 0), (46, .aload_n 0, 1, [], 0), (47, .getfield 7, 3, [11, 0], 0), (50, .iload_n 1, 1, [], 0), (51, .iaload, 1, [], 0), (52, .iconst 2, 1, [], 2), (53, .if_icmp .lt 18, 3, [43], 0), (56, .goto 12, 3, [41], 0), (59, .aload_n 0, 1, [], 0), (60, .iload_n 1, 1, [], 0), (61, .iload_n 2, 1, [], 0), (62, .invokevirtual 150, 3, [186, 2, 11], 0), (65, .ifCond .ne 6, 3, [43], 0), (68, .bipush (-2), 2, [], -2), (70, .ireturn, 1, [0, 0, 0], 0), (71, .aload_n 0, 1, [], 0), (72, .iconst 0, 1, [], 0), (73, .putfield 67, 3, [11, 3, 0, 0], 0), (76, .aload_n 0, 1, [], 0), (77, .iconst 0, 1, [], 0), (78, .putfield 101, 3, [11, 8, 1, 0], 0), (81, .aload_n 0, 1, [], 0), (82, .iconst (-1), 1, [], -1), (83, .putfield 123, 3, [11, 9, 0, 0], 0), (86, .iconst 0, 1, [], 0), (87, .istore_n 3, 1, [], 0), (88, .iload_n 3, 1, [], 0), (89, .bipush 81, 2, [], 81), (91, .if_icmp .ge 16, 3, [64], 0), (94, .aload_n 0, 1, [], 0), (95, .getfield 17, 3, [11, 10], 0), (98, .iload_n 3, 1, [], 0), (99, .iconst 0, 1, [], 0), (100, .iastore, 1, [], 0), (101, .iinc 3 1, 3, [], 0), (104, .goto (-16), 3, [54], 0), (107, .iload_n 1, 1, [], 0), (108, .ifCond .ne 19, 3, [76], 0), (111, .aload_n 0, 1, [], 0), (112, .getfield 17, 3, [11, 10], 0), (115, .iconst 0, 1, [], 0), (116, .bipush 10, 2, [], 10), (118, .iastore, 1, [], 0), (119, .aload_n 0, 1, [], 0), (120, .getfield 17, 3, [11, 10], 0), (123, .iconst 1, 1, [], 1), (124, .bipush 10, 2, [], 10), (126, .iastore, 1, [], 0), (127, .aload_n 0, 1, [], 0), (128, .invokevirtual 116, 3, [170, 0, 11], 0), (131, .aload_n 0, 1, [], 0), (132, .getfield 101, 3, [11, 8], 0), (135, .ifCond .ne 58, 3, [95], 0), (138, .aload_n 0, 1, [], 0), (139, .getfield 77, 3, [11, 5], 0), (142, .ifCond .eq 51, 3, [95], 0), (145, .iload_n 1, 1, [], 0), (146, .lookupswitch 40 #[(0, 26), (1, 33)], 26, [92, 86, 89], 0), (172, .aload_n 0, 1, [], 0), (173, .invokevirtual 154, 3, [180, 0, 11], 0), (176, .goto (-45), 3, [78], 0), (179, .aload_n 0, 1, [], 0), (180, .invokevirtual 157, 3, [182, 0, 11], 0), (183, .goto (-52), 3, [78], 0), (186, .aload_n 0, 1, [], 0), (187, .invokevirtual 160, 3, [183, 0, 11], 0), (190, .goto (-59), 3, [78], 0), (193, .iload_n 1, 1, [], 0), (194, .ifCond .ne 34, 3, [114], 0), (197, .aload_n 0, 1, [], 0), (198, .getfield 7, 3, [11, 0], 0), (201, .iconst 5, 1, [], 5), (202, .iaload, 1, [], 0), (203, .ifCond .ne 25, 3, [114], 0), (206, .aload_n 0, 1, [], 0), (207, .getfield 123, 3, [11, 9], 0), (210, .aload_n 0, 1, [], 0), (211, .getfield 17, 3, [11, 10], 0), (214, .iconst 2, 1, [], 2), (215, .iaload, 1, [], 0), (216, .if_icmp .lt 12, 3, [114], 0), (219, .aload_n 0, 1, [], 0), (220, .iconst 4, 1, [], 4), (221, .aload_n 0, 1, [], 0), (222, .getfield 74, 3, [11, 4], 0), (225, .invokevirtual 112, 3, [172, 2, 11], 0), (228, .aload_n 0, 1, [], 0), (229, .getfield 7, 3, [11, 0], 0), (232, .iconst 5, 1, [], 5), (233, .iaload, 1, [], 0), (234, .ifCond .eq 5, 3, [121], 0), (237, .iconst (-1), 1, [], -1), (238, .ireturn, 1, [0, 0, 0], 0), (239, .iload_n 2, 1, [], 0), (240, .iconst (-1), 1, [], -1), (241, .if_icmp .ne 12, 3, [129], 0), (244, .aload_n 0, 1, [], 0), (245, .getfield 7, 3, [11, 0], 0), (248, .iload_n 1, 1, [], 0), (249, .iaload, 1, [], 0), (250, .goto 4, 3, [130], 0), (253, .iload_n 2, 1, [], 0), (254, .istore_n 3, 1, [], 0), (255, .iload_n 2, 1, [], 0), (256, .iconst (-1), 1, [], -1), (257, .if_icmp .ne 13, 3, [142], 0), (260, .aload_n 0, 1, [], 0), (261, .getfield 7, 3, [11, 0], 0), (264, .iload_n 1, 1, [], 0), (265, .dup2, 1, [], 0), (266, .iaload, 1, [], 0), (267, .iconst 1, 1, [], 1), (268, .iadd, 1, [], 0), (269, .iastore, 1, [], 0), (270, .iconst 0, 1, [], 0), (271, .istore 4, 2, [], 0), (273, .iload 4, 2, [], 0), (275, .iload_n 1, 1, [], 0), (276, .invokestatic 163, 3, [185, 1], 0), (279, .if_icmp .ge 29, 3, [162], 0), (282, .aload_n 0, 1, [], 0), (283, .getfield 7, 3, [11, 0], 0), (286, .iload_n 1, 1, [], 0), (287, .iload_n 3, 1, [], 0), (288, .invokestatic 166, 3, [184, 2], 0), (291, .iload 4, 2, [], 0), (293, .iadd, 1, [], 0), (294, .aload_n 0, 1, [], 0), (295, .getfield 17, 3, [11, 10], 0), (298, .iload 4, 2, [], 0), (300, .iaload, 1, [], 0), (301, .iastore, 1, [], 0), (302, .iinc 4 1, 3, [], 0), (305, .goto (-32), 3, [144], 0), (308, .iload_n 3, 1, [], 0), (309, .ireturn, 1, [0, 0, 0], 0)]
/-- X12_fault -/
def cd_188 : List PEn := [(0, .iload_n 1, 1, [], 0), (1, .ifCond .ne 12, 3, [7], 0), (4, .aload_n 0, 1, [], 0), (5, .getfield 7, 3, [11, 0], 0), (8, .iconst 5, 1, [], 5), (9, .iaload, 1, [], 0), (10, .goto 19, 3, [16], 0), (13, .iload_n 1, 1, [], 0), (14, .iconst 1, 1, [], 1), (15, .if_icmp .ne 13, 3, [15], 0), (18, .aload_n 0, 1, [], 0), (19, .getfield 7, 3, [11, 0], 0), (22, .bipush 6, 2, [], 6), (24, .iaload, 1, [], 0), (25, .goto 4, 3, [16], 0), (28, .iconst (-1), 1, [], -1), (29, .ireturn, 1, [0, 0, 0], 0)]
/-- X12_isParish -/
def cd_189 : List PEn := [(0, .aload_n 0, 1, [], 0), (1, .iconst 0, 1, [], 0), (2, .iload_n 1, 1, [], 0), (3, .invokevirtual 150, 3, [186, 2, 11], 0), (6, .ifCond .ne 5, 3, [7], 0), (9, .iconst 0, 1, [], 0), (10, .ireturn, 1, [1, 0, 0], 0), (11, .aload_n 0, 1, [], 0), (12, .iconst 0, 1, [], 0), (13, .iload_n 1, 1, [], 0), (14, .invokestatic 166, 3, [184, 2], 0), (17, .putfield 169, 3, [11, 11, 0, 0], 0), (20, .aload_n 0, 1, [], 0), (21, .aload_n 0, 1, [], 0), (22, .getfield 7, 3, [11, 0], 0), (25, .aload_n 0, 1, [], 0), (26, .getfield 169, 3, [11, 11], 0), (29, .iconst 2, 1, [], 2), (30, .iadd, 1, [], 0), (31, .iaload, 1, [], 0), (32, .putfield 172, 3, [11, 12, 0, 0], 0), (35, .aload_n 0, 1, [], 0), (36, .aload_n 0, 1, [], 0), (37, .getfield 7, 3, [11, 0], 0), (40, .aload_n 0, 1, [], 0), (41, .getfield 169, 3, [11, 11], 0), (44, .iconst 3, 1, [], 3), (45, .iadd, 1, [], 0), (46, .iaload, 1, [], 0), (47, .putfield 175, 3, [11, 13, 0, 0], 0), (50, .aload_n 0, 1, [], 0), (51, .invokevirtual 178, 3, [201, 0, 11], 0), (54, .iconst 1, 1, [], 1), (55, .ireturn, 1, [1, 0, 0], 0)]
/-- X12_isHouse -/
def cd_190 : List PEn := [(0, .iload_n 1, 1, [], 0), (1, .iconst 0, 1, [], 0), (2, .aload_n 0, 1, [], 0), (3, .getfield 172, 3, [11, 12], 0), (6, .iconst 1, 1, [], 1), (7, .isub, 1, [], 0), (8, .invokestatic 108, 3, [161, 3], 0), (11, .ireturn, 1, [1, 0, 0], 0)]
/-- X12_everyHouse -/
def cd_191 : List PEn := [(0, .iconst 1, 1, [], 1), (1, .aload_n 0, 1, [], 0), (2, .getfield 172, 3, [11, 12], 0), (5, .ishl, 1, [], 0), (6, .iconst 1, 1, [], 1), (7, .isub, 1, [], 0), (8, .ireturn, 1, [0, 0, 0], 0)]
/-- X12_goodsTold -/
def cd_192 : List PEn := [(0, .aload_n 0, 1, [], 0), (1, .getfield 7, 3, [11, 0], 0), (4, .aload_n 0, 1, [], 0), (5, .getfield 169, 3, [11, 11], 0), (8, .iconst 5, 1, [], 5), (9, .iadd, 1, [], 0), (10, .iconst 2, 1, [], 2), (11, .iload_n 1, 1, [], 0), (12, .imul, 1, [], 0), (13, .iadd, 1, [], 0), (14, .iaload, 1, [], 0), (15, .ireturn, 1, [0, 0, 0], 0)]
/-- X12_yieldOf -/
def cd_193 : List PEn := [(0, .aload_n 0, 1, [], 0), (1, .getfield 7, 3, [11, 0], 0), (4, .aload_n 0, 1, [], 0), (5, .getfield 169, 3, [11, 11], 0), (8, .iconst 5, 1, [], 5), (9, .iadd, 1, [], 0), (10, .iconst 1, 1, [], 1), (11, .iadd, 1, [], 0), (12, .iconst 2, 1, [], 2), (13, .iload_n 1, 1, [], 0), (14, .imul, 1, [], 0), (15, .iadd, 1, [], 0), (16, .iaload, 1, [], 0), (17, .ireturn, 1, [0, 0, 0], 0)]
/-- X12_ruleAt -/
def cd_194 : List PEn := [(0, .aload_n 0, 1, [], 0), (1, .getfield 7, 3, [11, 0], 0), (4, .aload_n 0, 1, [], 0), (5, .getfield 169, 3, [11, 11], 0), (8, .bipush 19, 2, [], 19), (10, .iadd, 1, [], 0), (11, .iconst 3, 1, [], 3), (12, .iload_n 1, 1, [], 0), (13, .imul, 1, [], 0), (14, .iadd, 1, [], 0), (15, .iload_n 2, 1, [], 0), (16, .iadd, 1, [], 0), (17, .iaload, 1, [], 0), (18, .ireturn, 1, [0, 0, 0], 0)]
/-- X12_bitsOf -/
def cd_195 : List PEn := [(0, .iconst 0, 1, [], 0), (1, .istore_n 1, 1, [], 0), (2, .iconst 0, 1, [], 0), (3, .istore_n 2, 1, [], 0), (4, .iload_n 2, 1, [], 0), (5, .bipush 12, 2, [], 12), (7, .if_icmp .ge 17, 3, [17], 0), (10, .iload_n 1, 1, [], 0), (11, .iload_n 0, 1, [], 0), (12, .iload_n 2, 1, [], 0), (13, .ishr, 1, [], 0), (14, .iconst 1, 1, [], 1), (15, .iand, 1, [], 0), (16, .iadd, 1, [], 0), (17, .istore_n 1, 1, [], 0), (18, .iinc 2 1, 3, [], 0), (21, .goto (-17), 3, [4], 0), (24, .iload_n 1, 1, [], 0), (25, .ireturn, 1, [0, 0, 0], 0)]
/-- X12_ruleHolds -/
def cd_196 : List PEn := [(0, .aload_n 0, 1, [], 0), (1, .getfield 181, 3, [11, 17], 0), (4, .iload_n 1, 1, [], 0), (5, .ishr, 1, [], 0), (6, .iconst 1, 1, [], 1), (7, .iand, 1, [], 0), (8, .iconst 1, 1, [], 1), (9, .if_icmp .eq 16, 3, [17], 0), (12, .iload_n 2, 1, [], 0), (13, .aload_n 0, 1, [], 0), (14, .iload_n 1, 1, [], 0), (15, .iconst 1, 1, [], 1), (16, .invokevirtual 184, 3, [194, 2, 11], 0), (19, .ishr, 1, [], 0), (20, .iconst 1, 1, [], 1), (21, .iand, 1, [], 0), (22, .ifCond .ne 5, 3, [19], 0), (25, .iconst 0, 1, [], 0), (26, .ireturn, 1, [1, 0, 0], 0), (27, .aload_n 0, 1, [], 0), (28, .iload_n 1, 1, [], 0), (29, .iconst 2, 1, [], 2), (30, .invokevirtual 184, 3, [194, 2, 11], 0), (33, .iconst (-1), 1, [], -1), (34, .if_icmp .eq 17, 3, [35], 0), (37, .iload_n 2, 1, [], 0), (38, .aload_n 0, 1, [], 0), (39, .iload_n 1, 1, [], 0), (40, .iconst 2, 1, [], 2), (41, .invokevirtual 184, 3, [194, 2, 11], 0), (44, .ishr, 1, [], 0), (45, .iconst 1, 1, [], 1), (46, .iand, 1, [], 0), (47, .iconst 1, 1, [], 1), (48, .if_icmp .ne 7, 3, [37], 0), (51, .iconst 1, 1, [], 1), (52, .goto 4, 3, [38], 0), (55, .iconst 0, 1, [], 0), (56, .ireturn, 1, [1, 0, 0], 0)]
/-- X12_exemptBy -/
def cd_197 : List PEn := [(0, .iload_n 1, 1, [], 0), (1, .istore_n 2, 1, [], 0), (2, .iconst (-1), 1, [], -1), (3, .istore_n 3, 1, [], 0), (4, .iload_n 3, 1, [], 0), (5, .iload_n 2, 1, [], 0), (6, .if_icmp .eq 48, 3, [32], 0), (9, .iload_n 2, 1, [], 0), (10, .istore_n 3, 1, [], 0), (11, .iconst 0, 1, [], 0), (12, .istore 4, 2, [], 0), (14, .iload 4, 2, [], 0), (16, .aload_n 0, 1, [], 0), (17, .getfield 175, 3, [11, 13], 0), (20, .if_icmp .ge 31, 3, [31], 0), (23, .aload_n 0, 1, [], 0), (24, .iload 4, 2, [], 0), (26, .iload_n 3, 1, [], 0), (27, .invokevirtual 187, 3, [196, 2, 11], 0), (30, .ifCond .eq 15, 3, [29], 0), (33, .iload_n 2, 1, [], 0), (34, .iconst 1, 1, [], 1), (35, .aload_n 0, 1, [], 0), (36, .iload 4, 2, [], 0), (38, .iconst 0, 1, [], 0), (39, .invokevirtual 184, 3, [194, 2, 11], 0), (42, .ishl, 1, [], 0), (43, .ior, 1, [], 0), (44, .istore_n 2, 1, [], 0), (45, .iinc 4 1, 3, [], 0), (48, .goto (-34), 3, [11], 0), (51, .goto (-47), 3, [4], 0), (54, .iload_n 2, 1, [], 0), (55, .ireturn, 1, [0, 0, 0], 0)]
/-- X12_isExempt -/
def cd_198 : List PEn := [(0, .aload_n 0, 1, [], 0), (1, .getfield 190, 3, [11, 18], 0), (4, .iload_n 1, 1, [], 0), (5, .ishr, 1, [], 0), (6, .iconst 1, 1, [], 1), (7, .iand, 1, [], 0), (8, .iconst 1, 1, [], 1), (9, .if_icmp .ne 7, 3, [10], 0), (12, .iconst 1, 1, [], 1), (13, .goto 4, 3, [11], 0), (16, .iconst 0, 1, [], 0), (17, .ireturn, 1, [1, 0, 0], 0)]
/-- X12_shares -/
def cd_199 : List PEn := [(0, .aload_n 0, 1, [], 0), (1, .aload_n 0, 1, [], 0), (2, .aload_n 0, 1, [], 0), (3, .getfield 193, 3, [11, 16], 0), (6, .invokevirtual 196, 3, [197, 1, 11], 0), (9, .putfield 190, 3, [11, 18, 0, 0], 0), (12, .iconst 0, 1, [], 0), (13, .istore_n 1, 1, [], 0), (14, .iconst 0, 1, [], 0), (15, .istore_n 2, 1, [], 0), (16, .iload_n 2, 1, [], 0), (17, .aload_n 0, 1, [], 0), (18, .getfield 172, 3, [11, 12], 0), (21, .if_icmp .ge 30, 3, [29], 0), (24, .iload_n 1, 1, [], 0), (25, .aload_n 0, 1, [], 0), (26, .iload_n 2, 1, [], 0), (27, .invokevirtual 199, 3, [198, 1, 11], 0), (30, .ifCond .eq 7, 3, [21], 0), (33, .iconst 0, 1, [], 0), (34, .goto 9, 3, [25], 0), (37, .aload_n 0, 1, [], 0), (38, .getfield 20, 3, [11, 25], 0), (41, .iload_n 2, 1, [], 0), (42, .iaload, 1, [], 0), (43, .iadd, 1, [], 0), (44, .istore_n 1, 1, [], 0), (45, .iinc 2 1, 3, [], 0), (48, .goto (-32), 3, [10], 0), (51, .iload_n 1, 1, [], 0), (52, .ifCond .ne 7, 3, [33], 0), (55, .iconst 0, 1, [], 0), (56, .goto 7, 3, [35], 0), (59, .aload_n 0, 1, [], 0), (60, .getfield 202, 3, [11, 14], 0), (63, .istore_n 2, 1, [], 0), (64, .iconst 0, 1, [], 0), (65, .istore_n 3, 1, [], 0), (66, .iload_n 3, 1, [], 0), (67, .aload_n 0, 1, [], 0), (68, .getfield 172, 3, [11, 12], 0), (71, .if_icmp .ge 93, 3, [95], 0), (74, .iload_n 1, 1, [], 0), (75, .ifCond .le 15, 3, [50], 0), (78, .aload_n 0, 1, [], 0), (79, .iload_n 3, 1, [], 0), (80, .invokevirtual 199, 3, [198, 1, 11], 0), (83, .ifCond .ne 7, 3, [50], 0), (86, .iconst 1, 1, [], 1), (87, .goto 4, 3, [51], 0), (90, .iconst 0, 1, [], 0), (91, .istore 4, 2, [], 0), (93, .aload_n 0, 1, [], 0), (94, .getfield 23, 3, [11, 26], 0), (97, .iload_n 3, 1, [], 0), (98, .iload 4, 2, [], 0), (100, .ifCond .eq 19, 3, [67], 0), (103, .aload_n 0, 1, [], 0), (104, .getfield 202, 3, [11, 14], 0), (107, .aload_n 0, 1, [], 0), (108, .getfield 20, 3, [11, 25], 0), (111, .iload_n 3, 1, [], 0), (112, .iaload, 1, [], 0), (113, .imul, 1, [], 0), (114, .iload_n 1, 1, [], 0), (115, .idiv, 1, [], 0), (116, .goto 4, 3, [68], 0), (119, .iconst 0, 1, [], 0), (120, .iastore, 1, [], 0), (121, .aload_n 0, 1, [], 0), (122, .getfield 26, 3, [11, 27], 0), (125, .iload_n 3, 1, [], 0), (126, .iload 4, 2, [], 0), (128, .ifCond .eq 19, 3, [84], 0), (131, .aload_n 0, 1, [], 0), (132, .getfield 202, 3, [11, 14], 0), (135, .aload_n 0, 1, [], 0), (136, .getfield 20, 3, [11, 25], 0), (139, .iload_n 3, 1, [], 0), (140, .iaload, 1, [], 0), (141, .imul, 1, [], 0), (142, .iload_n 1, 1, [], 0), (143, .irem, 1, [], 0), (144, .goto 4, 3, [85], 0), (147, .iconst (-1), 1, [], -1), (148, .iastore, 1, [], 0), (149, .iload_n 2, 1, [], 0), (150, .aload_n 0, 1, [], 0), (151, .getfield 23, 3, [11, 26], 0), (154, .iload_n 3, 1, [], 0), (155, .iaload, 1, [], 0), (156, .isub, 1, [], 0), (157, .istore_n 2, 1, [], 0), (158, .iinc 3 1, 3, [], 0), (161, .goto (-95), 3, [38], 0), (164, .iload_n 2, 1, [], 0), (165, .ifCond .le 65, 3, [133], 0), (168, .iconst 0, 1, [], 0), (169, .istore_n 3, 1, [], 0), (170, .iconst 1, 1, [], 1), (171, .istore 4, 2, [], 0), (173, .iload 4, 2, [], 0), (175, .aload_n 0, 1, [], 0), (176, .getfield 172, 3, [11, 12], 0), (179, .if_icmp .ge 28, 3, [118], 0), (182, .aload_n 0, 1, [], 0), (183, .getfield 26, 3, [11, 27], 0), (186, .iload 4, 2, [], 0), (188, .iaload, 1, [], 0), (189, .aload_n 0, 1, [], 0), (190, .getfield 26, 3, [11, 27], 0), (193, .iload_n 3, 1, [], 0), (194, .iaload, 1, [], 0), (195, .if_icmp .le 6, 3, [116], 0), (198, .iload 4, 2, [], 0), (200, .istore_n 3, 1, [], 0), (201, .iinc 4 1, 3, [], 0), (204, .goto (-31), 3, [101], 0), (207, .aload_n 0, 1, [], 0), (208, .getfield 23, 3, [11, 26], 0), (211, .iload_n 3, 1, [], 0), (212, .dup2, 1, [], 0), (213, .iaload, 1, [], 0), (214, .iconst 1, 1, [], 1), (215, .iadd, 1, [], 0), (216, .iastore, 1, [], 0), (217, .aload_n 0, 1, [], 0), (218, .getfield 26, 3, [11, 27], 0), (221, .iload_n 3, 1, [], 0), (222, .iconst (-1), 1, [], -1), (223, .iastore, 1, [], 0), (224, .iinc 2 (-1), 3, [], 0), (227, .goto (-63), 3, [95], 0), (230, .return_, 1, [1, 0, 0], 0)]
/-- X12_taxTogether -/
def cd_200 : List PEn := [(0, .iconst 0, 1, [], 0), (1, .istore_n 1, 1, [], 0), (2, .iconst 0, 1, [], 0), (3, .istore_n 2, 1, [], 0), (4, .iload_n 2, 1, [], 0), (5, .aload_n 0, 1, [], 0), (6, .getfield 172, 3, [11, 12], 0), (9, .if_icmp .ge 18, 3, [17], 0), (12, .iload_n 1, 1, [], 0), (13, .aload_n 0, 1, [], 0), (14, .getfield 23, 3, [11, 26], 0), (17, .iload_n 2, 1, [], 0), (18, .iaload, 1, [], 0), (19, .iadd, 1, [], 0), (20, .istore_n 1, 1, [], 0), (21, .iinc 2 1, 3, [], 0), (24, .goto (-20), 3, [4], 0), (27, .iload_n 1, 1, [], 0), (28, .ireturn, 1, [0, 0, 0], 0)]
/-- X12_begins -/
def cd_201 : List PEn := [(0, .aload_n 0, 1, [], 0), (1, .aload_n 0, 1, [], 0), (2, .getfield 7, 3, [11, 0], 0), (5, .aload_n 0, 1, [], 0), (6, .getfield 169, 3, [11, 11], 0), (9, .iaload, 1, [], 0), (10, .putfield 202, 3, [11, 14, 0, 0], 0), (13, .aload_n 0, 1, [], 0), (14, .aload_n 0, 1, [], 0), (15, .getfield 7, 3, [11, 0], 0), (18, .aload_n 0, 1, [], 0), (19, .getfield 169, 3, [11, 11], 0), (22, .iconst 1, 1, [], 1), (23, .iadd, 1, [], 0), (24, .iaload, 1, [], 0), (25, .putfield 205, 3, [11, 15, 0, 0], 0), (28, .aload_n 0, 1, [], 0), (29, .aload_n 0, 1, [], 0), (30, .getfield 7, 3, [11, 0], 0), (33, .aload_n 0, 1, [], 0), (34, .getfield 169, 3, [11, 11], 0), (37, .iconst 4, 1, [], 4), (38, .iadd, 1, [], 0), (39, .iaload, 1, [], 0), (40, .putfield 193, 3, [11, 16, 0, 0], 0), (43, .aload_n 0, 1, [], 0), (44, .iconst 0, 1, [], 0), (45, .putfield 181, 3, [11, 17, 0, 0], 0), (48, .aload_n 0, 1, [], 0), (49, .iconst 0, 1, [], 0), (50, .putfield 208, 3, [11, 19, 0, 0], 0), (53, .aload_n 0, 1, [], 0), (54, .iconst 0, 1, [], 0), (55, .putfield 211, 3, [11, 20, 0, 0], 0), (58, .aload_n 0, 1, [], 0), (59, .iconst 0, 1, [], 0), (60, .putfield 214, 3, [11, 21, 0, 0], 0), (63, .aload_n 0, 1, [], 0), (64, .iconst 0, 1, [], 0), (65, .putfield 217, 3, [11, 22, 0, 0], 0), (68, .iconst 0, 1, [], 0), (69, .istore_n 1, 1, [], 0), (70, .iload_n 1, 1, [], 0), (71, .bipush 7, 2, [], 7), (73, .if_icmp .ge 20, 3, [54], 0), (76, .aload_n 0, 1, [], 0), (77, .getfield 20, 3, [11, 25], 0), (80, .iload_n 1, 1, [], 0), (81, .aload_n 0, 1, [], 0), (82, .iload_n 1, 1, [], 0), (83, .invokevirtual 220, 3, [192, 1, 11], 0), (86, .iastore, 1, [], 0), (87, .iinc 1 1, 3, [], 0), (90, .goto (-20), 3, [42], 0), (93, .aload_n 0, 1, [], 0), (94, .invokevirtual 223, 3, [199, 0, 11], 0), (97, .return_, 1, [1, 0, 0], 0)]
/-- X12_goesYear -/
def cd_202 : List PEn := [(0, .aload_n 0, 1, [], 0), (1, .iconst 0, 1, [], 0), (2, .putfield 226, 3, [11, 23, 0, 0], 0), (5, .aload_n 0, 1, [], 0), (6, .iconst (-1), 1, [], -1), (7, .putfield 229, 3, [11, 24, 0, 0], 0), (10, .aload_n 0, 1, [], 0), (11, .dup, 1, [], 0), (12, .getfield 214, 3, [11, 21], 0), (15, .aload_n 0, 1, [], 0), (16, .getfield 202, 3, [11, 14], 0), (19, .aload_n 0, 1, [], 0), (20, .invokevirtual 232, 3, [200, 0, 11], 0), (23, .isub, 1, [], 0), (24, .iadd, 1, [], 0), (25, .putfield 214, 3, [11, 21, 0, 0], 0), (28, .iconst 0, 1, [], 0), (29, .istore_n 1, 1, [], 0), (30, .iload_n 1, 1, [], 0), (31, .aload_n 0, 1, [], 0), (32, .getfield 172, 3, [11, 12], 0), (35, .if_icmp .ge 134, 3, [101], 0), (38, .aload_n 0, 1, [], 0), (39, .getfield 23, 3, [11, 26], 0), (42, .iload_n 1, 1, [], 0), (43, .iaload, 1, [], 0), (44, .aload_n 0, 1, [], 0), (45, .getfield 20, 3, [11, 25], 0), (48, .iload_n 1, 1, [], 0), (49, .iaload, 1, [], 0), (50, .if_icmp .le 12, 3, [36], 0), (53, .aload_n 0, 1, [], 0), (54, .getfield 20, 3, [11, 25], 0), (57, .iload_n 1, 1, [], 0), (58, .iaload, 1, [], 0), (59, .goto 9, 3, [40], 0), (62, .aload_n 0, 1, [], 0), (63, .getfield 23, 3, [11, 26], 0), (66, .iload_n 1, 1, [], 0), (67, .iaload, 1, [], 0), (68, .istore_n 2, 1, [], 0), (69, .iload_n 2, 1, [], 0), (70, .aload_n 0, 1, [], 0), (71, .getfield 23, 3, [11, 26], 0), (74, .iload_n 1, 1, [], 0), (75, .iaload, 1, [], 0), (76, .if_icmp .ge 16, 3, [54], 0), (79, .aload_n 0, 1, [], 0), (80, .getfield 229, 3, [11, 24], 0), (83, .iconst (-1), 1, [], -1), (84, .if_icmp .ne 8, 3, [54], 0), (87, .aload_n 0, 1, [], 0), (88, .iload_n 1, 1, [], 0), (89, .putfield 229, 3, [11, 24, 0, 0], 0), (92, .aload_n 0, 1, [], 0), (93, .dup, 1, [], 0), (94, .getfield 214, 3, [11, 21], 0), (97, .aload_n 0, 1, [], 0), (98, .getfield 23, 3, [11, 26], 0), (101, .iload_n 1, 1, [], 0), (102, .iaload, 1, [], 0), (103, .iload_n 2, 1, [], 0), (104, .isub, 1, [], 0), (105, .iadd, 1, [], 0), (106, .putfield 214, 3, [11, 21, 0, 0], 0), (109, .aload_n 0, 1, [], 0), (110, .dup, 1, [], 0), (111, .getfield 226, 3, [11, 23], 0), (114, .iload_n 2, 1, [], 0), (115, .iadd, 1, [], 0), (116, .putfield 226, 3, [11, 23, 0, 0], 0), (119, .aload_n 0, 1, [], 0), (120, .getfield 20, 3, [11, 25], 0), (123, .iload_n 1, 1, [], 0), (124, .aload_n 0, 1, [], 0), (125, .getfield 20, 3, [11, 25], 0), (128, .iload_n 1, 1, [], 0), (129, .iaload, 1, [], 0), (130, .iload_n 2, 1, [], 0), (131, .isub, 1, [], 0), (132, .aload_n 0, 1, [], 0), (133, .iload_n 1, 1, [], 0), (134, .invokevirtual 235, 3, [193, 1, 11], 0), (137, .iadd, 1, [], 0), (138, .bipush 99, 2, [], 99), (140, .if_icmp .le 8, 3, [88], 0), (143, .bipush 99, 2, [], 99), (145, .goto 17, 3, [98], 0), (148, .aload_n 0, 1, [], 0), (149, .getfield 20, 3, [11, 25], 0), (152, .iload_n 1, 1, [], 0), (153, .iaload, 1, [], 0), (154, .iload_n 2, 1, [], 0), (155, .isub, 1, [], 0), (156, .aload_n 0, 1, [], 0), (157, .iload_n 1, 1, [], 0), (158, .invokevirtual 235, 3, [193, 1, 11], 0), (161, .iadd, 1, [], 0), (162, .iastore, 1, [], 0), (163, .iinc 1 1, 3, [], 0), (166, .goto (-136), 3, [18], 0), (169, .aload_n 0, 1, [], 0), (170, .dup, 1, [], 0), (171, .getfield 211, 3, [11, 20], 0), (174, .aload_n 0, 1, [], 0), (175, .getfield 226, 3, [11, 23], 0), (178, .iadd, 1, [], 0), (179, .putfield 211, 3, [11, 20, 0, 0], 0), (182, .aload_n 0, 1, [], 0), (183, .dup, 1, [], 0), (184, .getfield 208, 3, [11, 19], 0), (187, .iconst 1, 1, [], 1), (188, .iadd, 1, [], 0), (189, .putfield 208, 3, [11, 19, 0, 0], 0), (192, .aload_n 0, 1, [], 0), (193, .invokevirtual 223, 3, [199, 0, 11], 0), (196, .return_, 1, [1, 0, 0], 0)]
/-- X12_canBuy -/
def cd_203 : List PEn := [(0, .aload_n 0, 1, [], 0), (1, .getfield 193, 3, [11, 16], 0), (4, .iload_n 1, 1, [], 0), (5, .ishr, 1, [], 0), (6, .iconst 1, 1, [], 1), (7, .iand, 1, [], 0), (8, .ifCond .ne 20, 3, [16], 0), (11, .aload_n 0, 1, [], 0), (12, .getfield 20, 3, [11, 25], 0), (15, .iload_n 1, 1, [], 0), (16, .iaload, 1, [], 0), (17, .aload_n 0, 1, [], 0), (18, .getfield 205, 3, [11, 15], 0), (21, .if_icmp .lt 7, 3, [16], 0), (24, .iconst 1, 1, [], 1), (25, .goto 4, 3, [17], 0), (28, .iconst 0, 1, [], 0), (29, .ireturn, 1, [1, 0, 0], 0)]
/-- X12_buysNow -/
def cd_204 : List PEn := [(0, .aload_n 0, 1, [], 0), (1, .getfield 20, 3, [11, 25], 0), (4, .iload_n 1, 1, [], 0), (5, .dup2, 1, [], 0), (6, .iaload, 1, [], 0), (7, .aload_n 0, 1, [], 0), (8, .getfield 205, 3, [11, 15], 0), (11, .isub, 1, [], 0), (12, .iastore, 1, [], 0), (13, .aload_n 0, 1, [], 0), (14, .dup, 1, [], 0), (15, .getfield 193, 3, [11, 16], 0), (18, .iconst 1, 1, [], 1), (19, .iload_n 1, 1, [], 0), (20, .ishl, 1, [], 0), (21, .ior, 1, [], 0), (22, .putfield 193, 3, [11, 16, 0, 0], 0), (25, .aload_n 0, 1, [], 0), (26, .invokevirtual 223, 3, [199, 0, 11], 0), (29, .return_, 1, [1, 0, 0], 0)]
/-- X12_parish -/
def cd_205 : List PEn := [(0, .aload_n 0, 1, [], 0), (1, .iload_n 1, 1, [], 0), (2, .invokevirtual 238, 3, [189, 1, 11], 0), (5, .ifCond .eq 7, 3, [6], 0), (8, .iload_n 2, 1, [], 0), (9, .ifCond .ge 5, 3, [8], 0), (12, .iconst (-1), 1, [], -1), (13, .ireturn, 1, [0, 0, 0], 0), (14, .iload_n 2, 1, [], 0), (15, .iconst 0, 1, [], 0), (16, .iconst 4, 1, [], 4), (17, .invokestatic 108, 3, [161, 3], 0), (20, .ifCond .eq 15, 3, [21], 0), (23, .aload_n 0, 1, [], 0), (24, .getfield 7, 3, [11, 0], 0), (27, .aload_n 0, 1, [], 0), (28, .getfield 169, 3, [11, 11], 0), (31, .iload_n 2, 1, [], 0), (32, .iadd, 1, [], 0), (33, .iaload, 1, [], 0), (34, .ireturn, 1, [0, 0, 0], 0), (35, .iload_n 2, 1, [], 0), (36, .iconst 5, 1, [], 5), (37, .if_icmp .ne 8, 3, [27], 0), (40, .aload_n 0, 1, [], 0), (41, .getfield 190, 3, [11, 18], 0), (44, .ireturn, 1, [0, 0, 0], 0), (45, .iload_n 2, 1, [], 0), (46, .bipush 6, 2, [], 6), (48, .if_icmp .ne 13, 3, [36], 0), (51, .aload_n 0, 1, [], 0), (52, .getfield 202, 3, [11, 14], 0), (55, .aload_n 0, 1, [], 0), (56, .invokevirtual 232, 3, [200, 0, 11], 0), (59, .isub, 1, [], 0), (60, .ireturn, 1, [0, 0, 0], 0), (61, .iload_n 2, 1, [], 0), (62, .bipush 10, 2, [], 10), (64, .irem, 1, [], 0), (65, .istore_n 3, 1, [], 0), (66, .iload_n 2, 1, [], 0), (67, .bipush 10, 2, [], 10), (69, .idiv, 1, [], 0), (70, .tableswitch 118 1 6 #[38, 57, 75, 94, 94, 94], 38, [91, 44, 55, 65, 76, 76, 76], 0), (108, .aload_n 0, 1, [], 0), (109, .iload_n 3, 1, [], 0), (110, .invokevirtual 241, 3, [190, 1, 11], 0), (113, .ifCond .eq 12, 3, [53], 0), (116, .aload_n 0, 1, [], 0), (117, .getfield 20, 3, [11, 25], 0), (120, .iload_n 3, 1, [], 0), (121, .iaload, 1, [], 0), (122, .goto 4, 3, [54], 0), (125, .iconst (-1), 1, [], -1), (126, .ireturn, 1, [0, 0, 0], 0), (127, .aload_n 0, 1, [], 0), (128, .iload_n 3, 1, [], 0), (129, .invokevirtual 241, 3, [190, 1, 11], 0), (132, .ifCond .eq 11, 3, [63], 0), (135, .aload_n 0, 1, [], 0), (136, .iload_n 3, 1, [], 0), (137, .invokevirtual 235, 3, [193, 1, 11], 0), (140, .goto 4, 3, [64], 0), (143, .iconst (-1), 1, [], -1), (144, .ireturn, 1, [0, 0, 0], 0), (145, .aload_n 0, 1, [], 0), (146, .iload_n 3, 1, [], 0), (147, .invokevirtual 241, 3, [190, 1, 11], 0), (150, .ifCond .eq 12, 3, [74], 0), (153, .aload_n 0, 1, [], 0), (154, .getfield 23, 3, [11, 26], 0), (157, .iload_n 3, 1, [], 0), (158, .iaload, 1, [], 0), (159, .goto 4, 3, [75], 0), (162, .iconst (-1), 1, [], -1), (163, .ireturn, 1, [0, 0, 0], 0), (164, .iload_n 3, 1, [], 0), (165, .aload_n 0, 1, [], 0), (166, .getfield 175, 3, [11, 13], 0), (169, .if_icmp .ge 17, 3, [89], 0), (172, .aload_n 0, 1, [], 0), (173, .iload_n 3, 1, [], 0), (174, .iload_n 2, 1, [], 0), (175, .bipush 10, 2, [], 10), (177, .idiv, 1, [], 0), (178, .iconst 4, 1, [], 4), (179, .isub, 1, [], 0), (180, .invokevirtual 184, 3, [194, 2, 11], 0), (183, .goto 4, 3, [90], 0), (186, .iconst (-1), 1, [], -1), (187, .ireturn, 1, [0, 0, 0], 0), (188, .iconst (-1), 1, [], -1), (189, .ireturn, 1, [0, 0, 0], 0)]
/-- X12_rushes -/
def cd_206 : List PEn := [(0, .aload_n 0, 1, [], 0), (1, .iconst 0, 1, [], 0), (2, .putfield 244, 3, [11, 29, 0, 0], 0), (5, .aload_n 0, 1, [], 0), (6, .iconst 0, 1, [], 0), (7, .putfield 247, 3, [11, 30, 0, 0], 0), (10, .iconst 1, 1, [], 1), (11, .istore_n 2, 1, [], 0), (12, .iload_n 2, 1, [], 0), (13, .ifCond .eq 103, 3, [66], 0), (16, .iconst 0, 1, [], 0), (17, .istore_n 2, 1, [], 0), (18, .iconst 0, 1, [], 0), (19, .istore_n 3, 1, [], 0), (20, .iload_n 3, 1, [], 0), (21, .aload_n 0, 1, [], 0), (22, .getfield 172, 3, [11, 12], 0), (25, .if_icmp .ge 70, 3, [55], 0), (28, .aload_n 0, 1, [], 0), (29, .iload_n 3, 1, [], 0), (30, .invokevirtual 199, 3, [198, 1, 11], 0), (33, .ifCond .ne 56, 3, [53], 0), (36, .iload_n 1, 1, [], 0), (37, .aload_n 0, 1, [], 0), (38, .getfield 23, 3, [11, 26], 0), (41, .iload_n 3, 1, [], 0), (42, .iaload, 1, [], 0), (43, .imul, 1, [], 0), (44, .aload_n 0, 1, [], 0), (45, .getfield 205, 3, [11, 15], 0), (48, .if_icmp .le 41, 3, [53], 0), (51, .aload_n 0, 1, [], 0), (52, .iload_n 3, 1, [], 0), (53, .invokevirtual 250, 3, [203, 1, 11], 0), (56, .ifCond .ne 6, 3, [36], 0), (59, .goto 30, 3, [53], 0), (62, .aload_n 0, 1, [], 0), (63, .iload_n 3, 1, [], 0), (64, .invokevirtual 253, 3, [204, 1, 11], 0), (67, .aload_n 0, 1, [], 0), (68, .getfield 29, 3, [11, 28], 0), (71, .aload_n 0, 1, [], 0), (72, .getfield 244, 3, [11, 29], 0), (75, .iload_n 3, 1, [], 0), (76, .iastore, 1, [], 0), (77, .aload_n 0, 1, [], 0), (78, .dup, 1, [], 0), (79, .getfield 244, 3, [11, 29], 0), (82, .iconst 1, 1, [], 1), (83, .iadd, 1, [], 0), (84, .putfield 244, 3, [11, 29, 0, 0], 0), (87, .iconst 1, 1, [], 1), (88, .istore_n 2, 1, [], 0), (89, .iinc 3 1, 3, [], 0), (92, .goto (-72), 3, [14], 0), (95, .aload_n 0, 1, [], 0), (96, .dup, 1, [], 0), (97, .getfield 247, 3, [11, 30], 0), (100, .iload_n 2, 1, [], 0), (101, .ifCond .eq 7, 3, [62], 0), (104, .iconst 1, 1, [], 1), (105, .goto 4, 3, [63], 0), (108, .iconst 0, 1, [], 0), (109, .iadd, 1, [], 0), (110, .putfield 247, 3, [11, 30, 0, 0], 0), (113, .goto (-101), 3, [8], 0), (116, .return_, 1, [1, 0, 0], 0)]
/-- X12_rush -/
def cd_207 : List PEn := [(0, .aload_n 0, 1, [], 0), (1, .iload_n 1, 1, [], 0), (2, .invokevirtual 238, 3, [189, 1, 11], 0), (5, .ifCond .eq 13, 3, [9], 0), (8, .iload_n 2, 1, [], 0), (9, .iconst 1, 1, [], 1), (10, .bipush 9, 2, [], 9), (12, .invokestatic 108, 3, [161, 3], 0), (15, .ifCond .ne 5, 3, [11], 0), (18, .iconst (-1), 1, [], -1), (19, .ireturn, 1, [0, 0, 0], 0), (20, .aload_n 0, 1, [], 0), (21, .iload_n 2, 1, [], 0), (22, .invokevirtual 256, 3, [206, 1, 11], 0), (25, .iload_n 3, 1, [], 0), (26, .tableswitch 41 0 2 #[26, 31, 36], 26, [25, 16, 19, 22], 0), (52, .aload_n 0, 1, [], 0), (53, .getfield 193, 3, [11, 16], 0), (56, .ireturn, 1, [0, 0, 0], 0), (57, .aload_n 0, 1, [], 0), (58, .getfield 244, 3, [11, 29], 0), (61, .ireturn, 1, [0, 0, 0], 0), (62, .aload_n 0, 1, [], 0), (63, .getfield 247, 3, [11, 30], 0), (66, .ireturn, 1, [0, 0, 0], 0), (67, .iload_n 3, 1, [], 0), (68, .bipush 10, 2, [], 10), (70, .bipush 16, 2, [], 16), (72, .invokestatic 108, 3, [161, 3], 0), (75, .ifCond .eq 28, 3, [45], 0), (78, .iload_n 3, 1, [], 0), (79, .bipush 10, 2, [], 10), (81, .isub, 1, [], 0), (82, .aload_n 0, 1, [], 0), (83, .getfield 244, 3, [11, 29], 0), (86, .if_icmp .ge 15, 3, [43], 0), (89, .aload_n 0, 1, [], 0), (90, .getfield 29, 3, [11, 28], 0), (93, .iload_n 3, 1, [], 0), (94, .bipush 10, 2, [], 10), (96, .isub, 1, [], 0), (97, .iaload, 1, [], 0), (98, .goto 4, 3, [44], 0), (101, .iconst (-1), 1, [], -1), (102, .ireturn, 1, [0, 0, 0], 0), (103, .iload_n 3, 1, [], 0), (104, .bipush 20, 2, [], 20), (106, .bipush 26, 2, [], 26), (108, .invokestatic 108, 3, [161, 3], 0), (111, .ifCond .eq 26, 3, [63], 0), (114, .aload_n 0, 1, [], 0), (115, .iload_n 3, 1, [], 0), (116, .bipush 20, 2, [], 20), (118, .isub, 1, [], 0), (119, .invokevirtual 241, 3, [190, 1, 11], 0), (122, .ifCond .eq 15, 3, [63], 0), (125, .aload_n 0, 1, [], 0), (126, .getfield 23, 3, [11, 26], 0), (129, .iload_n 3, 1, [], 0), (130, .bipush 20, 2, [], 20), (132, .isub, 1, [], 0), (133, .iaload, 1, [], 0), (134, .goto 4, 3, [64], 0), (137, .iconst (-1), 1, [], -1), (138, .ireturn, 1, [0, 0, 0], 0)]
/-- X12_seeds -/
def cd_208 : List PEn := [(0, .aload_n 0, 1, [], 0), (1, .iload_n 1, 1, [], 0), (2, .invokevirtual 238, 3, [189, 1, 11], 0), (5, .ifCond .ne 5, 3, [6], 0), (8, .iconst (-1), 1, [], -1), (9, .ireturn, 1, [0, 0, 0], 0), (10, .aload_n 0, 1, [], 0), (11, .invokevirtual 259, 3, [191, 0, 11], 0), (14, .istore_n 3, 1, [], 0), (15, .iload_n 3, 1, [], 0), (16, .istore 4, 2, [], 0), (18, .iload 4, 2, [], 0), (20, .ifCond .lt 42, 3, [31], 0), (23, .iload 4, 2, [], 0), (25, .invokestatic 262, 3, [195, 1], 0), (28, .iload_n 3, 1, [], 0), (29, .invokestatic 262, 3, [195, 1], 0), (32, .if_icmp .gt 24, 3, [29], 0), (35, .aload_n 0, 1, [], 0), (36, .aload_n 0, 1, [], 0), (37, .getfield 193, 3, [11, 16], 0), (40, .iload 4, 2, [], 0), (42, .ior, 1, [], 0), (43, .invokevirtual 196, 3, [197, 1, 11], 0), (46, .aload_n 0, 1, [], 0), (47, .invokevirtual 259, 3, [191, 0, 11], 0), (50, .if_icmp .ne 6, 3, [29], 0), (53, .iload 4, 2, [], 0), (55, .istore_n 3, 1, [], 0), (56, .iinc 4 (-1), 3, [], 0), (59, .goto (-41), 3, [11], 0), (62, .iload_n 2, 1, [], 0), (63, .ifCond .eq 7, 3, [35], 0), (66, .iload_n 3, 1, [], 0), (67, .goto 7, 3, [37], 0), (70, .iload_n 3, 1, [], 0), (71, .invokestatic 262, 3, [195, 1], 0), (74, .ireturn, 1, [0, 0, 0], 0)]
/-- X12_cutsOf -/
def cd_209 : List PEn := [(0, .iconst (-1), 1, [], -1), (1, .istore_n 2, 1, [], 0), (2, .iconst 0, 1, [], 0), (3, .istore_n 3, 1, [], 0), (4, .iload_n 3, 1, [], 0), (5, .iconst 1, 1, [], 1), (6, .aload_n 0, 1, [], 0), (7, .getfield 175, 3, [11, 13], 0), (10, .ishl, 1, [], 0), (11, .if_icmp .ge 50, 3, [35], 0), (14, .iload_n 2, 1, [], 0), (15, .iconst (-1), 1, [], -1), (16, .if_icmp .eq 17, 3, [19], 0), (19, .iload_n 3, 1, [], 0), (20, .invokestatic 262, 3, [195, 1], 0), (23, .iload_n 2, 1, [], 0), (24, .invokestatic 262, 3, [195, 1], 0), (27, .if_icmp .lt 6, 3, [19], 0), (30, .goto 25, 3, [33], 0), (33, .aload_n 0, 1, [], 0), (34, .iload_n 3, 1, [], 0), (35, .putfield 181, 3, [11, 17, 0, 0], 0), (38, .aload_n 0, 1, [], 0), (39, .aload_n 0, 1, [], 0), (40, .getfield 193, 3, [11, 16], 0), (43, .invokevirtual 196, 3, [197, 1, 11], 0), (46, .iload_n 1, 1, [], 0), (47, .ishr, 1, [], 0), (48, .iconst 1, 1, [], 1), (49, .iand, 1, [], 0), (50, .ifCond .ne 5, 3, [33], 0), (53, .iload_n 3, 1, [], 0), (54, .istore_n 2, 1, [], 0), (55, .iinc 3 1, 3, [], 0), (58, .goto (-54), 3, [4], 0), (61, .iload_n 2, 1, [], 0), (62, .ireturn, 1, [0, 0, 0], 0)]
/-- X12_cuts -/
def cd_210 : List PEn := [(0, .aload_n 0, 1, [], 0), (1, .iload_n 1, 1, [], 0), (2, .invokevirtual 238, 3, [189, 1, 11], 0), (5, .ifCond .eq 31, 3, [20], 0), (8, .aload_n 0, 1, [], 0), (9, .iload_n 2, 1, [], 0), (10, .invokevirtual 241, 3, [190, 1, 11], 0), (13, .ifCond .eq 23, 3, [20], 0), (16, .aload_n 0, 1, [], 0), (17, .iload_n 2, 1, [], 0), (18, .invokevirtual 199, 3, [198, 1, 11], 0), (21, .ifCond .eq 15, 3, [20], 0), (24, .aload_n 0, 1, [], 0), (25, .getfield 193, 3, [11, 16], 0), (28, .iload_n 2, 1, [], 0), (29, .ishr, 1, [], 0), (30, .iconst 1, 1, [], 1), (31, .iand, 1, [], 0), (32, .iconst 1, 1, [], 1), (33, .if_icmp .ne 5, 3, [22], 0), (36, .iconst (-1), 1, [], -1), (37, .ireturn, 1, [0, 0, 0], 0), (38, .aload_n 0, 1, [], 0), (39, .iload_n 2, 1, [], 0), (40, .invokevirtual 265, 3, [209, 1, 11], 0), (43, .istore 4, 2, [], 0), (45, .iload_n 3, 1, [], 0), (46, .ifCond .eq 8, 3, [30], 0), (49, .iload 4, 2, [], 0), (51, .goto 8, 3, [32], 0), (54, .iload 4, 2, [], 0), (56, .invokestatic 262, 3, [195, 1], 0), (59, .ireturn, 1, [0, 0, 0], 0)]
/-- X12_ruin -/
def cd_211 : List PEn := [(0, .aload_n 0, 1, [], 0), (1, .iload_n 1, 1, [], 0), (2, .invokevirtual 238, 3, [189, 1, 11], 0), (5, .ifCond .ne 5, 3, [6], 0), (8, .iconst (-1), 1, [], -1), (9, .ireturn, 1, [0, 0, 0], 0), (10, .aload_n 0, 1, [], 0), (11, .getfield 208, 3, [11, 19], 0), (14, .bipush 50, 2, [], 50), (16, .if_icmp .ge 31, 3, [24], 0), (19, .aload_n 0, 1, [], 0), (20, .invokevirtual 268, 3, [202, 0, 11], 0), (23, .aload_n 0, 1, [], 0), (24, .getfield 229, 3, [11, 24], 0), (27, .iconst (-1), 1, [], -1), (28, .if_icmp .eq (-18), 3, [6], 0), (31, .iload_n 2, 1, [], 0), (32, .ifCond .eq 10, 3, [21], 0), (35, .aload_n 0, 1, [], 0), (36, .getfield 229, 3, [11, 24], 0), (39, .goto 7, 3, [23], 0), (42, .aload_n 0, 1, [], 0), (43, .getfield 208, 3, [11, 19], 0), (46, .ireturn, 1, [0, 0, 0], 0), (47, .iconst (-1), 1, [], -1), (48, .ireturn, 1, [0, 0, 0], 0)]
/-- X12_bid -/
def cd_212 : List PEn := [(0, .aload_n 0, 1, [], 0), (1, .iload_n 1, 1, [], 0), (2, .invokevirtual 238, 3, [189, 1, 11], 0), (5, .ifCond .eq 13, 3, [9], 0), (8, .iload_n 2, 1, [], 0), (9, .iconst 0, 1, [], 0), (10, .bipush 50, 2, [], 50), (12, .invokestatic 108, 3, [161, 3], 0), (15, .ifCond .ne 5, 3, [11], 0), (18, .iconst (-1), 1, [], -1), (19, .ireturn, 1, [0, 0, 0], 0), (20, .aload_n 0, 1, [], 0), (21, .getfield 208, 3, [11, 19], 0), (24, .iload_n 2, 1, [], 0), (25, .if_icmp .ge 10, 3, [18], 0), (28, .aload_n 0, 1, [], 0), (29, .invokevirtual 268, 3, [202, 0, 11], 0), (32, .goto (-12), 3, [11], 0), (35, .aload_n 0, 1, [], 0), (36, .getfield 211, 3, [11, 20], 0), (39, .ireturn, 1, [0, 0, 0], 0)]
/-- X12_common -/
def cd_213 : List PEn := [(0, .iload_n 0, 1, [], 0), (1, .istore_n 2, 1, [], 0), (2, .iload_n 1, 1, [], 0), (3, .istore_n 3, 1, [], 0), (4, .iload_n 3, 1, [], 0), (5, .ifCond .eq 16, 3, [15], 0), (8, .iload_n 2, 1, [], 0), (9, .iload_n 3, 1, [], 0), (10, .irem, 1, [], 0), (11, .istore 4, 2, [], 0), (13, .iload_n 3, 1, [], 0), (14, .istore_n 2, 1, [], 0), (15, .iload 4, 2, [], 0), (17, .istore_n 3, 1, [], 0), (18, .goto (-14), 3, [4], 0), (21, .iload_n 2, 1, [], 0), (22, .ireturn, 1, [0, 0, 0], 0)]
/-- X12_parted -/
def cd_214 : List PEn := [(0, .iload_n 2, 1, [], 0), (1, .ifCond .eq 7, 3, [4], 0), (4, .iload_n 1, 1, [], 0), (5, .goto 4, 3, [5], 0), (8, .iload_n 0, 1, [], 0), (9, .iload_n 0, 1, [], 0), (10, .iload_n 1, 1, [], 0), (11, .invokestatic 271, 3, [213, 2], 0), (14, .idiv, 1, [], 0), (15, .ireturn, 1, [0, 0, 0], 0)]
/-- X12_burden -/
def cd_215 : List PEn := [(0, .aload_n 0, 1, [], 0), (1, .iload_n 1, 1, [], 0), (2, .invokevirtual 238, 3, [189, 1, 11], 0), (5, .ifCond .eq 12, 3, [9], 0), (8, .iload_n 2, 1, [], 0), (9, .iconst 0, 1, [], 0), (10, .iconst 2, 1, [], 2), (11, .invokestatic 108, 3, [161, 3], 0), (14, .ifCond .ne 5, 3, [11], 0), (17, .iconst (-1), 1, [], -1), (18, .ireturn, 1, [0, 0, 0], 0), (19, .iconst (-1), 1, [], -1), (20, .istore_n 3, 1, [], 0), (21, .iconst 0, 1, [], 0), (22, .istore 4, 2, [], 0), (24, .iload 4, 2, [], 0), (26, .aload_n 0, 1, [], 0), (27, .getfield 172, 3, [11, 12], 0), (30, .if_icmp .ge 58, 3, [50], 0), (33, .aload_n 0, 1, [], 0), (34, .getfield 23, 3, [11, 26], 0), (37, .iload 4, 2, [], 0), (39, .iaload, 1, [], 0), (40, .ifCond .le 42, 3, [48], 0), (43, .iload_n 3, 1, [], 0), (44, .iconst (-1), 1, [], -1), (45, .if_icmp .eq 34, 3, [46], 0), (48, .aload_n 0, 1, [], 0), (49, .getfield 23, 3, [11, 26], 0), (52, .iload 4, 2, [], 0), (54, .iaload, 1, [], 0), (55, .aload_n 0, 1, [], 0), (56, .getfield 20, 3, [11, 25], 0), (59, .iload_n 3, 1, [], 0), (60, .iaload, 1, [], 0), (61, .imul, 1, [], 0), (62, .aload_n 0, 1, [], 0), (63, .getfield 23, 3, [11, 26], 0), (66, .iload_n 3, 1, [], 0), (67, .iaload, 1, [], 0), (68, .aload_n 0, 1, [], 0), (69, .getfield 20, 3, [11, 25], 0), (72, .iload 4, 2, [], 0), (74, .iaload, 1, [], 0), (75, .imul, 1, [], 0), (76, .if_icmp .le 6, 3, [48], 0), (79, .iload 4, 2, [], 0), (81, .istore_n 3, 1, [], 0), (82, .iinc 4 1, 3, [], 0), (85, .goto (-61), 3, [15], 0), (88, .iload_n 3, 1, [], 0), (89, .iconst (-1), 1, [], -1), (90, .if_icmp .eq 7, 3, [55], 0), (93, .iload_n 2, 1, [], 0), (94, .ifCond .ne 7, 3, [57], 0), (97, .iload_n 3, 1, [], 0), (98, .goto 28, 3, [72], 0), (101, .aload_n 0, 1, [], 0), (102, .getfield 23, 3, [11, 26], 0), (105, .iload_n 3, 1, [], 0), (106, .iaload, 1, [], 0), (107, .aload_n 0, 1, [], 0), (108, .getfield 20, 3, [11, 25], 0), (111, .iload_n 3, 1, [], 0), (112, .iaload, 1, [], 0), (113, .iload_n 2, 1, [], 0), (114, .iconst 2, 1, [], 2), (115, .if_icmp .ne 7, 3, [70], 0), (118, .iconst 1, 1, [], 1), (119, .goto 4, 3, [71], 0), (122, .iconst 0, 1, [], 0), (123, .invokestatic 274, 3, [214, 3], 0), (126, .ireturn, 1, [0, 0, 0], 0)]
/-- X12_taxBy -/
def cd_216 : List PEn := [(0, .aload_n 0, 1, [], 0), (1, .iload_n 1, 1, [], 0), (2, .putfield 202, 3, [11, 14, 0, 0], 0), (5, .aload_n 0, 1, [], 0), (6, .invokevirtual 223, 3, [199, 0, 11], 0), (9, .aload_n 0, 1, [], 0), (10, .getfield 23, 3, [11, 26], 0), (13, .iload_n 2, 1, [], 0), (14, .iaload, 1, [], 0), (15, .ireturn, 1, [0, 0, 0], 0)]
/-- X12_falls -/
def cd_217 : List PEn := [(0, .aload_n 0, 1, [], 0), (1, .iload_n 1, 1, [], 0), (2, .invokevirtual 238, 3, [189, 1, 11], 0), (5, .ifCond .eq 16, 3, [11], 0), (8, .aload_n 0, 1, [], 0), (9, .iload_n 2, 1, [], 0), (10, .invokevirtual 241, 3, [190, 1, 11], 0), (13, .ifCond .eq 8, 3, [11], 0), (16, .iload_n 3, 1, [], 0), (17, .iconst (-1), 1, [], -1), (18, .if_icmp .ge 5, 3, [13], 0), (21, .iconst (-1), 1, [], -1), (22, .ireturn, 1, [0, 0, 0], 0), (23, .iconst 0, 1, [], 0), (24, .istore 4, 2, [], 0), (26, .iconst 1, 1, [], 1), (27, .istore 5, 2, [], 0), (29, .iload 5, 2, [], 0), (31, .bipush 100, 2, [], 100), (33, .if_icmp .ge 47, 3, [42], 0), (36, .aload_n 0, 1, [], 0), (37, .iload 5, 2, [], 0), (39, .iconst 1, 1, [], 1), (40, .isub, 1, [], 0), (41, .iload_n 2, 1, [], 0), (42, .invokevirtual 278, 3, [216, 2, 11], 0), (45, .istore 6, 2, [], 0), (47, .aload_n 0, 1, [], 0), (48, .iload 5, 2, [], 0), (50, .iload_n 2, 1, [], 0), (51, .invokevirtual 278, 3, [216, 2, 11], 0), (54, .iload 6, 2, [], 0), (56, .if_icmp .lt 6, 3, [34], 0), (59, .goto 15, 3, [40], 0), (62, .iload 4, 2, [], 0), (64, .iload_n 3, 1, [], 0), (65, .if_icmp .ne 6, 3, [39], 0), (68, .iload 5, 2, [], 0), (70, .ireturn, 1, [0, 0, 0], 0), (71, .iinc 4 1, 3, [], 0), (74, .iinc 5 1, 3, [], 0), (77, .goto (-48), 3, [17], 0), (80, .iload_n 3, 1, [], 0), (81, .iconst (-1), 1, [], -1), (82, .if_icmp .ne 8, 3, [47], 0), (85, .iload 4, 2, [], 0), (87, .goto 4, 3, [48], 0), (90, .iconst (-1), 1, [], -1), (91, .ireturn, 1, [0, 0, 0], 0)]
/-- X12_strifeBy -/
def cd_218 : List PEn := [(0, .aload_n 0, 1, [], 0), (1, .invokevirtual 178, 3, [201, 0, 11], 0), (4, .iload 4, 2, [], 0), (6, .iconst 1, 1, [], 1), (7, .isub, 1, [], 0), (8, .istore 5, 2, [], 0), (10, .iload 5, 2, [], 0), (12, .ifCond .lt 59, 3, [38], 0), (15, .iload_n 1, 1, [], 0), (16, .iload 5, 2, [], 0), (18, .ishr, 1, [], 0), (19, .iconst 1, 1, [], 1), (20, .iand, 1, [], 0), (21, .ifCond .ne 6, 3, [15], 0), (24, .goto 41, 3, [36], 0), (27, .iload 4, 2, [], 0), (29, .iconst 1, 1, [], 1), (30, .isub, 1, [], 0), (31, .iload 5, 2, [], 0), (33, .isub, 1, [], 0), (34, .iconst 2, 1, [], 2), (35, .irem, 1, [], 0), (36, .ifCond .ne 7, 3, [25], 0), (39, .iload_n 2, 1, [], 0), (40, .goto 4, 3, [26], 0), (43, .iload_n 3, 1, [], 0), (44, .istore 6, 2, [], 0), (46, .aload_n 0, 1, [], 0), (47, .iload 6, 2, [], 0), (49, .invokevirtual 250, 3, [203, 1, 11], 0), (52, .ifCond .ne 7, 3, [33], 0), (55, .ldc_w 281, 3, [], 99999999), (58, .ireturn, 1, [0, 0, 0], 0), (59, .aload_n 0, 1, [], 0), (60, .iload 6, 2, [], 0), (62, .invokevirtual 253, 3, [204, 1, 11], 0), (65, .iinc 5 (-1), 3, [], 0), (68, .goto (-58), 3, [6], 0), (71, .aload_n 0, 1, [], 0), (72, .invokevirtual 268, 3, [202, 0, 11], 0), (75, .aload_n 0, 1, [], 0), (76, .getfield 20, 3, [11, 25], 0), (79, .iload_n 2, 1, [], 0), (80, .iaload, 1, [], 0), (81, .aload_n 0, 1, [], 0), (82, .getfield 20, 3, [11, 25], 0), (85, .iload_n 3, 1, [], 0), (86, .iaload, 1, [], 0), (87, .isub, 1, [], 0), (88, .ireturn, 1, [0, 0, 0], 0)]
/-- X12_strife -/
def cd_219 : List PEn := [(0, .aload_n 0, 1, [], 0), (1, .iload_n 1, 1, [], 0), (2, .invokevirtual 238, 3, [189, 1, 11], 0), (5, .ifCond .eq 35, 3, [20], 0), (8, .aload_n 0, 1, [], 0), (9, .iload_n 2, 1, [], 0), (10, .invokevirtual 241, 3, [190, 1, 11], 0), (13, .ifCond .eq 27, 3, [20], 0), (16, .aload_n 0, 1, [], 0), (17, .iload_n 3, 1, [], 0), (18, .invokevirtual 241, 3, [190, 1, 11], 0), (21, .ifCond .eq 19, 3, [20], 0), (24, .iload_n 2, 1, [], 0), (25, .iload_n 3, 1, [], 0), (26, .if_icmp .eq 14, 3, [20], 0), (29, .iload 4, 2, [], 0), (31, .iconst 0, 1, [], 0), (32, .bipush 6, 2, [], 6), (34, .invokestatic 108, 3, [161, 3], 0), (37, .ifCond .ne 7, 3, [22], 0), (40, .sipush (-999), 3, [], -999), (43, .ireturn, 1, [0, 0, 0], 0), (44, .iconst 1, 1, [], 1), (45, .iload 4, 2, [], 0), (47, .ishl, 1, [], 0), (48, .istore 6, 2, [], 0), (50, .iconst 0, 1, [], 0), (51, .istore 7, 2, [], 0), (53, .iload 7, 2, [], 0), (55, .iload 6, 2, [], 0), (57, .if_icmp .ge 26, 3, [43], 0), (60, .aload_n 0, 1, [], 0), (61, .getfield 32, 3, [11, 31], 0), (64, .iload 7, 2, [], 0), (66, .aload_n 0, 1, [], 0), (67, .iload 7, 2, [], 0), (69, .iload_n 2, 1, [], 0), (70, .iload_n 3, 1, [], 0), (71, .iload 4, 2, [], 0), (73, .invokevirtual 282, 3, [218, 4, 11], 0), (76, .iastore, 1, [], 0), (77, .iinc 7 1, 3, [], 0), (80, .goto (-27), 3, [28], 0), (83, .iconst (-1), 1, [], -1), (84, .istore 7, 2, [], 0), (86, .iload 4, 2, [], 0), (88, .iconst 1, 1, [], 1), (89, .isub, 1, [], 0), (90, .istore 8, 2, [], 0), (92, .iload 8, 2, [], 0), (94, .ifCond .lt 125, 3, [113], 0), (97, .iload 6, 2, [], 0), (99, .iconst 2, 1, [], 2), (100, .idiv, 1, [], 0), (101, .istore 6, 2, [], 0), (103, .iconst 0, 1, [], 0), (104, .istore 9, 2, [], 0), (106, .iload 9, 2, [], 0), (108, .iload 6, 2, [], 0), (110, .if_icmp .ge 103, 3, [111], 0), (113, .aload_n 0, 1, [], 0), (114, .getfield 32, 3, [11, 31], 0), (117, .iconst 2, 1, [], 2), (118, .iload 9, 2, [], 0), (120, .imul, 1, [], 0), (121, .iaload, 1, [], 0), (122, .istore 10, 2, [], 0), (124, .aload_n 0, 1, [], 0), (125, .getfield 32, 3, [11, 31], 0), (128, .iconst 2, 1, [], 2), (129, .iload 9, 2, [], 0), (131, .imul, 1, [], 0), (132, .iconst 1, 1, [], 1), (133, .iadd, 1, [], 0), (134, .iaload, 1, [], 0), (135, .istore 11, 2, [], 0), (137, .iload 11, 2, [], 0), (139, .ldc_w 281, 3, [], 99999999), (142, .if_icmp .eq 31, 3, [92], 0), (145, .iload 8, 2, [], 0), (147, .iconst 2, 1, [], 2), (148, .irem, 1, [], 0), (149, .ifCond .ne 13, 3, [87], 0), (152, .iload 11, 2, [], 0), (154, .iload 10, 2, [], 0), (156, .if_icmp .le 17, 3, [92], 0), (159, .goto 10, 3, [90], 0), (162, .iload 11, 2, [], 0), (164, .iload 10, 2, [], 0), (166, .if_icmp .ge 7, 3, [92], 0), (169, .iconst 1, 1, [], 1), (170, .goto 4, 3, [93], 0), (173, .iconst 0, 1, [], 0), (174, .istore 12, 2, [], 0), (176, .aload_n 0, 1, [], 0), (177, .getfield 32, 3, [11, 31], 0), (180, .iload 9, 2, [], 0), (182, .iload 12, 2, [], 0), (184, .ifCond .eq 8, 3, [101], 0), (187, .iload 11, 2, [], 0), (189, .goto 5, 3, [102], 0), (192, .iload 10, 2, [], 0), (194, .iastore, 1, [], 0), (195, .iload 12, 2, [], 0), (197, .ifCond .eq 7, 3, [107], 0), (200, .iconst 1, 1, [], 1), (201, .goto 4, 3, [108], 0), (204, .iconst 0, 1, [], 0), (205, .istore 7, 2, [], 0), (207, .iinc 9 1, 3, [], 0), (210, .goto (-104), 3, [57], 0), (213, .iinc 8 (-1), 3, [], 0), (216, .goto (-124), 3, [49], 0), (219, .iload 5, 2, [], 0), (221, .ifCond .eq 8, 3, [117], 0), (224, .iload 7, 2, [], 0), (226, .goto 9, 3, [121], 0), (229, .aload_n 0, 1, [], 0), (230, .getfield 32, 3, [11, 31], 0), (233, .iconst 0, 1, [], 0), (234, .iaload, 1, [], 0), (235, .ireturn, 1, [0, 0, 0], 0)]
/-- X12_lot -/
def cd_220 : List PEn := [(0, .aload_n 0, 1, [], 0), (1, .iload_n 1, 1, [], 0), (2, .invokevirtual 238, 3, [189, 1, 11], 0), (5, .ifCond .eq 29, 3, [17], 0), (8, .aload_n 0, 1, [], 0), (9, .iload_n 3, 1, [], 0), (10, .invokevirtual 241, 3, [190, 1, 11], 0), (13, .ifCond .eq 21, 3, [17], 0), (16, .iload_n 2, 1, [], 0), (17, .iconst 0, 1, [], 0), (18, .bipush 7, 2, [], 7), (20, .invokestatic 108, 3, [161, 3], 0), (23, .ifCond .eq 11, 3, [17], 0), (26, .iload_n 2, 1, [], 0), (27, .aload_n 0, 1, [], 0), (28, .getfield 172, 3, [11, 12], 0), (31, .if_icmp .le 5, 3, [19], 0), (34, .iconst (-1), 1, [], -1), (35, .ireturn, 1, [0, 0, 0], 0), (36, .iconst 0, 1, [], 0), (37, .istore 5, 2, [], 0), (39, .iconst 0, 1, [], 0), (40, .istore 6, 2, [], 0), (42, .iconst 0, 1, [], 0), (43, .istore 7, 2, [], 0), (45, .iload 7, 2, [], 0), (47, .aload_n 0, 1, [], 0), (48, .invokevirtual 259, 3, [191, 0, 11], 0), (51, .if_icmp .gt 44, 3, [50], 0), (54, .iload 7, 2, [], 0), (56, .invokestatic 262, 3, [195, 1], 0), (59, .iload_n 2, 1, [], 0), (60, .if_icmp .eq 6, 3, [34], 0), (63, .goto 26, 3, [48], 0), (66, .iinc 5 1, 3, [], 0), (69, .iload 6, 2, [], 0), (71, .aload_n 0, 1, [], 0), (72, .aload_n 0, 1, [], 0), (73, .getfield 193, 3, [11, 16], 0), (76, .iload 7, 2, [], 0), (78, .ior, 1, [], 0), (79, .invokevirtual 196, 3, [197, 1, 11], 0), (82, .iload_n 3, 1, [], 0), (83, .ishr, 1, [], 0), (84, .iconst 1, 1, [], 1), (85, .iand, 1, [], 0), (86, .iadd, 1, [], 0), (87, .istore 6, 2, [], 0), (89, .iinc 7 1, 3, [], 0), (92, .goto (-47), 3, [25], 0), (95, .iload 6, 2, [], 0), (97, .iload 5, 2, [], 0), (99, .iload 4, 2, [], 0), (101, .invokestatic 274, 3, [214, 3], 0), (104, .ireturn, 1, [0, 0, 0], 0)]
/-- X12_spared -/
def cd_221 : List PEn := [(0, .aload_n 0, 1, [], 0), (1, .iload_n 1, 1, [], 0), (2, .invokevirtual 238, 3, [189, 1, 11], 0), (5, .ifCond .eq 21, 3, [13], 0), (8, .iload_n 2, 1, [], 0), (9, .iconst 0, 1, [], 0), (10, .bipush 7, 2, [], 7), (12, .invokestatic 108, 3, [161, 3], 0), (15, .ifCond .eq 11, 3, [13], 0), (18, .iload_n 2, 1, [], 0), (19, .aload_n 0, 1, [], 0), (20, .getfield 172, 3, [11, 12], 0), (23, .if_icmp .le 5, 3, [15], 0), (26, .iconst (-1), 1, [], -1), (27, .ireturn, 1, [0, 0, 0], 0), (28, .iconst 0, 1, [], 0), (29, .istore 4, 2, [], 0), (31, .iconst 0, 1, [], 0), (32, .istore 5, 2, [], 0), (34, .iconst 0, 1, [], 0), (35, .istore 6, 2, [], 0), (37, .iload 6, 2, [], 0), (39, .aload_n 0, 1, [], 0), (40, .invokevirtual 259, 3, [191, 0, 11], 0), (43, .if_icmp .gt 43, 3, [43], 0), (46, .iload 6, 2, [], 0), (48, .invokestatic 262, 3, [195, 1], 0), (51, .iload_n 2, 1, [], 0), (52, .if_icmp .eq 6, 3, [30], 0), (55, .goto 25, 3, [41], 0), (58, .iinc 4 1, 3, [], 0), (61, .iload 5, 2, [], 0), (63, .aload_n 0, 1, [], 0), (64, .aload_n 0, 1, [], 0), (65, .getfield 193, 3, [11, 16], 0), (68, .iload 6, 2, [], 0), (70, .ior, 1, [], 0), (71, .invokevirtual 196, 3, [197, 1, 11], 0), (74, .invokestatic 262, 3, [195, 1], 0), (77, .iadd, 1, [], 0), (78, .istore 5, 2, [], 0), (80, .iinc 6 1, 3, [], 0), (83, .goto (-46), 3, [21], 0), (86, .iload 5, 2, [], 0), (88, .iload 4, 2, [], 0), (90, .iload_n 3, 1, [], 0), (91, .invokestatic 274, 3, [214, 3], 0), (94, .ireturn, 1, [0, 0, 0], 0)]
/-- X12_retinue -/
def cd_222 : List PEn := [(0, .aload_n 0, 1, [], 0), (1, .iload_n 1, 1, [], 0), (2, .invokevirtual 238, 3, [189, 1, 11], 0), (5, .ifCond .eq 21, 3, [14], 0), (8, .aload_n 0, 1, [], 0), (9, .iload_n 2, 1, [], 0), (10, .invokevirtual 241, 3, [190, 1, 11], 0), (13, .ifCond .eq 13, 3, [14], 0), (16, .aload_n 0, 1, [], 0), (17, .iconst 1, 1, [], 1), (18, .iload_n 2, 1, [], 0), (19, .ishl, 1, [], 0), (20, .invokevirtual 196, 3, [197, 1, 11], 0), (23, .goto 4, 3, [15], 0), (26, .iconst (-1), 1, [], -1), (27, .ireturn, 1, [0, 0, 0], 0)]
/-- X12_chiefOf -/
def cd_223 : List PEn := [(0, .aload_n 0, 1, [], 0), (1, .getfield 172, 3, [11, 12], 0), (4, .ifCond .ne 7, 3, [5], 0), (7, .iconst (-1), 1, [], -1), (8, .goto 4, 3, [6], 0), (11, .iconst 0, 1, [], 0), (12, .istore_n 1, 1, [], 0), (13, .iconst 1, 1, [], 1), (14, .istore_n 2, 1, [], 0), (15, .iload_n 2, 1, [], 0), (16, .aload_n 0, 1, [], 0), (17, .getfield 172, 3, [11, 12], 0), (20, .if_icmp .ge 34, 3, [30], 0), (23, .aload_n 0, 1, [], 0), (24, .iconst 1, 1, [], 1), (25, .iload_n 2, 1, [], 0), (26, .ishl, 1, [], 0), (27, .invokevirtual 196, 3, [197, 1, 11], 0), (30, .invokestatic 262, 3, [195, 1], 0), (33, .aload_n 0, 1, [], 0), (34, .iconst 1, 1, [], 1), (35, .iload_n 1, 1, [], 0), (36, .ishl, 1, [], 0), (37, .invokevirtual 196, 3, [197, 1, 11], 0), (40, .invokestatic 262, 3, [195, 1], 0), (43, .if_icmp .le 5, 3, [28], 0), (46, .iload_n 2, 1, [], 0), (47, .istore_n 1, 1, [], 0), (48, .iinc 2 1, 3, [], 0), (51, .goto (-36), 3, [9], 0), (54, .iload_n 1, 1, [], 0), (55, .ireturn, 1, [0, 0, 0], 0)]
/-- X12_keysOf -/
def cd_224 : List PEn := [(0, .iconst 0, 1, [], 0), (1, .istore_n 1, 1, [], 0), (2, .iconst 0, 1, [], 0), (3, .istore_n 2, 1, [], 0), (4, .iload_n 2, 1, [], 0), (5, .aload_n 0, 1, [], 0), (6, .getfield 175, 3, [11, 13], 0), (9, .if_icmp .ge 47, 3, [32], 0), (12, .aload_n 0, 1, [], 0), (13, .iconst 1, 1, [], 1), (14, .iload_n 2, 1, [], 0), (15, .ishl, 1, [], 0), (16, .putfield 181, 3, [11, 17, 0, 0], 0), (19, .iload_n 1, 1, [], 0), (20, .aload_n 0, 1, [], 0), (21, .aload_n 0, 1, [], 0), (22, .getfield 193, 3, [11, 16], 0), (25, .invokevirtual 196, 3, [197, 1, 11], 0), (28, .invokestatic 262, 3, [195, 1], 0), (31, .aload_n 0, 1, [], 0), (32, .getfield 190, 3, [11, 18], 0), (35, .invokestatic 262, 3, [195, 1], 0), (38, .if_icmp .ge 9, 3, [27], 0), (41, .iconst 1, 1, [], 1), (42, .iload_n 2, 1, [], 0), (43, .ishl, 1, [], 0), (44, .goto 4, 3, [28], 0), (47, .iconst 0, 1, [], 0), (48, .ior, 1, [], 0), (49, .istore_n 1, 1, [], 0), (50, .iinc 2 1, 3, [], 0), (53, .goto (-49), 3, [4], 0), (56, .iload_n 1, 1, [], 0), (57, .ireturn, 1, [0, 0, 0], 0)]
/-- X12_isIdle -/
def cd_225 : List PEn := [(0, .iconst 1, 1, [], 1), (1, .istore_n 2, 1, [], 0), (2, .iconst 0, 1, [], 0), (3, .istore_n 3, 1, [], 0), (4, .iload_n 3, 1, [], 0), (5, .aload_n 0, 1, [], 0), (6, .invokevirtual 259, 3, [191, 0, 11], 0), (9, .if_icmp .gt 48, 3, [33], 0), (12, .iload_n 2, 1, [], 0), (13, .ifCond .eq 44, 3, [33], 0), (16, .aload_n 0, 1, [], 0), (17, .iconst 0, 1, [], 0), (18, .putfield 181, 3, [11, 17, 0, 0], 0), (21, .aload_n 0, 1, [], 0), (22, .iload_n 3, 1, [], 0), (23, .invokevirtual 196, 3, [197, 1, 11], 0), (26, .istore 4, 2, [], 0), (28, .aload_n 0, 1, [], 0), (29, .iconst 1, 1, [], 1), (30, .iload_n 1, 1, [], 0), (31, .ishl, 1, [], 0), (32, .putfield 181, 3, [11, 17, 0, 0], 0), (35, .aload_n 0, 1, [], 0), (36, .iload_n 3, 1, [], 0), (37, .invokevirtual 196, 3, [197, 1, 11], 0), (40, .iload 4, 2, [], 0), (42, .if_icmp .ne 7, 3, [29], 0), (45, .iconst 1, 1, [], 1), (46, .goto 4, 3, [30], 0), (49, .iconst 0, 1, [], 0), (50, .istore_n 2, 1, [], 0), (51, .iinc 3 1, 3, [], 0), (54, .goto (-50), 3, [4], 0), (57, .iload_n 2, 1, [], 0), (58, .ireturn, 1, [1, 0, 0], 0)]
/-- X12_idleOf -/
def cd_226 : List PEn := [(0, .iconst 0, 1, [], 0), (1, .istore_n 1, 1, [], 0), (2, .iconst 0, 1, [], 0), (3, .istore_n 2, 1, [], 0), (4, .iload_n 2, 1, [], 0), (5, .aload_n 0, 1, [], 0), (6, .getfield 175, 3, [11, 13], 0), (9, .if_icmp .ge 27, 3, [22], 0), (12, .iload_n 1, 1, [], 0), (13, .aload_n 0, 1, [], 0), (14, .iload_n 2, 1, [], 0), (15, .invokevirtual 286, 3, [225, 1, 11], 0), (18, .ifCond .eq 9, 3, [17], 0), (21, .iconst 1, 1, [], 1), (22, .iload_n 2, 1, [], 0), (23, .ishl, 1, [], 0), (24, .goto 4, 3, [18], 0), (27, .iconst 0, 1, [], 0), (28, .ior, 1, [], 0), (29, .istore_n 1, 1, [], 0), (30, .iinc 2 1, 3, [], 0), (33, .goto (-29), 3, [4], 0), (36, .iload_n 1, 1, [], 0), (37, .ireturn, 1, [0, 0, 0], 0)]
/-- X12_comesTo -/
def cd_227 : List PEn := [(0, .iconst 0, 1, [], 0), (1, .istore_n 2, 1, [], 0), (2, .iconst (-1), 1, [], -1), (3, .istore_n 3, 1, [], 0), (4, .iload_n 3, 1, [], 0), (5, .iload_n 2, 1, [], 0), (6, .if_icmp .eq 68, 3, [47], 0), (9, .iload_n 2, 1, [], 0), (10, .istore_n 3, 1, [], 0), (11, .iconst 0, 1, [], 0), (12, .istore 4, 2, [], 0), (14, .iload 4, 2, [], 0), (16, .aload_n 0, 1, [], 0), (17, .getfield 175, 3, [11, 13], 0), (20, .if_icmp .ge 51, 3, [46], 0), (23, .aload_n 0, 1, [], 0), (24, .iload 4, 2, [], 0), (26, .iconst 2, 1, [], 2), (27, .invokevirtual 184, 3, [194, 2, 11], 0), (30, .iconst (-1), 1, [], -1), (31, .if_icmp .ne 34, 3, [44], 0), (34, .iload_n 3, 1, [], 0), (35, .iconst 1, 1, [], 1), (36, .iload_n 1, 1, [], 0), (37, .ishl, 1, [], 0), (38, .ior, 1, [], 0), (39, .aload_n 0, 1, [], 0), (40, .iload 4, 2, [], 0), (42, .iconst 0, 1, [], 0), (43, .invokevirtual 184, 3, [194, 2, 11], 0), (46, .ishr, 1, [], 0), (47, .iconst 1, 1, [], 1), (48, .iand, 1, [], 0), (49, .iconst 1, 1, [], 1), (50, .if_icmp .ne 15, 3, [44], 0), (53, .iload_n 2, 1, [], 0), (54, .iconst 1, 1, [], 1), (55, .aload_n 0, 1, [], 0), (56, .iload 4, 2, [], 0), (58, .iconst 1, 1, [], 1), (59, .invokevirtual 184, 3, [194, 2, 11], 0), (62, .ishl, 1, [], 0), (63, .ior, 1, [], 0), (64, .istore_n 2, 1, [], 0), (65, .iinc 4 1, 3, [], 0), (68, .goto (-54), 3, [11], 0), (71, .goto (-67), 3, [4], 0), (74, .iload_n 2, 1, [], 0), (75, .ireturn, 1, [0, 0, 0], 0)]
/-- X12_housesBy -/
def cd_228 : List PEn := [(0, .iconst 0, 1, [], 0), (1, .istore_n 2, 1, [], 0), (2, .iconst 0, 1, [], 0), (3, .istore_n 3, 1, [], 0), (4, .iload_n 3, 1, [], 0), (5, .aload_n 0, 1, [], 0), (6, .getfield 172, 3, [11, 12], 0), (9, .if_icmp .ge 88, 3, [54], 0), (12, .iconst 1, 1, [], 1), (13, .istore 4, 2, [], 0), (15, .iconst 0, 1, [], 0), (16, .istore 5, 2, [], 0), (18, .iload 5, 2, [], 0), (20, .aload_n 0, 1, [], 0), (21, .getfield 175, 3, [11, 13], 0), (24, .if_icmp .ge 32, 3, [30], 0), (27, .iload 4, 2, [], 0), (29, .ifCond .eq 18, 3, [26], 0), (32, .aload_n 0, 1, [], 0), (33, .iload 5, 2, [], 0), (35, .iconst 0, 1, [], 0), (36, .invokevirtual 184, 3, [194, 2, 11], 0), (39, .iload_n 3, 1, [], 0), (40, .if_icmp .eq 7, 3, [26], 0), (43, .iconst 1, 1, [], 1), (44, .goto 4, 3, [27], 0), (47, .iconst 0, 1, [], 0), (48, .istore 4, 2, [], 0), (50, .iinc 5 1, 3, [], 0), (53, .goto (-35), 3, [12], 0), (56, .iload_n 2, 1, [], 0), (57, .iload_n 1, 1, [], 0), (58, .ifCond .eq 19, 3, [43], 0), (61, .aload_n 0, 1, [], 0), (62, .iload_n 3, 1, [], 0), (63, .invokevirtual 289, 3, [227, 1, 11], 0), (66, .iload_n 3, 1, [], 0), (67, .ishr, 1, [], 0), (68, .iconst 1, 1, [], 1), (69, .iand, 1, [], 0), (70, .iconst 1, 1, [], 1), (71, .if_icmp .ne 17, 3, [49], 0), (74, .goto 8, 3, [45], 0), (77, .iload 4, 2, [], 0), (79, .ifCond .eq 9, 3, [49], 0), (82, .iconst 1, 1, [], 1), (83, .iload_n 3, 1, [], 0), (84, .ishl, 1, [], 0), (85, .goto 4, 3, [50], 0), (88, .iconst 0, 1, [], 0), (89, .ior, 1, [], 0), (90, .istore_n 2, 1, [], 0), (91, .iinc 3 1, 3, [], 0), (94, .goto (-90), 3, [4], 0), (97, .iload_n 2, 1, [], 0), (98, .ireturn, 1, [0, 0, 0], 0)]
/-- X12_rankBy -/
def cd_229 : List PEn := [(0, .aload_n 0, 1, [], 0), (1, .getfield 35, 3, [11, 32], 0), (4, .aload_n 0, 1, [], 0), (5, .iload_n 1, 1, [], 0), (6, .iconst 1, 1, [], 1), (7, .invokevirtual 184, 3, [194, 2, 11], 0), (10, .iaload, 1, [], 0), (11, .istore_n 2, 1, [], 0), (12, .aload_n 0, 1, [], 0), (13, .iload_n 1, 1, [], 0), (14, .iconst 2, 1, [], 2), (15, .invokevirtual 184, 3, [194, 2, 11], 0), (18, .iconst (-1), 1, [], -1), (19, .if_icmp .ne 7, 3, [16], 0), (22, .iload_n 2, 1, [], 0), (23, .goto 14, 3, [23], 0), (26, .aload_n 0, 1, [], 0), (27, .getfield 35, 3, [11, 32], 0), (30, .aload_n 0, 1, [], 0), (31, .iload_n 1, 1, [], 0), (32, .iconst 2, 1, [], 2), (33, .invokevirtual 184, 3, [194, 2, 11], 0), (36, .iaload, 1, [], 0), (37, .istore_n 3, 1, [], 0), (38, .iload_n 2, 1, [], 0), (39, .iconst (-1), 1, [], -1), (40, .if_icmp .eq 8, 3, [30], 0), (43, .iload_n 3, 1, [], 0), (44, .iconst (-1), 1, [], -1), (45, .if_icmp .ne 7, 3, [32], 0), (48, .ldc_w 281, 3, [], 99999999), (51, .ireturn, 1, [0, 0, 0], 0), (52, .iconst 1, 1, [], 1), (53, .iload_n 2, 1, [], 0), (54, .iload_n 3, 1, [], 0), (55, .if_icmp .le 7, 3, [38], 0), (58, .iload_n 2, 1, [], 0), (59, .goto 4, 3, [39], 0), (62, .iload_n 3, 1, [], 0), (63, .iadd, 1, [], 0), (64, .ireturn, 1, [0, 0, 0], 0)]
/-- X12_laysRanks -/
def cd_230 : List PEn := [(0, .iconst 0, 1, [], 0), (1, .istore_n 1, 1, [], 0), (2, .iload_n 1, 1, [], 0), (3, .bipush 7, 2, [], 7), (5, .if_icmp .ge 32, 3, [22], 0), (8, .aload_n 0, 1, [], 0), (9, .getfield 35, 3, [11, 32], 0), (12, .iload_n 1, 1, [], 0), (13, .aload_n 0, 1, [], 0), (14, .getfield 193, 3, [11, 16], 0), (17, .iload_n 1, 1, [], 0), (18, .ishr, 1, [], 0), (19, .iconst 1, 1, [], 1), (20, .iand, 1, [], 0), (21, .iconst 1, 1, [], 1), (22, .if_icmp .ne 7, 3, [18], 0), (25, .iconst 0, 1, [], 0), (26, .goto 4, 3, [19], 0), (29, .iconst (-1), 1, [], -1), (30, .iastore, 1, [], 0), (31, .iinc 1 1, 3, [], 0), (34, .goto (-32), 3, [2], 0), (37, .iconst 1, 1, [], 1), (38, .istore_n 1, 1, [], 0), (39, .iload_n 1, 1, [], 0), (40, .ifCond .eq 80, 3, [69], 0), (43, .iconst 0, 1, [], 0), (44, .istore_n 1, 1, [], 0), (45, .iconst 0, 1, [], 0), (46, .istore_n 2, 1, [], 0), (47, .iload_n 2, 1, [], 0), (48, .aload_n 0, 1, [], 0), (49, .getfield 175, 3, [11, 13], 0), (52, .if_icmp .ge 65, 3, [68], 0), (55, .aload_n 0, 1, [], 0), (56, .iload_n 2, 1, [], 0), (57, .iconst 0, 1, [], 0), (58, .invokevirtual 184, 3, [194, 2, 11], 0), (61, .istore_n 3, 1, [], 0), (62, .aload_n 0, 1, [], 0), (63, .iload_n 2, 1, [], 0), (64, .invokevirtual 292, 3, [229, 1, 11], 0), (67, .istore 4, 2, [], 0), (69, .iload 4, 2, [], 0), (71, .ldc_w 281, 3, [], 99999999), (74, .if_icmp .eq 37, 3, [66], 0), (77, .aload_n 0, 1, [], 0), (78, .getfield 35, 3, [11, 32], 0), (81, .iload_n 3, 1, [], 0), (82, .iaload, 1, [], 0), (83, .iconst (-1), 1, [], -1), (84, .if_icmp .eq 17, 3, [59], 0), (87, .aload_n 0, 1, [], 0), (88, .getfield 35, 3, [11, 32], 0), (91, .iload_n 3, 1, [], 0), (92, .iaload, 1, [], 0), (93, .iload 4, 2, [], 0), (95, .if_icmp .gt 6, 3, [59], 0), (98, .goto 13, 3, [66], 0), (101, .aload_n 0, 1, [], 0), (102, .getfield 35, 3, [11, 32], 0), (105, .iload_n 3, 1, [], 0), (106, .iload 4, 2, [], 0), (108, .iastore, 1, [], 0), (109, .iconst 1, 1, [], 1), (110, .istore_n 1, 1, [], 0), (111, .iinc 2 1, 3, [], 0), (114, .goto (-67), 3, [30], 0), (117, .goto (-78), 3, [24], 0), (120, .return_, 1, [1, 0, 0], 0)]
/-- X12_chief -/
def cd_231 : List PEn := [(0, .aload_n 0, 1, [], 0), (1, .iload_n 1, 1, [], 0), (2, .invokevirtual 238, 3, [189, 1, 11], 0), (5, .ifCond .ne 6, 3, [6], 0), (8, .bipush (-2), 2, [], -2), (10, .ireturn, 1, [0, 0, 0], 0), (11, .iload_n 2, 1, [], 0), (12, .tableswitch 102 0 6 #[44, 49, 74, 79, 84, 84, 99], 44, [40, 8, 11, 24, 27, 30, 30, 39], 0), (56, .aload_n 0, 1, [], 0), (57, .invokevirtual 295, 3, [223, 0, 11], 0), (60, .ireturn, 1, [0, 0, 0], 0), (61, .aload_n 0, 1, [], 0), (62, .getfield 172, 3, [11, 12], 0), (65, .ifCond .ne 7, 3, [16], 0), (68, .iconst 0, 1, [], 0), (69, .goto 16, 3, [23], 0), (72, .aload_n 0, 1, [], 0), (73, .iconst 1, 1, [], 1), (74, .aload_n 0, 1, [], 0), (75, .invokevirtual 295, 3, [223, 0, 11], 0), (78, .ishl, 1, [], 0), (79, .invokevirtual 196, 3, [197, 1, 11], 0), (82, .invokestatic 262, 3, [195, 1], 0), (85, .ireturn, 1, [0, 0, 0], 0), (86, .aload_n 0, 1, [], 0), (87, .invokevirtual 298, 3, [224, 0, 11], 0), (90, .ireturn, 1, [0, 0, 0], 0), (91, .aload_n 0, 1, [], 0), (92, .invokevirtual 301, 3, [226, 0, 11], 0), (95, .ireturn, 1, [0, 0, 0], 0), (96, .aload_n 0, 1, [], 0), (97, .iload_n 2, 1, [], 0), (98, .iconst 4, 1, [], 4), (99, .if_icmp .ne 7, 3, [36], 0), (102, .iconst 1, 1, [], 1), (103, .goto 4, 3, [37], 0), (106, .iconst 0, 1, [], 0), (107, .invokevirtual 304, 3, [228, 1, 11], 0), (110, .ireturn, 1, [0, 0, 0], 0), (111, .goto 6, 3, [42], 0), (114, .bipush (-2), 2, [], -2), (116, .ireturn, 1, [0, 0, 0], 0), (117, .aload_n 0, 1, [], 0), (118, .invokevirtual 308, 3, [230, 0, 11], 0), (121, .iconst (-1), 1, [], -1), (122, .istore_n 3, 1, [], 0), (123, .iconst 0, 1, [], 0), (124, .istore 4, 2, [], 0), (126, .iload 4, 2, [], 0), (128, .aload_n 0, 1, [], 0), (129, .getfield 172, 3, [11, 12], 0), (132, .if_icmp .ge 32, 3, [67], 0), (135, .aload_n 0, 1, [], 0), (136, .getfield 35, 3, [11, 32], 0), (139, .iload 4, 2, [], 0), (141, .iaload, 1, [], 0), (142, .iload_n 3, 1, [], 0), (143, .if_icmp .le 13, 3, [63], 0), (146, .aload_n 0, 1, [], 0), (147, .getfield 35, 3, [11, 32], 0), (150, .iload 4, 2, [], 0), (152, .iaload, 1, [], 0), (153, .goto 4, 3, [64], 0), (156, .iload_n 3, 1, [], 0), (157, .istore_n 3, 1, [], 0), (158, .iinc 4 1, 3, [], 0), (161, .goto (-35), 3, [48], 0), (164, .iload_n 3, 1, [], 0), (165, .ireturn, 1, [0, 0, 0], 0)]
/-- X12_rank -/
def cd_232 : List PEn := [(0, .aload_n 0, 1, [], 0), (1, .iload_n 1, 1, [], 0), (2, .invokevirtual 238, 3, [189, 1, 11], 0), (5, .ifCond .eq 11, 3, [8], 0), (8, .aload_n 0, 1, [], 0), (9, .iload_n 2, 1, [], 0), (10, .invokevirtual 241, 3, [190, 1, 11], 0), (13, .ifCond .ne 5, 3, [10], 0), (16, .iconst (-1), 1, [], -1), (17, .ireturn, 1, [0, 0, 0], 0), (18, .aload_n 0, 1, [], 0), (19, .invokevirtual 308, 3, [230, 0, 11], 0), (22, .aload_n 0, 1, [], 0), (23, .getfield 35, 3, [11, 32], 0), (26, .iload_n 2, 1, [], 0), (27, .iaload, 1, [], 0), (28, .ireturn, 1, [0, 0, 0], 0)]
/-- X12_harmOf -/
def cd_233 : List PEn := [(0, .aload_n 0, 1, [], 0), (1, .invokevirtual 178, 3, [201, 0, 11], 0), (4, .aload_n 0, 1, [], 0), (5, .getfield 23, 3, [11, 26], 0), (8, .iload_n 2, 1, [], 0), (9, .iaload, 1, [], 0), (10, .istore_n 3, 1, [], 0), (11, .aload_n 0, 1, [], 0), (12, .dup, 1, [], 0), (13, .getfield 193, 3, [11, 16], 0), (16, .iconst 1, 1, [], 1), (17, .iload_n 1, 1, [], 0), (18, .ishl, 1, [], 0), (19, .ior, 1, [], 0), (20, .putfield 193, 3, [11, 16, 0, 0], 0), (23, .aload_n 0, 1, [], 0), (24, .invokevirtual 223, 3, [199, 0, 11], 0), (27, .aload_n 0, 1, [], 0), (28, .getfield 23, 3, [11, 26], 0), (31, .iload_n 2, 1, [], 0), (32, .iaload, 1, [], 0), (33, .iload_n 3, 1, [], 0), (34, .isub, 1, [], 0), (35, .ireturn, 1, [0, 0, 0], 0)]
/-- X12_harm -/
def cd_234 : List PEn := [(0, .aload_n 0, 1, [], 0), (1, .iload_n 1, 1, [], 0), (2, .invokevirtual 238, 3, [189, 1, 11], 0), (5, .ifCond .eq 33, 3, [20], 0), (8, .aload_n 0, 1, [], 0), (9, .iload_n 2, 1, [], 0), (10, .invokevirtual 241, 3, [190, 1, 11], 0), (13, .ifCond .eq 25, 3, [20], 0), (16, .aload_n 0, 1, [], 0), (17, .iload_n 3, 1, [], 0), (18, .invokevirtual 241, 3, [190, 1, 11], 0), (21, .ifCond .eq 17, 3, [20], 0), (24, .iload_n 2, 1, [], 0), (25, .iload_n 3, 1, [], 0), (26, .if_icmp .eq 12, 3, [20], 0), (29, .aload_n 0, 1, [], 0), (30, .iload_n 2, 1, [], 0), (31, .iload_n 3, 1, [], 0), (32, .invokevirtual 311, 3, [233, 2, 11], 0), (35, .goto 6, 3, [21], 0), (38, .sipush (-999), 3, [], -999), (41, .ireturn, 1, [0, 0, 0], 0)]
/-- X12_foe -/
def cd_235 : List PEn := [(0, .aload_n 0, 1, [], 0), (1, .iload_n 1, 1, [], 0), (2, .invokevirtual 238, 3, [189, 1, 11], 0), (5, .ifCond .eq 20, 3, [13], 0), (8, .aload_n 0, 1, [], 0), (9, .iload_n 2, 1, [], 0), (10, .invokevirtual 241, 3, [190, 1, 11], 0), (13, .ifCond .eq 12, 3, [13], 0), (16, .iload_n 3, 1, [], 0), (17, .iconst 0, 1, [], 0), (18, .iconst 3, 1, [], 3), (19, .invokestatic 108, 3, [161, 3], 0), (22, .ifCond .ne 6, 3, [15], 0), (25, .bipush (-2), 2, [], -2), (27, .ireturn, 1, [0, 0, 0], 0), (28, .iconst (-1), 1, [], -1), (29, .istore 4, 2, [], 0), (31, .iconst 0, 1, [], 0), (32, .istore 5, 2, [], 0), (34, .iconst 0, 1, [], 0), (35, .istore 6, 2, [], 0), (37, .iload 6, 2, [], 0), (39, .aload_n 0, 1, [], 0), (40, .getfield 172, 3, [11, 12], 0), (43, .if_icmp .ge 61, 3, [53], 0), (46, .iload 6, 2, [], 0), (48, .iload_n 2, 1, [], 0), (49, .if_icmp .ne 6, 3, [29], 0), (52, .goto 46, 3, [51], 0), (55, .iload_n 3, 1, [], 0), (56, .iconst 2, 1, [], 2), (57, .if_icmp .ge 13, 3, [37], 0), (60, .aload_n 0, 1, [], 0), (61, .iload 6, 2, [], 0), (63, .iload_n 2, 1, [], 0), (64, .invokevirtual 311, 3, [233, 2, 11], 0), (67, .goto 11, 3, [42], 0), (70, .aload_n 0, 1, [], 0), (71, .iload 6, 2, [], 0), (73, .iload_n 2, 1, [], 0), (74, .invokevirtual 311, 3, [233, 2, 11], 0), (77, .ineg, 1, [], 0), (78, .istore 7, 2, [], 0), (80, .iload 7, 2, [], 0), (82, .iload 5, 2, [], 0), (84, .if_icmp .gt 6, 3, [47], 0), (87, .goto 11, 3, [51], 0), (90, .iload 6, 2, [], 0), (92, .istore 4, 2, [], 0), (94, .iload 7, 2, [], 0), (96, .istore 5, 2, [], 0), (98, .iinc 6 1, 3, [], 0), (101, .goto (-64), 3, [21], 0), (104, .iload_n 3, 1, [], 0), (105, .iconst 2, 1, [], 2), (106, .irem, 1, [], 0), (107, .ifCond .ne 8, 3, [59], 0), (110, .iload 4, 2, [], 0), (112, .goto 5, 3, [60], 0), (115, .iload 5, 2, [], 0), (117, .ireturn, 1, [0, 0, 0], 0)]
/-- X12_buyersBy -/
def cd_236 : List PEn := [(0, .aload_n 0, 1, [], 0), (1, .invokevirtual 178, 3, [201, 0, 11], 0), (4, .aload_n 0, 1, [], 0), (5, .iload_n 2, 1, [], 0), (6, .putfield 205, 3, [11, 15, 0, 0], 0), (9, .aload_n 0, 1, [], 0), (10, .iload_n 1, 1, [], 0), (11, .invokevirtual 256, 3, [206, 1, 11], 0), (14, .aload_n 0, 1, [], 0), (15, .getfield 244, 3, [11, 29], 0), (18, .ireturn, 1, [0, 0, 0], 0)]
/-- X12_sale -/
def cd_237 : List PEn := [(0, .aload_n 0, 1, [], 0), (1, .iload_n 1, 1, [], 0), (2, .invokevirtual 238, 3, [189, 1, 11], 0), (5, .ifCond .eq 22, 3, [14], 0), (8, .iload_n 2, 1, [], 0), (9, .iconst 1, 1, [], 1), (10, .bipush 9, 2, [], 9), (12, .invokestatic 108, 3, [161, 3], 0), (15, .ifCond .eq 12, 3, [14], 0), (18, .iload_n 3, 1, [], 0), (19, .iconst 0, 1, [], 0), (20, .iconst 2, 1, [], 2), (21, .invokestatic 108, 3, [161, 3], 0), (24, .ifCond .ne 5, 3, [16], 0), (27, .iconst (-1), 1, [], -1), (28, .ireturn, 1, [0, 0, 0], 0), (29, .iconst 0, 1, [], 0), (30, .istore 4, 2, [], 0), (32, .iconst 0, 1, [], 0), (33, .istore 5, 2, [], 0), (35, .aload_n 0, 1, [], 0), (36, .iload_n 2, 1, [], 0), (37, .iconst 0, 1, [], 0), (38, .invokevirtual 314, 3, [236, 2, 11], 0), (41, .istore 6, 2, [], 0), (43, .iconst 1, 1, [], 1), (44, .istore 7, 2, [], 0), (46, .iload 7, 2, [], 0), (48, .bipush 100, 2, [], 100), (50, .if_icmp .ge 46, 3, [51], 0), (53, .aload_n 0, 1, [], 0), (54, .iload_n 2, 1, [], 0), (55, .iload 7, 2, [], 0), (57, .invokevirtual 314, 3, [236, 2, 11], 0), (60, .istore 8, 2, [], 0), (62, .iload 7, 2, [], 0), (64, .iload 8, 2, [], 0), (66, .imul, 1, [], 0), (67, .iload 5, 2, [], 0), (69, .if_icmp .gt 6, 3, [41], 0), (72, .goto 18, 3, [49], 0), (75, .iload 7, 2, [], 0), (77, .istore 4, 2, [], 0), (79, .iload 7, 2, [], 0), (81, .iload 8, 2, [], 0), (83, .imul, 1, [], 0), (84, .istore 5, 2, [], 0), (86, .iload 8, 2, [], 0), (88, .istore 6, 2, [], 0), (90, .iinc 7 1, 3, [], 0), (93, .goto (-47), 3, [27], 0), (96, .iload_n 3, 1, [], 0), (97, .ifCond .ne 8, 3, [55], 0), (100, .iload 4, 2, [], 0), (102, .goto 15, 3, [61], 0), (105, .iload_n 3, 1, [], 0), (106, .iconst 1, 1, [], 1), (107, .if_icmp .ne 8, 3, [60], 0), (110, .iload 5, 2, [], 0), (112, .goto 5, 3, [61], 0), (115, .iload 6, 2, [], 0), (117, .ireturn, 1, [0, 0, 0], 0)]
/-- X12_isRuinedBy -/
def cd_238 : List PEn := [(0, .aload_n 0, 1, [], 0), (1, .invokevirtual 178, 3, [201, 0, 11], 0), (4, .aload_n 0, 1, [], 0), (5, .iload_n 1, 1, [], 0), (6, .putfield 202, 3, [11, 14, 0, 0], 0), (9, .aload_n 0, 1, [], 0), (10, .invokevirtual 223, 3, [199, 0, 11], 0), (13, .iconst 0, 1, [], 0), (14, .istore_n 3, 1, [], 0), (15, .aload_n 0, 1, [], 0), (16, .getfield 208, 3, [11, 19], 0), (19, .iload_n 2, 1, [], 0), (20, .if_icmp .ge 28, 3, [26], 0), (23, .iload_n 3, 1, [], 0), (24, .ifCond .ne 24, 3, [26], 0), (27, .aload_n 0, 1, [], 0), (28, .invokevirtual 268, 3, [202, 0, 11], 0), (31, .aload_n 0, 1, [], 0), (32, .getfield 229, 3, [11, 24], 0), (35, .iconst (-1), 1, [], -1), (36, .if_icmp .eq 7, 3, [23], 0), (39, .iconst 1, 1, [], 1), (40, .goto 4, 3, [24], 0), (43, .iconst 0, 1, [], 0), (44, .istore_n 3, 1, [], 0), (45, .goto (-30), 3, [9], 0), (48, .iload_n 3, 1, [], 0), (49, .ireturn, 1, [1, 0, 0], 0)]
/-- X12_top -/
def cd_239 : List PEn := [(0, .aload_n 0, 1, [], 0), (1, .iload_n 1, 1, [], 0), (2, .invokevirtual 238, 3, [189, 1, 11], 0), (5, .ifCond .eq 13, 3, [9], 0), (8, .iload_n 2, 1, [], 0), (9, .iconst 1, 1, [], 1), (10, .bipush 50, 2, [], 50), (12, .invokestatic 108, 3, [161, 3], 0), (15, .ifCond .ne 5, 3, [11], 0), (18, .iconst (-1), 1, [], -1), (19, .ireturn, 1, [0, 0, 0], 0), (20, .bipush 99, 2, [], 99), (22, .istore_n 3, 1, [], 0), (23, .aload_n 0, 1, [], 0), (24, .iload_n 3, 1, [], 0), (25, .iload_n 2, 1, [], 0), (26, .invokevirtual 317, 3, [238, 2, 11], 0), (29, .ifCond .eq 9, 3, [20], 0), (32, .iinc 3 (-1), 3, [], 0), (35, .goto (-12), 3, [13], 0), (38, .iload_n 3, 1, [], 0), (39, .ireturn, 1, [0, 0, 0], 0)]
/-- X12_richestOf -/
def cd_240 : List PEn := [(0, .aload_n 0, 1, [], 0), (1, .getfield 172, 3, [11, 12], 0), (4, .ifCond .ne 7, 3, [5], 0), (7, .iconst (-1), 1, [], -1), (8, .goto 4, 3, [6], 0), (11, .iconst 0, 1, [], 0), (12, .istore_n 1, 1, [], 0), (13, .iconst 1, 1, [], 1), (14, .istore_n 2, 1, [], 0), (15, .iload_n 2, 1, [], 0), (16, .aload_n 0, 1, [], 0), (17, .getfield 172, 3, [11, 12], 0), (20, .if_icmp .ge 30, 3, [28], 0), (23, .aload_n 0, 1, [], 0), (24, .getfield 20, 3, [11, 25], 0), (27, .iload_n 2, 1, [], 0), (28, .iaload, 1, [], 0), (29, .aload_n 0, 1, [], 0), (30, .getfield 20, 3, [11, 25], 0), (33, .iload_n 1, 1, [], 0), (34, .iaload, 1, [], 0), (35, .if_icmp .le 7, 3, [24], 0), (38, .iload_n 2, 1, [], 0), (39, .goto 4, 3, [25], 0), (42, .iload_n 1, 1, [], 0), (43, .istore_n 1, 1, [], 0), (44, .iinc 2 1, 3, [], 0), (47, .goto (-32), 3, [9], 0), (50, .iload_n 1, 1, [], 0), (51, .ireturn, 1, [0, 0, 0], 0)]
/-- X12_poorestOf -/
def cd_241 : List PEn := [(0, .aload_n 0, 1, [], 0), (1, .getfield 172, 3, [11, 12], 0), (4, .ifCond .ne 7, 3, [5], 0), (7, .iconst (-1), 1, [], -1), (8, .goto 4, 3, [6], 0), (11, .iconst 0, 1, [], 0), (12, .istore_n 1, 1, [], 0), (13, .iconst 1, 1, [], 1), (14, .istore_n 2, 1, [], 0), (15, .iload_n 2, 1, [], 0), (16, .aload_n 0, 1, [], 0), (17, .getfield 172, 3, [11, 12], 0), (20, .if_icmp .ge 30, 3, [28], 0), (23, .aload_n 0, 1, [], 0), (24, .getfield 20, 3, [11, 25], 0), (27, .iload_n 2, 1, [], 0), (28, .iaload, 1, [], 0), (29, .aload_n 0, 1, [], 0), (30, .getfield 20, 3, [11, 25], 0), (33, .iload_n 1, 1, [], 0), (34, .iaload, 1, [], 0), (35, .if_icmp .ge 7, 3, [24], 0), (38, .iload_n 2, 1, [], 0), (39, .goto 4, 3, [25], 0), (42, .iload_n 1, 1, [], 0), (43, .istore_n 1, 1, [], 0), (44, .iinc 2 1, 3, [], 0), (47, .goto (-32), 3, [9], 0), (50, .iload_n 1, 1, [], 0), (51, .ireturn, 1, [0, 0, 0], 0)]
/-- X12_goodsTogether -/
def cd_242 : List PEn := [(0, .iconst 0, 1, [], 0), (1, .istore_n 1, 1, [], 0), (2, .iconst 0, 1, [], 0), (3, .istore_n 2, 1, [], 0), (4, .iload_n 2, 1, [], 0), (5, .aload_n 0, 1, [], 0), (6, .getfield 172, 3, [11, 12], 0), (9, .if_icmp .ge 18, 3, [17], 0), (12, .iload_n 1, 1, [], 0), (13, .aload_n 0, 1, [], 0), (14, .getfield 20, 3, [11, 25], 0), (17, .iload_n 2, 1, [], 0), (18, .iaload, 1, [], 0), (19, .iadd, 1, [], 0), (20, .istore_n 1, 1, [], 0), (21, .iinc 2 1, 3, [], 0), (24, .goto (-20), 3, [4], 0), (27, .iload_n 1, 1, [], 0), (28, .ireturn, 1, [0, 0, 0], 0)]
/-- X12_behind -/
def cd_243 : List PEn := [(0, .aload_n 0, 1, [], 0), (1, .iload_n 1, 1, [], 0), (2, .invokevirtual 238, 3, [189, 1, 11], 0), (5, .ifCond .eq 13, 3, [9], 0), (8, .iload_n 2, 1, [], 0), (9, .iconst 0, 1, [], 0), (10, .bipush 50, 2, [], 50), (12, .invokestatic 108, 3, [161, 3], 0), (15, .ifCond .ne 6, 3, [11], 0), (18, .bipush (-2), 2, [], -2), (20, .ireturn, 1, [0, 0, 0], 0), (21, .aload_n 0, 1, [], 0), (22, .getfield 208, 3, [11, 19], 0), (25, .iload_n 2, 1, [], 0), (26, .if_icmp .ge 10, 3, [18], 0), (29, .aload_n 0, 1, [], 0), (30, .invokevirtual 268, 3, [202, 0, 11], 0), (33, .goto (-12), 3, [11], 0), (36, .iload_n 3, 1, [], 0), (37, .tableswitch 51 0 3 #[31, 36, 41, 46], 31, [32, 20, 23, 26, 29], 0), (68, .aload_n 0, 1, [], 0), (69, .invokevirtual 320, 3, [242, 0, 11], 0), (72, .ireturn, 1, [0, 0, 0], 0), (73, .aload_n 0, 1, [], 0), (74, .invokevirtual 323, 3, [240, 0, 11], 0), (77, .ireturn, 1, [0, 0, 0], 0), (78, .aload_n 0, 1, [], 0), (79, .invokevirtual 326, 3, [241, 0, 11], 0), (82, .ireturn, 1, [0, 0, 0], 0), (83, .aload_n 0, 1, [], 0), (84, .getfield 214, 3, [11, 21], 0), (87, .ireturn, 1, [0, 0, 0], 0), (88, .iload_n 3, 1, [], 0), (89, .bipush 10, 2, [], 10), (91, .bipush 16, 2, [], 16), (93, .invokestatic 108, 3, [161, 3], 0), (96, .ifCond .eq 26, 3, [50], 0), (99, .aload_n 0, 1, [], 0), (100, .iload_n 3, 1, [], 0), (101, .bipush 10, 2, [], 10), (103, .isub, 1, [], 0), (104, .invokevirtual 241, 3, [190, 1, 11], 0), (107, .ifCond .eq 15, 3, [50], 0), (110, .aload_n 0, 1, [], 0), (111, .getfield 20, 3, [11, 25], 0), (114, .iload_n 3, 1, [], 0), (115, .bipush 10, 2, [], 10), (117, .isub, 1, [], 0), (118, .iaload, 1, [], 0), (119, .goto 5, 3, [51], 0), (122, .bipush (-2), 2, [], -2), (124, .ireturn, 1, [0, 0, 0], 0)]
/-- X12_passedOf -/
def cd_244 : List PEn := [(0, .aload_n 0, 1, [], 0), (1, .invokevirtual 323, 3, [240, 0, 11], 0), (4, .istore_n 1, 1, [], 0), (5, .aload_n 0, 1, [], 0), (6, .getfield 208, 3, [11, 19], 0), (9, .bipush 50, 2, [], 50), (11, .if_icmp .ge 20, 3, [16], 0), (14, .aload_n 0, 1, [], 0), (15, .invokevirtual 268, 3, [202, 0, 11], 0), (18, .aload_n 0, 1, [], 0), (19, .invokevirtual 323, 3, [240, 0, 11], 0), (22, .iload_n 1, 1, [], 0), (23, .if_icmp .eq (-18), 3, [3], 0), (26, .aload_n 0, 1, [], 0), (27, .getfield 208, 3, [11, 19], 0), (30, .ireturn, 1, [0, 0, 0], 0), (31, .iconst (-1), 1, [], -1), (32, .ireturn, 1, [0, 0, 0], 0)]
/-- X12_levelOf -/
def cd_245 : List PEn := [(0, .iconst 0, 1, [], 0), (1, .istore_n 1, 1, [], 0), (2, .iload_n 1, 1, [], 0), (3, .bipush 50, 2, [], 50), (5, .if_icmp .gt 88, 3, [53], 0), (8, .iconst 0, 1, [], 0), (9, .istore_n 2, 1, [], 0), (10, .iload_n 2, 1, [], 0), (11, .bipush 7, 2, [], 7), (13, .if_icmp .ge 21, 3, [20], 0), (16, .aload_n 0, 1, [], 0), (17, .getfield 38, 3, [11, 33], 0), (20, .iload_n 2, 1, [], 0), (21, .aload_n 0, 1, [], 0), (22, .getfield 20, 3, [11, 25], 0), (25, .iload_n 2, 1, [], 0), (26, .iaload, 1, [], 0), (27, .iastore, 1, [], 0), (28, .iinc 2 1, 3, [], 0), (31, .goto (-21), 3, [7], 0), (34, .aload_n 0, 1, [], 0), (35, .invokevirtual 268, 3, [202, 0, 11], 0), (38, .iconst 1, 1, [], 1), (39, .istore_n 2, 1, [], 0), (40, .iconst 0, 1, [], 0), (41, .istore_n 3, 1, [], 0), (42, .iload_n 3, 1, [], 0), (43, .aload_n 0, 1, [], 0), (44, .getfield 172, 3, [11, 12], 0), (47, .if_icmp .ge 34, 3, [47], 0), (50, .iload_n 2, 1, [], 0), (51, .ifCond .eq 22, 3, [43], 0), (54, .aload_n 0, 1, [], 0), (55, .getfield 20, 3, [11, 25], 0), (58, .iload_n 3, 1, [], 0), (59, .iaload, 1, [], 0), (60, .aload_n 0, 1, [], 0), (61, .getfield 38, 3, [11, 33], 0), (64, .iload_n 3, 1, [], 0), (65, .iaload, 1, [], 0), (66, .if_icmp .ne 7, 3, [43], 0), (69, .iconst 1, 1, [], 1), (70, .goto 4, 3, [44], 0), (73, .iconst 0, 1, [], 0), (74, .istore_n 2, 1, [], 0), (75, .iinc 3 1, 3, [], 0), (78, .goto (-36), 3, [26], 0), (81, .iload_n 2, 1, [], 0), (82, .ifCond .eq 5, 3, [51], 0), (85, .iload_n 1, 1, [], 0), (86, .ireturn, 1, [0, 0, 0], 0), (87, .iinc 1 1, 3, [], 0), (90, .goto (-88), 3, [2], 0), (93, .iconst (-1), 1, [], -1), (94, .ireturn, 1, [0, 0, 0], 0)]
/-- X12_spreadOf -/
def cd_246 : List PEn := [(0, .iconst 0, 1, [], 0), (1, .istore_n 1, 1, [], 0), (2, .ldc_w 281, 3, [], 99999999), (5, .istore_n 2, 1, [], 0), (6, .iconst 0, 1, [], 0), (7, .istore_n 3, 1, [], 0), (8, .iload_n 3, 1, [], 0), (9, .aload_n 0, 1, [], 0), (10, .getfield 172, 3, [11, 12], 0), (13, .if_icmp .ge 59, 3, [42], 0), (16, .aload_n 0, 1, [], 0), (17, .getfield 23, 3, [11, 26], 0), (20, .iload_n 3, 1, [], 0), (21, .iaload, 1, [], 0), (22, .iload_n 1, 1, [], 0), (23, .if_icmp .le 12, 3, [21], 0), (26, .aload_n 0, 1, [], 0), (27, .getfield 23, 3, [11, 26], 0), (30, .iload_n 3, 1, [], 0), (31, .iaload, 1, [], 0), (32, .goto 4, 3, [22], 0), (35, .iload_n 1, 1, [], 0), (36, .istore_n 1, 1, [], 0), (37, .aload_n 0, 1, [], 0), (38, .iload_n 3, 1, [], 0), (39, .invokevirtual 199, 3, [198, 1, 11], 0), (42, .ifCond .ne 22, 3, [38], 0), (45, .aload_n 0, 1, [], 0), (46, .getfield 23, 3, [11, 26], 0), (49, .iload_n 3, 1, [], 0), (50, .iaload, 1, [], 0), (51, .iload_n 2, 1, [], 0), (52, .if_icmp .ge 12, 3, [38], 0), (55, .aload_n 0, 1, [], 0), (56, .getfield 23, 3, [11, 26], 0), (59, .iload_n 3, 1, [], 0), (60, .iaload, 1, [], 0), (61, .goto 4, 3, [39], 0), (64, .iload_n 2, 1, [], 0), (65, .istore_n 2, 1, [], 0), (66, .iinc 3 1, 3, [], 0), (69, .goto (-61), 3, [6], 0), (72, .iload_n 2, 1, [], 0), (73, .ldc_w 281, 3, [], 99999999), (76, .if_icmp .ne 7, 3, [47], 0), (79, .iconst 0, 1, [], 0), (80, .goto 6, 3, [50], 0), (83, .iload_n 1, 1, [], 0), (84, .iload_n 2, 1, [], 0), (85, .isub, 1, [], 0), (86, .ireturn, 1, [0, 0, 0], 0)]
/-- X12_unevenOf -/
def cd_247 : List PEn := [(0, .iconst 0, 1, [], 0), (1, .istore_n 1, 1, [], 0), (2, .iconst 0, 1, [], 0), (3, .istore_n 2, 1, [], 0), (4, .iload_n 2, 1, [], 0), (5, .aload_n 0, 1, [], 0), (6, .getfield 172, 3, [11, 12], 0), (9, .if_icmp .ge 76, 3, [49], 0), (12, .iconst 0, 1, [], 0), (13, .istore_n 3, 1, [], 0), (14, .iload_n 3, 1, [], 0), (15, .iload_n 2, 1, [], 0), (16, .if_icmp .ge 63, 3, [47], 0), (19, .iload_n 1, 1, [], 0), (20, .aload_n 0, 1, [], 0), (21, .iload_n 2, 1, [], 0), (22, .invokevirtual 199, 3, [198, 1, 11], 0), (25, .ifCond .ne 45, 3, [42], 0), (28, .aload_n 0, 1, [], 0), (29, .iload_n 3, 1, [], 0), (30, .invokevirtual 199, 3, [198, 1, 11], 0), (33, .ifCond .ne 37, 3, [42], 0), (36, .aload_n 0, 1, [], 0), (37, .getfield 20, 3, [11, 25], 0), (40, .iload_n 2, 1, [], 0), (41, .iaload, 1, [], 0), (42, .aload_n 0, 1, [], 0), (43, .getfield 20, 3, [11, 25], 0), (46, .iload_n 3, 1, [], 0), (47, .iaload, 1, [], 0), (48, .if_icmp .ne 22, 3, [42], 0), (51, .aload_n 0, 1, [], 0), (52, .getfield 23, 3, [11, 26], 0), (55, .iload_n 2, 1, [], 0), (56, .iaload, 1, [], 0), (57, .aload_n 0, 1, [], 0), (58, .getfield 23, 3, [11, 26], 0), (61, .iload_n 3, 1, [], 0), (62, .iaload, 1, [], 0), (63, .if_icmp .eq 7, 3, [42], 0), (66, .iconst 1, 1, [], 1), (67, .goto 4, 3, [43], 0), (70, .iconst 0, 1, [], 0), (71, .iadd, 1, [], 0), (72, .istore_n 1, 1, [], 0), (73, .iinc 3 1, 3, [], 0), (76, .goto (-62), 3, [10], 0), (79, .iinc 2 1, 3, [], 0), (82, .goto (-78), 3, [4], 0), (85, .iload_n 1, 1, [], 0), (86, .ireturn, 1, [0, 0, 0], 0)]
/-- X12_passed -/
def cd_248 : List PEn := [(0, .aload_n 0, 1, [], 0), (1, .iload_n 1, 1, [], 0), (2, .invokevirtual 238, 3, [189, 1, 11], 0), (5, .ifCond .ne 6, 3, [6], 0), (8, .bipush (-2), 2, [], -2), (10, .ireturn, 1, [0, 0, 0], 0), (11, .iload_n 2, 1, [], 0), (12, .tableswitch 52 0 3 #[32, 37, 42, 47], 32, [20, 8, 11, 14, 17], 0), (44, .aload_n 0, 1, [], 0), (45, .invokevirtual 329, 3, [244, 0, 11], 0), (48, .ireturn, 1, [0, 0, 0], 0), (49, .aload_n 0, 1, [], 0), (50, .invokevirtual 332, 3, [245, 0, 11], 0), (53, .ireturn, 1, [0, 0, 0], 0), (54, .aload_n 0, 1, [], 0), (55, .invokevirtual 335, 3, [246, 0, 11], 0), (58, .ireturn, 1, [0, 0, 0], 0), (59, .aload_n 0, 1, [], 0), (60, .invokevirtual 338, 3, [247, 0, 11], 0), (63, .ireturn, 1, [0, 0, 0], 0), (64, .bipush (-2), 2, [], -2), (66, .ireturn, 1, [0, 0, 0], 0)]
/-- X12_isYears -/
def cd_249 : List PEn := [(0, .aload_n 0, 1, [], 0), (1, .iconst 1, 1, [], 1), (2, .iload_n 1, 1, [], 0), (3, .invokevirtual 150, 3, [186, 2, 11], 0), (6, .ifCond .ne 5, 3, [7], 0), (9, .iconst 0, 1, [], 0), (10, .ireturn, 1, [1, 0, 0], 0), (11, .aload_n 0, 1, [], 0), (12, .iconst 1, 1, [], 1), (13, .iload_n 1, 1, [], 0), (14, .invokestatic 166, 3, [184, 2], 0), (17, .putfield 341, 3, [11, 34, 0, 0], 0), (20, .iconst 1, 1, [], 1), (21, .ireturn, 1, [1, 0, 0], 0)]
/-- X12_deed -/
def cd_250 : List PEn := [(0, .aload_n 0, 1, [], 0), (1, .iload_n 1, 1, [], 0), (2, .invokevirtual 344, 3, [249, 1, 11], 0), (5, .ifCond .ne 6, 3, [6], 0), (8, .bipush (-2), 2, [], -2), (10, .ireturn, 1, [0, 0, 0], 0), (11, .iload_n 2, 1, [], 0), (12, .iconst (-1), 1, [], -1), (13, .if_icmp .ne 22, 3, [19], 0), (16, .iload_n 3, 1, [], 0), (17, .ifCond .ne 15, 3, [17], 0), (20, .aload_n 0, 1, [], 0), (21, .getfield 7, 3, [11, 0], 0), (24, .aload_n 0, 1, [], 0), (25, .getfield 341, 3, [11, 34], 0), (28, .iaload, 1, [], 0), (29, .goto 5, 3, [18], 0), (32, .bipush (-2), 2, [], -2), (34, .ireturn, 1, [0, 0, 0], 0), (35, .iload_n 2, 1, [], 0), (36, .iconst 0, 1, [], 0), (37, .aload_n 0, 1, [], 0), (38, .getfield 7, 3, [11, 0], 0), (41, .aload_n 0, 1, [], 0), (42, .getfield 341, 3, [11, 34], 0), (45, .iaload, 1, [], 0), (46, .iconst 1, 1, [], 1), (47, .isub, 1, [], 0), (48, .invokestatic 108, 3, [161, 3], 0), (51, .ifCond .eq 32, 3, [49], 0), (54, .iload_n 3, 1, [], 0), (55, .iconst 0, 1, [], 0), (56, .iconst 1, 1, [], 1), (57, .invokestatic 108, 3, [161, 3], 0), (60, .ifCond .eq 23, 3, [49], 0), (63, .aload_n 0, 1, [], 0), (64, .getfield 7, 3, [11, 0], 0), (67, .aload_n 0, 1, [], 0), (68, .getfield 341, 3, [11, 34], 0), (71, .iconst 1, 1, [], 1), (72, .iadd, 1, [], 0), (73, .iconst 2, 1, [], 2), (74, .iload_n 2, 1, [], 0), (75, .imul, 1, [], 0), (76, .iadd, 1, [], 0), (77, .iload_n 3, 1, [], 0), (78, .iadd, 1, [], 0), (79, .iaload, 1, [], 0), (80, .goto 5, 3, [50], 0), (83, .bipush (-2), 2, [], -2), (85, .ireturn, 1, [0, 0, 0], 0)]
/-- X12_beginsYears -/
def cd_251 : List PEn := [(0, .aload_n 0, 1, [], 0), (1, .iconst 0, 1, [], 0), (2, .putfield 347, 3, [11, 35, 0, 0], 0), (5, .aload_n 0, 1, [], 0), (6, .iconst (-1), 1, [], -1), (7, .putfield 350, 3, [11, 36, 0, 0], 0), (10, .aload_n 0, 1, [], 0), (11, .aload_n 0, 1, [], 0), (12, .getfield 190, 3, [11, 18], 0), (15, .invokestatic 262, 3, [195, 1], 0), (18, .putfield 353, 3, [11, 37, 0, 0], 0), (21, .aload_n 0, 1, [], 0), (22, .iconst (-1), 1, [], -1), (23, .putfield 356, 3, [11, 38, 0, 0], 0), (26, .aload_n 0, 1, [], 0), (27, .ldc_w 281, 3, [], 99999999), (30, .putfield 359, 3, [11, 39, 0, 0], 0), (33, .iconst 0, 1, [], 0), (34, .istore_n 1, 1, [], 0), (35, .iload_n 1, 1, [], 0), (36, .bipush 7, 2, [], 7), (38, .if_icmp .ge 16, 3, [29], 0), (41, .aload_n 0, 1, [], 0), (42, .getfield 41, 3, [11, 40], 0), (45, .iload_n 1, 1, [], 0), (46, .iconst 0, 1, [], 0), (47, .iastore, 1, [], 0), (48, .iinc 1 1, 3, [], 0), (51, .goto (-16), 3, [19], 0), (54, .return_, 1, [1, 0, 0], 0)]
/-- X12_goesOn -/
def cd_252 : List PEn := [(0, .aload_n 0, 1, [], 0), (1, .getfield 208, 3, [11, 19], 0), (4, .bipush 50, 2, [], 50), (6, .if_icmp .lt 5, 3, [6], 0), (9, .iconst 0, 1, [], 0), (10, .ireturn, 1, [1, 0, 0], 0), (11, .aload_n 0, 1, [], 0), (12, .getfield 214, 3, [11, 21], 0), (15, .istore_n 1, 1, [], 0), (16, .aload_n 0, 1, [], 0), (17, .invokevirtual 268, 3, [202, 0, 11], 0), (20, .aload_n 0, 1, [], 0), (21, .getfield 214, 3, [11, 21], 0), (24, .iload_n 1, 1, [], 0), (25, .if_icmp .le 19, 3, [23], 0), (28, .aload_n 0, 1, [], 0), (29, .getfield 350, 3, [11, 36], 0), (32, .iconst (-1), 1, [], -1), (33, .if_icmp .ne 11, 3, [23], 0), (36, .aload_n 0, 1, [], 0), (37, .aload_n 0, 1, [], 0), (38, .getfield 217, 3, [11, 22], 0), (41, .putfield 350, 3, [11, 36, 0, 0], 0), (44, .aload_n 0, 1, [], 0), (45, .getfield 226, 3, [11, 23], 0), (48, .aload_n 0, 1, [], 0), (49, .getfield 359, 3, [11, 39], 0), (52, .if_icmp .ge 19, 3, [36], 0), (55, .aload_n 0, 1, [], 0), (56, .aload_n 0, 1, [], 0), (57, .getfield 226, 3, [11, 23], 0), (60, .putfield 359, 3, [11, 39, 0, 0], 0), (63, .aload_n 0, 1, [], 0), (64, .aload_n 0, 1, [], 0), (65, .getfield 208, 3, [11, 19], 0), (68, .putfield 356, 3, [11, 38, 0, 0], 0), (71, .iconst 1, 1, [], 1), (72, .ireturn, 1, [1, 0, 0], 0)]
/-- X12_buys -/
def cd_253 : List PEn := [(0, .aload_n 0, 1, [], 0), (1, .iload_n 1, 1, [], 0), (2, .invokevirtual 241, 3, [190, 1, 11], 0), (5, .ifCond .eq 11, 3, [8], 0), (8, .aload_n 0, 1, [], 0), (9, .iload_n 1, 1, [], 0), (10, .invokevirtual 250, 3, [203, 1, 11], 0), (13, .ifCond .ne 5, 3, [10], 0), (16, .iconst 0, 1, [], 0), (17, .ireturn, 1, [1, 0, 0], 0), (18, .aload_n 0, 1, [], 0), (19, .dup, 1, [], 0), (20, .getfield 347, 3, [11, 35], 0), (23, .aload_n 0, 1, [], 0), (24, .getfield 205, 3, [11, 15], 0), (27, .iadd, 1, [], 0), (28, .putfield 347, 3, [11, 35, 0, 0], 0), (31, .aload_n 0, 1, [], 0), (32, .getfield 41, 3, [11, 40], 0), (35, .iload_n 1, 1, [], 0), (36, .dup2, 1, [], 0), (37, .iaload, 1, [], 0), (38, .iconst 1, 1, [], 1), (39, .iadd, 1, [], 0), (40, .iastore, 1, [], 0), (41, .aload_n 0, 1, [], 0), (42, .iload_n 1, 1, [], 0), (43, .invokevirtual 253, 3, [204, 1, 11], 0), (46, .iconst 1, 1, [], 1), (47, .ireturn, 1, [1, 0, 0], 0)]
/-- X12_loses -/
def cd_254 : List PEn := [(0, .aload_n 0, 1, [], 0), (1, .iload_n 1, 1, [], 0), (2, .invokevirtual 241, 3, [190, 1, 11], 0), (5, .ifCond .eq 14, 3, [11], 0), (8, .aload_n 0, 1, [], 0), (9, .getfield 193, 3, [11, 16], 0), (12, .iload_n 1, 1, [], 0), (13, .ishr, 1, [], 0), (14, .iconst 1, 1, [], 1), (15, .iand, 1, [], 0), (16, .ifCond .ne 5, 3, [13], 0), (19, .iconst 0, 1, [], 0), (20, .ireturn, 1, [1, 0, 0], 0), (21, .aload_n 0, 1, [], 0), (22, .dup, 1, [], 0), (23, .getfield 193, 3, [11, 16], 0), (26, .iconst 1, 1, [], 1), (27, .iload_n 1, 1, [], 0), (28, .ishl, 1, [], 0), (29, .iconst (-1), 1, [], -1), (30, .ixor, 1, [], 0), (31, .iand, 1, [], 0), (32, .putfield 193, 3, [11, 16, 0, 0], 0), (35, .iconst 1, 1, [], 1), (36, .ireturn, 1, [1, 0, 0], 0)]
/-- X12_sets -/
def cd_255 : List PEn := [(0, .iload_n 1, 1, [], 0), (1, .ifCond .eq 10, 3, [5], 0), (4, .aload_n 0, 1, [], 0), (5, .getfield 202, 3, [11, 14], 0), (8, .goto 7, 3, [7], 0), (11, .aload_n 0, 1, [], 0), (12, .getfield 205, 3, [11, 15], 0), (15, .iload_n 2, 1, [], 0), (16, .if_icmp .ne 5, 3, [11], 0), (19, .iconst 0, 1, [], 0), (20, .ireturn, 1, [1, 0, 0], 0), (21, .aload_n 0, 1, [], 0), (22, .iload_n 1, 1, [], 0), (23, .ifCond .eq 7, 3, [16], 0), (26, .iload_n 2, 1, [], 0), (27, .goto 7, 3, [18], 0), (30, .aload_n 0, 1, [], 0), (31, .getfield 202, 3, [11, 14], 0), (34, .putfield 202, 3, [11, 14, 0, 0], 0), (37, .aload_n 0, 1, [], 0), (38, .iload_n 1, 1, [], 0), (39, .ifCond .eq 10, 3, [25], 0), (42, .aload_n 0, 1, [], 0), (43, .getfield 205, 3, [11, 15], 0), (46, .goto 4, 3, [26], 0), (49, .iload_n 2, 1, [], 0), (50, .putfield 205, 3, [11, 15, 0, 0], 0), (53, .iconst 1, 1, [], 1), (54, .ireturn, 1, [1, 0, 0], 0)]
/-- X12_cutsRule -/
def cd_256 : List PEn := [(0, .iload_n 1, 1, [], 0), (1, .aload_n 0, 1, [], 0), (2, .getfield 175, 3, [11, 13], 0), (5, .if_icmp .ge 15, 3, [12], 0), (8, .aload_n 0, 1, [], 0), (9, .getfield 181, 3, [11, 17], 0), (12, .iload_n 1, 1, [], 0), (13, .ishr, 1, [], 0), (14, .iconst 1, 1, [], 1), (15, .iand, 1, [], 0), (16, .iconst 1, 1, [], 1), (17, .if_icmp .ne 5, 3, [14], 0), (20, .iconst 0, 1, [], 0), (21, .ireturn, 1, [1, 0, 0], 0), (22, .aload_n 0, 1, [], 0), (23, .dup, 1, [], 0), (24, .getfield 181, 3, [11, 17], 0), (27, .iconst 1, 1, [], 1), (28, .iload_n 1, 1, [], 0), (29, .ishl, 1, [], 0), (30, .ior, 1, [], 0), (31, .putfield 181, 3, [11, 17, 0, 0], 0), (34, .iconst 1, 1, [], 1), (35, .ireturn, 1, [1, 0, 0], 0)]
/-- X12_does -/
def cd_257 : List PEn := [(0, .iload_n 1, 1, [], 0), (1, .tableswitch 68 0 4 #[35, 40, 46, 52, 52], 35, [23, 2, 5, 9, 13, 13], 0), (36, .aload_n 0, 1, [], 0), (37, .invokevirtual 362, 3, [252, 0, 11], 0), (40, .ireturn, 1, [1, 0, 0], 0), (41, .aload_n 0, 1, [], 0), (42, .iload_n 2, 1, [], 0), (43, .invokevirtual 366, 3, [253, 1, 11], 0), (46, .ireturn, 1, [1, 0, 0], 0), (47, .aload_n 0, 1, [], 0), (48, .iload_n 2, 1, [], 0), (49, .invokevirtual 369, 3, [254, 1, 11], 0), (52, .ireturn, 1, [1, 0, 0], 0), (53, .aload_n 0, 1, [], 0), (54, .iload_n 1, 1, [], 0), (55, .iconst 3, 1, [], 3), (56, .if_icmp .ne 7, 3, [19], 0), (59, .iconst 1, 1, [], 1), (60, .goto 4, 3, [20], 0), (63, .iconst 0, 1, [], 0), (64, .iload_n 2, 1, [], 0), (65, .invokevirtual 372, 3, [255, 2, 11], 0), (68, .ireturn, 1, [1, 0, 0], 0), (69, .aload_n 0, 1, [], 0), (70, .iload_n 2, 1, [], 0), (71, .invokevirtual 376, 3, [256, 1, 11], 0), (74, .ireturn, 1, [1, 0, 0], 0)]
/-- X12_doesOne -/
def cd_258 : List PEn := [(0, .aload_n 0, 1, [], 0), (1, .iload_n 1, 1, [], 0), (2, .iload_n 2, 1, [], 0), (3, .invokevirtual 379, 3, [257, 2, 11], 0), (6, .ifCond .ne 5, 3, [7], 0), (9, .iconst 0, 1, [], 0), (10, .ireturn, 1, [1, 0, 0], 0), (11, .aload_n 0, 1, [], 0), (12, .invokevirtual 223, 3, [199, 0, 11], 0), (15, .aload_n 0, 1, [], 0), (16, .aload_n 0, 1, [], 0), (17, .getfield 190, 3, [11, 18], 0), (20, .invokestatic 262, 3, [195, 1], 0), (23, .aload_n 0, 1, [], 0), (24, .getfield 353, 3, [11, 37], 0), (27, .if_icmp .le 13, 3, [20], 0), (30, .aload_n 0, 1, [], 0), (31, .getfield 190, 3, [11, 18], 0), (34, .invokestatic 262, 3, [195, 1], 0), (37, .goto 7, 3, [22], 0), (40, .aload_n 0, 1, [], 0), (41, .getfield 353, 3, [11, 37], 0), (44, .putfield 353, 3, [11, 37, 0, 0], 0), (47, .iconst 1, 1, [], 1), (48, .ireturn, 1, [1, 0, 0], 0)]
/-- X12_runs -/
def cd_259 : List PEn := [(0, .aload_n 0, 1, [], 0), (1, .invokevirtual 382, 3, [251, 0, 11], 0), (4, .aload_n 0, 1, [], 0), (5, .getfield 217, 3, [11, 22], 0), (8, .iload_n 1, 1, [], 0), (9, .if_icmp .ge 75, 3, [48], 0), (12, .aload_n 0, 1, [], 0), (13, .getfield 217, 3, [11, 22], 0), (16, .aload_n 0, 1, [], 0), (17, .getfield 7, 3, [11, 0], 0), (20, .aload_n 0, 1, [], 0), (21, .getfield 341, 3, [11, 34], 0), (24, .iaload, 1, [], 0), (25, .if_icmp .ge 59, 3, [48], 0), (28, .aload_n 0, 1, [], 0), (29, .aload_n 0, 1, [], 0), (30, .getfield 7, 3, [11, 0], 0), (33, .aload_n 0, 1, [], 0), (34, .getfield 341, 3, [11, 34], 0), (37, .iconst 1, 1, [], 1), (38, .iadd, 1, [], 0), (39, .iconst 2, 1, [], 2), (40, .aload_n 0, 1, [], 0), (41, .getfield 217, 3, [11, 22], 0), (44, .imul, 1, [], 0), (45, .iadd, 1, [], 0), (46, .iaload, 1, [], 0), (47, .aload_n 0, 1, [], 0), (48, .getfield 7, 3, [11, 0], 0), (51, .aload_n 0, 1, [], 0), (52, .getfield 341, 3, [11, 34], 0), (55, .iconst 2, 1, [], 2), (56, .iadd, 1, [], 0), (57, .iconst 2, 1, [], 2), (58, .aload_n 0, 1, [], 0), (59, .getfield 217, 3, [11, 22], 0), (62, .imul, 1, [], 0), (63, .iadd, 1, [], 0), (64, .iaload, 1, [], 0), (65, .invokevirtual 385, 3, [258, 2, 11], 0), (68, .ifCond .eq 16, 3, [48], 0), (71, .aload_n 0, 1, [], 0), (72, .dup, 1, [], 0), (73, .getfield 217, 3, [11, 22], 0), (76, .iconst 1, 1, [], 1), (77, .iadd, 1, [], 0), (78, .putfield 217, 3, [11, 22, 0, 0], 0), (81, .goto (-77), 3, [2], 0), (84, .return_, 1, [1, 0, 0], 0)]
/-- X12_stop -/
def cd_260 : List PEn := [(0, .aload_n 0, 1, [], 0), (1, .iload_n 1, 1, [], 0), (2, .invokevirtual 238, 3, [189, 1, 11], 0), (5, .ifCond .eq 11, 3, [8], 0), (8, .aload_n 0, 1, [], 0), (9, .iload_n 2, 1, [], 0), (10, .invokevirtual 344, 3, [249, 1, 11], 0), (13, .ifCond .ne 5, 3, [10], 0), (16, .iconst (-1), 1, [], -1), (17, .ireturn, 1, [0, 0, 0], 0), (18, .aload_n 0, 1, [], 0), (19, .bipush 40, 2, [], 40), (21, .invokevirtual 388, 3, [259, 1, 11], 0), (24, .aload_n 0, 1, [], 0), (25, .getfield 217, 3, [11, 22], 0), (28, .ireturn, 1, [0, 0, 0], 0)]
/-- X12_nowOf -/
def cd_261 : List PEn := [(0, .iload_n 1, 1, [], 0), (1, .tableswitch 87 0 7 #[47, 52, 57, 62, 67, 72, 77, 82], 47, [26, 2, 5, 8, 11, 14, 17, 20, 23], 0), (48, .aload_n 0, 1, [], 0), (49, .getfield 208, 3, [11, 19], 0), (52, .ireturn, 1, [0, 0, 0], 0), (53, .aload_n 0, 1, [], 0), (54, .getfield 211, 3, [11, 20], 0), (57, .ireturn, 1, [0, 0, 0], 0), (58, .aload_n 0, 1, [], 0), (59, .getfield 214, 3, [11, 21], 0), (62, .ireturn, 1, [0, 0, 0], 0), (63, .aload_n 0, 1, [], 0), (64, .getfield 193, 3, [11, 16], 0), (67, .ireturn, 1, [0, 0, 0], 0), (68, .aload_n 0, 1, [], 0), (69, .getfield 190, 3, [11, 18], 0), (72, .ireturn, 1, [0, 0, 0], 0), (73, .aload_n 0, 1, [], 0), (74, .getfield 202, 3, [11, 14], 0), (77, .ireturn, 1, [0, 0, 0], 0), (78, .aload_n 0, 1, [], 0), (79, .getfield 205, 3, [11, 15], 0), (82, .ireturn, 1, [0, 0, 0], 0), (83, .aload_n 0, 1, [], 0), (84, .getfield 181, 3, [11, 17], 0), (87, .ireturn, 1, [0, 0, 0], 0), (88, .iload_n 1, 1, [], 0), (89, .bipush 10, 2, [], 10), (91, .irem, 1, [], 0), (92, .istore_n 2, 1, [], 0), (93, .iload_n 1, 1, [], 0), (94, .bipush 10, 2, [], 10), (96, .bipush 29, 2, [], 29), (98, .invokestatic 108, 3, [161, 3], 0), (101, .ifCond .eq 11, 3, [39], 0), (104, .aload_n 0, 1, [], 0), (105, .iload_n 2, 1, [], 0), (106, .invokevirtual 241, 3, [190, 1, 11], 0), (109, .ifCond .ne 6, 3, [41], 0), (112, .bipush (-2), 2, [], -2), (114, .ireturn, 1, [0, 0, 0], 0), (115, .iload_n 1, 1, [], 0), (116, .bipush 20, 2, [], 20), (118, .if_icmp .ge 12, 3, [49], 0), (121, .aload_n 0, 1, [], 0), (122, .getfield 20, 3, [11, 25], 0), (125, .iload_n 2, 1, [], 0), (126, .iaload, 1, [], 0), (127, .goto 9, 3, [53], 0), (130, .aload_n 0, 1, [], 0), (131, .getfield 23, 3, [11, 26], 0), (134, .iload_n 2, 1, [], 0), (135, .iaload, 1, [], 0), (136, .ireturn, 1, [0, 0, 0], 0)]
/-- X12_state -/
def cd_262 : List PEn := [(0, .aload_n 0, 1, [], 0), (1, .iload_n 1, 1, [], 0), (2, .invokevirtual 238, 3, [189, 1, 11], 0), (5, .ifCond .eq 15, 3, [10], 0), (8, .aload_n 0, 1, [], 0), (9, .iload_n 2, 1, [], 0), (10, .invokevirtual 344, 3, [249, 1, 11], 0), (13, .ifCond .eq 7, 3, [10], 0), (16, .iload_n 3, 1, [], 0), (17, .ifCond .ge 6, 3, [12], 0), (20, .bipush (-2), 2, [], -2), (22, .ireturn, 1, [0, 0, 0], 0), (23, .aload_n 0, 1, [], 0), (24, .iload_n 3, 1, [], 0), (25, .invokevirtual 388, 3, [259, 1, 11], 0), (28, .aload_n 0, 1, [], 0), (29, .getfield 217, 3, [11, 22], 0), (32, .iload_n 3, 1, [], 0), (33, .if_icmp .ne 12, 3, [23], 0), (36, .aload_n 0, 1, [], 0), (37, .iload 4, 2, [], 0), (39, .invokevirtual 391, 3, [261, 1, 11], 0), (42, .goto 5, 3, [24], 0), (45, .bipush (-2), 2, [], -2), (47, .ireturn, 1, [0, 0, 0], 0)]
/-- X12_buyerOf -/
def cd_263 : List PEn := [(0, .iconst (-1), 1, [], -1), (1, .istore_n 1, 1, [], 0), (2, .iconst 0, 1, [], 0), (3, .istore_n 2, 1, [], 0), (4, .iload_n 2, 1, [], 0), (5, .aload_n 0, 1, [], 0), (6, .getfield 172, 3, [11, 12], 0), (9, .if_icmp .ge 35, 3, [26], 0), (12, .aload_n 0, 1, [], 0), (13, .getfield 41, 3, [11, 40], 0), (16, .iload_n 2, 1, [], 0), (17, .iaload, 1, [], 0), (18, .iload_n 1, 1, [], 0), (19, .iconst (-1), 1, [], -1), (20, .if_icmp .ne 7, 3, [17], 0), (23, .iconst 0, 1, [], 0), (24, .goto 9, 3, [21], 0), (27, .aload_n 0, 1, [], 0), (28, .getfield 41, 3, [11, 40], 0), (31, .iload_n 1, 1, [], 0), (32, .iaload, 1, [], 0), (33, .if_icmp .le 5, 3, [24], 0), (36, .iload_n 2, 1, [], 0), (37, .istore_n 1, 1, [], 0), (38, .iinc 2 1, 3, [], 0), (41, .goto (-37), 3, [4], 0), (44, .iload_n 1, 1, [], 0), (45, .ireturn, 1, [0, 0, 0], 0)]
/-- X12_after -/
def cd_264 : List PEn := [(0, .aload_n 0, 1, [], 0), (1, .iload_n 1, 1, [], 0), (2, .invokevirtual 238, 3, [189, 1, 11], 0), (5, .ifCond .eq 11, 3, [8], 0), (8, .aload_n 0, 1, [], 0), (9, .iload_n 2, 1, [], 0), (10, .invokevirtual 344, 3, [249, 1, 11], 0), (13, .ifCond .ne 6, 3, [10], 0), (16, .bipush (-2), 2, [], -2), (18, .ireturn, 1, [0, 0, 0], 0), (19, .aload_n 0, 1, [], 0), (20, .bipush 40, 2, [], 40), (22, .invokevirtual 388, 3, [259, 1, 11], 0), (25, .iload_n 3, 1, [], 0), (26, .tableswitch 59 0 4 #[34, 39, 44, 49, 54], 34, [30, 15, 18, 21, 24, 27], 0), (60, .aload_n 0, 1, [], 0), (61, .getfield 347, 3, [11, 35], 0), (64, .ireturn, 1, [0, 0, 0], 0), (65, .aload_n 0, 1, [], 0), (66, .getfield 350, 3, [11, 36], 0), (69, .ireturn, 1, [0, 0, 0], 0), (70, .aload_n 0, 1, [], 0), (71, .getfield 353, 3, [11, 37], 0), (74, .ireturn, 1, [0, 0, 0], 0), (75, .aload_n 0, 1, [], 0), (76, .getfield 356, 3, [11, 38], 0), (79, .ireturn, 1, [0, 0, 0], 0), (80, .aload_n 0, 1, [], 0), (81, .invokevirtual 394, 3, [263, 0, 11], 0), (84, .ireturn, 1, [0, 0, 0], 0), (85, .bipush (-2), 2, [], -2), (87, .ireturn, 1, [0, 0, 0], 0)]
/-- X12_isLog -/
def cd_265 : List PEn := [(0, .aload_n 0, 1, [], 0), (1, .iconst 2, 1, [], 2), (2, .iload_n 1, 1, [], 0), (3, .invokevirtual 150, 3, [186, 2, 11], 0), (6, .ifCond .ne 5, 3, [7], 0), (9, .iconst 0, 1, [], 0), (10, .ireturn, 1, [1, 0, 0], 0), (11, .aload_n 0, 1, [], 0), (12, .iconst 2, 1, [], 2), (13, .iload_n 1, 1, [], 0), (14, .invokestatic 166, 3, [184, 2], 0), (17, .putfield 397, 3, [11, 41, 0, 0], 0), (20, .iconst 1, 1, [], 1), (21, .ireturn, 1, [1, 0, 0], 0)]
/-- X12_fact -/
def cd_266 : List PEn := [(0, .aload_n 0, 1, [], 0), (1, .iload_n 1, 1, [], 0), (2, .invokevirtual 400, 3, [265, 1, 11], 0), (5, .ifCond .ne 6, 3, [6], 0), (8, .bipush (-2), 2, [], -2), (10, .ireturn, 1, [0, 0, 0], 0), (11, .iload_n 2, 1, [], 0), (12, .iconst (-1), 1, [], -1), (13, .if_icmp .ne 22, 3, [19], 0), (16, .iload_n 3, 1, [], 0), (17, .ifCond .ne 15, 3, [17], 0), (20, .aload_n 0, 1, [], 0), (21, .getfield 7, 3, [11, 0], 0), (24, .aload_n 0, 1, [], 0), (25, .getfield 397, 3, [11, 41], 0), (28, .iaload, 1, [], 0), (29, .goto 5, 3, [18], 0), (32, .bipush (-2), 2, [], -2), (34, .ireturn, 1, [0, 0, 0], 0), (35, .iload_n 2, 1, [], 0), (36, .iconst 0, 1, [], 0), (37, .aload_n 0, 1, [], 0), (38, .getfield 7, 3, [11, 0], 0), (41, .aload_n 0, 1, [], 0), (42, .getfield 397, 3, [11, 41], 0), (45, .iaload, 1, [], 0), (46, .iconst 1, 1, [], 1), (47, .isub, 1, [], 0), (48, .invokestatic 108, 3, [161, 3], 0), (51, .ifCond .eq 32, 3, [49], 0), (54, .iload_n 3, 1, [], 0), (55, .iconst 0, 1, [], 0), (56, .iconst 1, 1, [], 1), (57, .invokestatic 108, 3, [161, 3], 0), (60, .ifCond .eq 23, 3, [49], 0), (63, .aload_n 0, 1, [], 0), (64, .getfield 7, 3, [11, 0], 0), (67, .aload_n 0, 1, [], 0), (68, .getfield 397, 3, [11, 41], 0), (71, .iconst 1, 1, [], 1), (72, .iadd, 1, [], 0), (73, .iconst 2, 1, [], 2), (74, .iload_n 2, 1, [], 0), (75, .imul, 1, [], 0), (76, .iadd, 1, [], 0), (77, .iload_n 3, 1, [], 0), (78, .iadd, 1, [], 0), (79, .iaload, 1, [], 0), (80, .goto 5, 3, [50], 0), (83, .bipush (-2), 2, [], -2), (85, .ireturn, 1, [0, 0, 0], 0)]
/-- X12_isSo -/
def cd_267 : List PEn := [(0, .aload_n 0, 1, [], 0), (1, .iload_n 1, 1, [], 0), (2, .putfield 193, 3, [11, 16, 0, 0], 0), (5, .aload_n 0, 1, [], 0), (6, .invokevirtual 223, 3, [199, 0, 11], 0), (9, .iconst 1, 1, [], 1), (10, .istore_n 2, 1, [], 0), (11, .iconst 0, 1, [], 0), (12, .istore_n 3, 1, [], 0), (13, .iload_n 3, 1, [], 0), (14, .aload_n 0, 1, [], 0), (15, .getfield 7, 3, [11, 0], 0), (18, .aload_n 0, 1, [], 0), (19, .getfield 397, 3, [11, 41], 0), (22, .iaload, 1, [], 0), (23, .if_icmp .ge 79, 3, [64], 0), (26, .iload_n 2, 1, [], 0), (27, .ifCond .eq 67, 3, [60], 0), (30, .aload_n 0, 1, [], 0), (31, .aload_n 0, 1, [], 0), (32, .getfield 7, 3, [11, 0], 0), (35, .aload_n 0, 1, [], 0), (36, .getfield 397, 3, [11, 41], 0), (39, .iconst 1, 1, [], 1), (40, .iadd, 1, [], 0), (41, .iconst 2, 1, [], 2), (42, .iload_n 3, 1, [], 0), (43, .imul, 1, [], 0), (44, .iadd, 1, [], 0), (45, .iaload, 1, [], 0), (46, .invokevirtual 241, 3, [190, 1, 11], 0), (49, .ifCond .eq 45, 3, [60], 0), (52, .aload_n 0, 1, [], 0), (53, .getfield 23, 3, [11, 26], 0), (56, .aload_n 0, 1, [], 0), (57, .getfield 7, 3, [11, 0], 0), (60, .aload_n 0, 1, [], 0), (61, .getfield 397, 3, [11, 41], 0), (64, .iconst 1, 1, [], 1), (65, .iadd, 1, [], 0), (66, .iconst 2, 1, [], 2), (67, .iload_n 3, 1, [], 0), (68, .imul, 1, [], 0), (69, .iadd, 1, [], 0), (70, .iaload, 1, [], 0), (71, .iaload, 1, [], 0), (72, .aload_n 0, 1, [], 0), (73, .getfield 7, 3, [11, 0], 0), (76, .aload_n 0, 1, [], 0), (77, .getfield 397, 3, [11, 41], 0), (80, .iconst 2, 1, [], 2), (81, .iadd, 1, [], 0), (82, .iconst 2, 1, [], 2), (83, .iload_n 3, 1, [], 0), (84, .imul, 1, [], 0), (85, .iadd, 1, [], 0), (86, .iaload, 1, [], 0), (87, .if_icmp .ne 7, 3, [60], 0), (90, .iconst 1, 1, [], 1), (91, .goto 4, 3, [61], 0), (94, .iconst 0, 1, [], 0), (95, .istore_n 2, 1, [], 0), (96, .iinc 3 1, 3, [], 0), (99, .goto (-86), 3, [9], 0), (102, .iload_n 2, 1, [], 0), (103, .ireturn, 1, [1, 0, 0], 0)]
/-- X12_laysFits -/
def cd_268 : List PEn := [(0, .aload_n 0, 1, [], 0), (1, .iconst 0, 1, [], 0), (2, .putfield 403, 3, [11, 42, 0, 0], 0), (5, .iconst 0, 1, [], 0), (6, .istore_n 1, 1, [], 0), (7, .iload_n 1, 1, [], 0), (8, .bipush 7, 2, [], 7), (10, .if_icmp .ge 16, 3, [15], 0), (13, .aload_n 0, 1, [], 0), (14, .getfield 50, 3, [11, 45], 0), (17, .iload_n 1, 1, [], 0), (18, .iconst 0, 1, [], 0), (19, .iastore, 1, [], 0), (20, .iinc 1 1, 3, [], 0), (23, .goto (-16), 3, [5], 0), (26, .iconst 0, 1, [], 0), (27, .istore_n 1, 1, [], 0), (28, .iload_n 1, 1, [], 0), (29, .aload_n 0, 1, [], 0), (30, .invokevirtual 259, 3, [191, 0, 11], 0), (33, .if_icmp .gt 100, 3, [78], 0), (36, .aload_n 0, 1, [], 0), (37, .iload_n 1, 1, [], 0), (38, .invokevirtual 406, 3, [267, 1, 11], 0), (41, .ifCond .ne 6, 3, [26], 0), (44, .goto 83, 3, [76], 0), (47, .aload_n 0, 1, [], 0), (48, .getfield 44, 3, [11, 43], 0), (51, .aload_n 0, 1, [], 0), (52, .getfield 403, 3, [11, 42], 0), (55, .iload_n 1, 1, [], 0), (56, .iastore, 1, [], 0), (57, .iconst 0, 1, [], 0), (58, .istore_n 2, 1, [], 0), (59, .iload_n 2, 1, [], 0), (60, .bipush 7, 2, [], 7), (62, .if_icmp .ge 55, 3, [70], 0), (65, .aload_n 0, 1, [], 0), (66, .getfield 47, 3, [11, 44], 0), (69, .bipush 7, 2, [], 7), (71, .aload_n 0, 1, [], 0), (72, .getfield 403, 3, [11, 42], 0), (75, .imul, 1, [], 0), (76, .iload_n 2, 1, [], 0), (77, .iadd, 1, [], 0), (78, .iload_n 2, 1, [], 0), (79, .aload_n 0, 1, [], 0), (80, .getfield 172, 3, [11, 12], 0), (83, .if_icmp .ge 12, 3, [54], 0), (86, .aload_n 0, 1, [], 0), (87, .getfield 23, 3, [11, 26], 0), (90, .iload_n 2, 1, [], 0), (91, .iaload, 1, [], 0), (92, .goto 4, 3, [55], 0), (95, .iconst 0, 1, [], 0), (96, .iastore, 1, [], 0), (97, .aload_n 0, 1, [], 0), (98, .getfield 50, 3, [11, 45], 0), (101, .iload_n 2, 1, [], 0), (102, .dup2, 1, [], 0), (103, .iaload, 1, [], 0), (104, .iload_n 1, 1, [], 0), (105, .iload_n 2, 1, [], 0), (106, .ishr, 1, [], 0), (107, .iconst 1, 1, [], 1), (108, .iand, 1, [], 0), (109, .iadd, 1, [], 0), (110, .iastore, 1, [], 0), (111, .iinc 2 1, 3, [], 0), (114, .goto (-55), 3, [34], 0), (117, .aload_n 0, 1, [], 0), (118, .dup, 1, [], 0), (119, .getfield 403, 3, [11, 42], 0), (122, .iconst 1, 1, [], 1), (123, .iadd, 1, [], 0), (124, .putfield 403, 3, [11, 42, 0, 0], 0), (127, .iinc 1 1, 3, [], 0), (130, .goto (-102), 3, [17], 0), (133, .return_, 1, [1, 0, 0], 0)]
/-- X12_likeTaxes -/
def cd_269 : List PEn := [(0, .iconst 0, 1, [], 0), (1, .istore_n 2, 1, [], 0), (2, .iconst 0, 1, [], 0), (3, .istore_n 3, 1, [], 0), (4, .iload_n 3, 1, [], 0), (5, .aload_n 0, 1, [], 0), (6, .getfield 403, 3, [11, 42], 0), (9, .if_icmp .ge 79, 3, [50], 0), (12, .iconst 0, 1, [], 0), (13, .istore 4, 2, [], 0), (15, .iconst 0, 1, [], 0), (16, .istore 5, 2, [], 0), (18, .iload 5, 2, [], 0), (20, .aload_n 0, 1, [], 0), (21, .getfield 403, 3, [11, 42], 0), (24, .if_icmp .ge 45, 3, [41], 0), (27, .iload 4, 2, [], 0), (29, .aload_n 0, 1, [], 0), (30, .getfield 47, 3, [11, 44], 0), (33, .bipush 7, 2, [], 7), (35, .iload_n 3, 1, [], 0), (36, .imul, 1, [], 0), (37, .iload_n 1, 1, [], 0), (38, .iadd, 1, [], 0), (39, .iaload, 1, [], 0), (40, .aload_n 0, 1, [], 0), (41, .getfield 47, 3, [11, 44], 0), (44, .bipush 7, 2, [], 7), (46, .iload 5, 2, [], 0), (48, .imul, 1, [], 0), (49, .iload_n 1, 1, [], 0), (50, .iadd, 1, [], 0), (51, .iaload, 1, [], 0), (52, .if_icmp .ne 7, 3, [36], 0), (55, .iconst 1, 1, [], 1), (56, .goto 4, 3, [37], 0), (59, .iconst 0, 1, [], 0), (60, .iadd, 1, [], 0), (61, .istore 4, 2, [], 0), (63, .iinc 5 1, 3, [], 0), (66, .goto (-48), 3, [12], 0), (69, .iload 4, 2, [], 0), (71, .iload_n 2, 1, [], 0), (72, .if_icmp .le 8, 3, [46], 0), (75, .iload 4, 2, [], 0), (77, .goto 4, 3, [47], 0), (80, .iload_n 2, 1, [], 0), (81, .istore_n 2, 1, [], 0), (82, .iinc 3 1, 3, [], 0), (85, .goto (-81), 3, [4], 0), (88, .iload_n 2, 1, [], 0), (89, .ireturn, 1, [0, 0, 0], 0)]
/-- X12_askOf -/
def cd_270 : List PEn := [(0, .iconst (-1), 1, [], -1), (1, .istore_n 1, 1, [], 0), (2, .iconst 0, 1, [], 0), (3, .istore_n 2, 1, [], 0), (4, .iload_n 2, 1, [], 0), (5, .aload_n 0, 1, [], 0), (6, .getfield 172, 3, [11, 12], 0), (9, .if_icmp .ge 40, 3, [27], 0), (12, .aload_n 0, 1, [], 0), (13, .getfield 403, 3, [11, 42], 0), (16, .ifCond .le 33, 3, [27], 0), (19, .iload_n 1, 1, [], 0), (20, .iconst (-1), 1, [], -1), (21, .if_icmp .eq 16, 3, [21], 0), (24, .aload_n 0, 1, [], 0), (25, .iload_n 2, 1, [], 0), (26, .invokevirtual 409, 3, [269, 1, 11], 0), (29, .aload_n 0, 1, [], 0), (30, .iload_n 1, 1, [], 0), (31, .invokevirtual 409, 3, [269, 1, 11], 0), (34, .if_icmp .ge 7, 3, [23], 0), (37, .iload_n 2, 1, [], 0), (38, .goto 4, 3, [24], 0), (41, .iload_n 1, 1, [], 0), (42, .istore_n 1, 1, [], 0), (43, .iinc 2 1, 3, [], 0), (46, .goto (-42), 3, [4], 0), (49, .iload_n 1, 1, [], 0), (50, .ireturn, 1, [0, 0, 0], 0)]
/-- X12_sureOf -/
def cd_271 : List PEn := [(0, .aload_n 0, 1, [], 0), (1, .iload_n 1, 1, [], 0), (2, .invokevirtual 241, 3, [190, 1, 11], 0), (5, .ifCond .eq 32, 3, [19], 0), (8, .aload_n 0, 1, [], 0), (9, .getfield 403, 3, [11, 42], 0), (12, .ifCond .eq 25, 3, [19], 0), (15, .aload_n 0, 1, [], 0), (16, .getfield 50, 3, [11, 45], 0), (19, .iload_n 1, 1, [], 0), (20, .iaload, 1, [], 0), (21, .ifCond .eq 18, 3, [21], 0), (24, .aload_n 0, 1, [], 0), (25, .getfield 50, 3, [11, 45], 0), (28, .iload_n 1, 1, [], 0), (29, .iaload, 1, [], 0), (30, .aload_n 0, 1, [], 0), (31, .getfield 403, 3, [11, 42], 0), (34, .if_icmp .eq 5, 3, [21], 0), (37, .iconst (-1), 1, [], -1), (38, .ireturn, 1, [0, 0, 0], 0), (39, .aload_n 0, 1, [], 0), (40, .getfield 50, 3, [11, 45], 0), (43, .iload_n 1, 1, [], 0), (44, .iaload, 1, [], 0), (45, .ifCond .ne 7, 3, [28], 0), (48, .iconst 0, 1, [], 0), (49, .goto 4, 3, [29], 0), (52, .iconst 1, 1, [], 1), (53, .ireturn, 1, [0, 0, 0], 0)]
/-- X12_fits -/
def cd_272 : List PEn := [(0, .aload_n 0, 1, [], 0), (1, .iload_n 1, 1, [], 0), (2, .invokevirtual 238, 3, [189, 1, 11], 0), (5, .ifCond .eq 21, 3, [13], 0), (8, .aload_n 0, 1, [], 0), (9, .iload_n 2, 1, [], 0), (10, .invokevirtual 400, 3, [265, 1, 11], 0), (13, .ifCond .eq 13, 3, [13], 0), (16, .iload_n 3, 1, [], 0), (17, .ifCond .lt 9, 3, [13], 0), (20, .iload_n 3, 1, [], 0), (21, .bipush 9, 2, [], 9), (23, .if_icmp .ne 6, 3, [15], 0), (26, .bipush (-2), 2, [], -2), (28, .ireturn, 1, [0, 0, 0], 0), (29, .aload_n 0, 1, [], 0), (30, .invokevirtual 412, 3, [268, 0, 11], 0), (33, .iload_n 3, 1, [], 0), (34, .iconst 2, 1, [], 2), (35, .if_icmp .ge 19, 3, [28], 0), (38, .iload_n 3, 1, [], 0), (39, .ifCond .ne 10, 3, [25], 0), (42, .aload_n 0, 1, [], 0), (43, .getfield 403, 3, [11, 42], 0), (46, .goto 7, 3, [27], 0), (49, .aload_n 0, 1, [], 0), (50, .invokevirtual 415, 3, [270, 0, 11], 0), (53, .ireturn, 1, [0, 0, 0], 0), (54, .iload_n 3, 1, [], 0), (55, .bipush 9, 2, [], 9), (57, .if_icmp .ge 11, 3, [37], 0), (60, .aload_n 0, 1, [], 0), (61, .iload_n 3, 1, [], 0), (62, .iconst 2, 1, [], 2), (63, .isub, 1, [], 0), (64, .invokevirtual 418, 3, [271, 1, 11], 0), (67, .ireturn, 1, [0, 0, 0], 0), (68, .iload_n 3, 1, [], 0), (69, .bipush 10, 2, [], 10), (71, .isub, 1, [], 0), (72, .aload_n 0, 1, [], 0), (73, .getfield 403, 3, [11, 42], 0), (76, .if_icmp .ge 15, 3, [50], 0), (79, .aload_n 0, 1, [], 0), (80, .getfield 44, 3, [11, 43], 0), (83, .iload_n 3, 1, [], 0), (84, .bipush 10, 2, [], 10), (86, .isub, 1, [], 0), (87, .iaload, 1, [], 0), (88, .goto 5, 3, [51], 0), (91, .bipush (-2), 2, [], -2), (93, .ireturn, 1, [0, 0, 0], 0)]
/-- X12_odds -/
def cd_273 : List PEn := [(0, .aload_n 0, 1, [], 0), (1, .iload_n 1, 1, [], 0), (2, .invokevirtual 238, 3, [189, 1, 11], 0), (5, .ifCond .eq 19, 3, [12], 0), (8, .aload_n 0, 1, [], 0), (9, .iload_n 2, 1, [], 0), (10, .invokevirtual 400, 3, [265, 1, 11], 0), (13, .ifCond .eq 11, 3, [12], 0), (16, .aload_n 0, 1, [], 0), (17, .iload_n 3, 1, [], 0), (18, .invokevirtual 241, 3, [190, 1, 11], 0), (21, .ifCond .ne 5, 3, [14], 0), (24, .iconst (-1), 1, [], -1), (25, .ireturn, 1, [0, 0, 0], 0), (26, .aload_n 0, 1, [], 0), (27, .invokevirtual 412, 3, [268, 0, 11], 0), (30, .aload_n 0, 1, [], 0), (31, .getfield 403, 3, [11, 42], 0), (34, .ifCond .ne 7, 3, [21], 0), (37, .iconst (-1), 1, [], -1), (38, .goto 18, 3, [29], 0), (41, .aload_n 0, 1, [], 0), (42, .getfield 50, 3, [11, 45], 0), (45, .iload_n 3, 1, [], 0), (46, .iaload, 1, [], 0), (47, .aload_n 0, 1, [], 0), (48, .getfield 403, 3, [11, 42], 0), (51, .iload 4, 2, [], 0), (53, .invokestatic 274, 3, [214, 3], 0), (56, .ireturn, 1, [0, 0, 0], 0)]
/-- X12_alikeOf -/
def cd_274 : List PEn := [(0, .iconst 0, 1, [], 0), (1, .istore_n 1, 1, [], 0), (2, .iconst 0, 1, [], 0), (3, .istore_n 2, 1, [], 0), (4, .iload_n 2, 1, [], 0), (5, .aload_n 0, 1, [], 0), (6, .getfield 403, 3, [11, 42], 0), (9, .if_icmp .ge 93, 3, [57], 0), (12, .iconst 0, 1, [], 0), (13, .istore_n 3, 1, [], 0), (14, .iload_n 3, 1, [], 0), (15, .iload_n 2, 1, [], 0), (16, .if_icmp .ge 80, 3, [55], 0), (19, .iconst 1, 1, [], 1), (20, .istore 4, 2, [], 0), (22, .iconst 0, 1, [], 0), (23, .istore 5, 2, [], 0), (25, .iload 5, 2, [], 0), (27, .bipush 7, 2, [], 7), (29, .if_icmp .ge 48, 3, [45], 0), (32, .iload 4, 2, [], 0), (34, .ifCond .eq 34, 3, [41], 0), (37, .aload_n 0, 1, [], 0), (38, .getfield 47, 3, [11, 44], 0), (41, .bipush 7, 2, [], 7), (43, .iload_n 2, 1, [], 0), (44, .imul, 1, [], 0), (45, .iload 5, 2, [], 0), (47, .iadd, 1, [], 0), (48, .iaload, 1, [], 0), (49, .aload_n 0, 1, [], 0), (50, .getfield 47, 3, [11, 44], 0), (53, .bipush 7, 2, [], 7), (55, .iload_n 3, 1, [], 0), (56, .imul, 1, [], 0), (57, .iload 5, 2, [], 0), (59, .iadd, 1, [], 0), (60, .iaload, 1, [], 0), (61, .if_icmp .ne 7, 3, [41], 0), (64, .iconst 1, 1, [], 1), (65, .goto 4, 3, [42], 0), (68, .iconst 0, 1, [], 0), (69, .istore 4, 2, [], 0), (71, .iinc 5 1, 3, [], 0), (74, .goto (-49), 3, [17], 0), (77, .iload_n 1, 1, [], 0), (78, .iload 4, 2, [], 0), (80, .ifCond .eq 7, 3, [50], 0), (83, .iconst 1, 1, [], 1), (84, .goto 4, 3, [51], 0), (87, .iconst 0, 1, [], 0), (88, .iadd, 1, [], 0), (89, .istore_n 1, 1, [], 0), (90, .iinc 3 1, 3, [], 0), (93, .goto (-79), 3, [10], 0), (96, .iinc 2 1, 3, [], 0), (99, .goto (-95), 3, [4], 0), (102, .iload_n 1, 1, [], 0), (103, .ireturn, 1, [0, 0, 0], 0)]
/-- X12_fewOf -/
def cd_275 : List PEn := [(0, .iconst (-1), 1, [], -1), (1, .istore_n 2, 1, [], 0), (2, .iconst 0, 1, [], 0), (3, .istore_n 3, 1, [], 0), (4, .iload_n 3, 1, [], 0), (5, .aload_n 0, 1, [], 0), (6, .getfield 403, 3, [11, 42], 0), (9, .if_icmp .ge 51, 3, [32], 0), (12, .aload_n 0, 1, [], 0), (13, .getfield 44, 3, [11, 43], 0), (16, .iload_n 3, 1, [], 0), (17, .iaload, 1, [], 0), (18, .invokestatic 262, 3, [195, 1], 0), (21, .istore 4, 2, [], 0), (23, .iload_n 2, 1, [], 0), (24, .iconst (-1), 1, [], -1), (25, .if_icmp .eq 22, 3, [26], 0), (28, .iload_n 1, 1, [], 0), (29, .ifCond .eq 12, 3, [23], 0), (32, .iload 4, 2, [], 0), (34, .iload_n 2, 1, [], 0), (35, .if_icmp .le 17, 3, [28], 0), (38, .goto 9, 3, [26], 0), (41, .iload 4, 2, [], 0), (43, .iload_n 2, 1, [], 0), (44, .if_icmp .ge 8, 3, [28], 0), (47, .iload 4, 2, [], 0), (49, .goto 4, 3, [29], 0), (52, .iload_n 2, 1, [], 0), (53, .istore_n 2, 1, [], 0), (54, .iinc 3 1, 3, [], 0), (57, .goto (-53), 3, [4], 0), (60, .iload_n 2, 1, [], 0), (61, .ireturn, 1, [0, 0, 0], 0)]
/-- X12_fewest -/
def cd_276 : List PEn := [(0, .aload_n 0, 1, [], 0), (1, .iload_n 1, 1, [], 0), (2, .invokevirtual 238, 3, [189, 1, 11], 0), (5, .ifCond .eq 11, 3, [8], 0), (8, .aload_n 0, 1, [], 0), (9, .iload_n 2, 1, [], 0), (10, .invokevirtual 400, 3, [265, 1, 11], 0), (13, .ifCond .ne 6, 3, [10], 0), (16, .bipush (-2), 2, [], -2), (18, .ireturn, 1, [0, 0, 0], 0), (19, .aload_n 0, 1, [], 0), (20, .invokevirtual 412, 3, [268, 0, 11], 0), (23, .iload_n 3, 1, [], 0), (24, .tableswitch 48 0 2 #[28, 28, 43], 28, [26, 14, 14, 23], 0), (52, .aload_n 0, 1, [], 0), (53, .iload_n 3, 1, [], 0), (54, .iconst 1, 1, [], 1), (55, .if_icmp .ne 7, 3, [20], 0), (58, .iconst 1, 1, [], 1), (59, .goto 4, 3, [21], 0), (62, .iconst 0, 1, [], 0), (63, .invokevirtual 421, 3, [275, 1, 11], 0), (66, .ireturn, 1, [0, 0, 0], 0), (67, .aload_n 0, 1, [], 0), (68, .invokevirtual 424, 3, [274, 0, 11], 0), (71, .ireturn, 1, [0, 0, 0], 0), (72, .bipush (-2), 2, [], -2), (74, .ireturn, 1, [0, 0, 0], 0)]
/-- X12_below -/
def cd_277 : List PEn := [(0, .aload_n 0, 1, [], 0), (1, .aload_n 0, 1, [], 0), (2, .getfield 427, 3, [11, 46], 0), (5, .ldc_w 430, 3, [], 1103515245), (8, .imul, 1, [], 0), (9, .sipush 12345, 3, [], 12345), (12, .iadd, 1, [], 0), (13, .putfield 427, 3, [11, 46, 0, 0], 0), (16, .aload_n 0, 1, [], 0), (17, .getfield 427, 3, [11, 46], 0), (20, .bipush 16, 2, [], 16), (22, .iushr, 1, [], 0), (23, .iload_n 1, 1, [], 0), (24, .irem, 1, [], 0), (25, .ireturn, 1, [0, 0, 0], 0)]
/-- X12_draws -/
def cd_278 : List PEn := [(0, .aload_n 0, 1, [], 0), (1, .bipush 10, 2, [], 10), (3, .invokevirtual 431, 3, [277, 1, 11], 0), (6, .istore_n 1, 1, [], 0), (7, .iload_n 1, 1, [], 0), (8, .iconst 4, 1, [], 4), (9, .if_icmp .ge 7, 3, [9], 0), (12, .iconst 0, 1, [], 0), (13, .goto 16, 3, [17], 0), (16, .iload_n 1, 1, [], 0), (17, .bipush 6, 2, [], 6), (19, .if_icmp .ge 7, 3, [14], 0), (22, .iconst 1, 1, [], 1), (23, .goto 6, 3, [17], 0), (26, .iload_n 1, 1, [], 0), (27, .iconst 4, 1, [], 4), (28, .isub, 1, [], 0), (29, .istore_n 2, 1, [], 0), (30, .iload_n 2, 1, [], 0), (31, .iconst 1, 1, [], 1), (32, .if_icmp .eq 8, 3, [24], 0), (35, .iload_n 2, 1, [], 0), (36, .iconst 2, 1, [], 2), (37, .if_icmp .ne 11, 3, [28], 0), (40, .aload_n 0, 1, [], 0), (41, .getfield 172, 3, [11, 12], 0), (44, .ifCond .ne 4, 3, [28], 0), (47, .return_, 1, [1, 0, 0], 0), (48, .aload_n 0, 1, [], 0), (49, .iload_n 2, 1, [], 0), (50, .iload_n 2, 1, [], 0), (51, .ifCond .ne 7, 3, [34], 0), (54, .iconst (-1), 1, [], -1), (55, .goto 31, 3, [48], 0), (58, .aload_n 0, 1, [], 0), (59, .iload_n 2, 1, [], 0), (60, .iconst 3, 1, [], 3), (61, .if_icmp .ge 10, 3, [41], 0), (64, .aload_n 0, 1, [], 0), (65, .getfield 172, 3, [11, 12], 0), (68, .goto 15, 3, [47], 0), (71, .iload_n 2, 1, [], 0), (72, .iconst 5, 1, [], 5), (73, .if_icmp .ge 8, 3, [46], 0), (76, .bipush 100, 2, [], 100), (78, .goto 5, 3, [47], 0), (81, .bipush 10, 2, [], 10), (83, .invokevirtual 431, 3, [277, 1, 11], 0), (86, .invokevirtual 385, 3, [258, 2, 11], 0), (89, .pop, 1, [], 0), (90, .return_, 1, [1, 0, 0], 0)]
/-- X12_drawn -/
def cd_279 : List PEn := [(0, .aload_n 0, 1, [], 0), (1, .iload_n 1, 1, [], 0), (2, .invokevirtual 238, 3, [189, 1, 11], 0), (5, .ifCond .eq 13, 3, [9], 0), (8, .iload_n 3, 1, [], 0), (9, .iconst 0, 1, [], 0), (10, .bipush 60, 2, [], 60), (12, .invokestatic 108, 3, [161, 3], 0), (15, .ifCond .ne 6, 3, [11], 0), (18, .bipush (-2), 2, [], -2), (20, .ireturn, 1, [0, 0, 0], 0), (21, .aload_n 0, 1, [], 0), (22, .iload_n 2, 1, [], 0), (23, .putfield 427, 3, [11, 46, 0, 0], 0), (26, .aload_n 0, 1, [], 0), (27, .invokevirtual 382, 3, [251, 0, 11], 0), (30, .iconst 0, 1, [], 0), (31, .istore 5, 2, [], 0), (33, .iload 5, 2, [], 0), (35, .iload_n 3, 1, [], 0), (36, .if_icmp .ge 13, 3, [25], 0), (39, .aload_n 0, 1, [], 0), (40, .invokevirtual 434, 3, [278, 0, 11], 0), (43, .iinc 5 1, 3, [], 0), (46, .goto (-13), 3, [18], 0), (49, .aload_n 0, 1, [], 0), (50, .iload 4, 2, [], 0), (52, .invokevirtual 391, 3, [261, 1, 11], 0), (55, .ireturn, 1, [0, 0, 0], 0)]
/-- X12_count -/
def cd_280 : List PEn := [(0, .iload_n 1, 1, [], 0), (1, .iconst 0, 1, [], 0), (2, .iconst 2, 1, [], 2), (3, .invokestatic 108, 3, [161, 3], 0), (6, .ifCond .eq 12, 3, [10], 0), (9, .aload_n 0, 1, [], 0), (10, .getfield 7, 3, [11, 0], 0), (13, .iload_n 1, 1, [], 0), (14, .iaload, 1, [], 0), (15, .goto 5, 3, [11], 0), (18, .bipush (-2), 2, [], -2), (20, .ireturn, 1, [0, 0, 0], 0)]
/-- X12_image -/
def cd_281 : List PEn := [(0, .iload_n 1, 1, [], 0), (1, .iconst 0, 1, [], 0), (2, .iconst 2, 1, [], 2), (3, .invokestatic 108, 3, [161, 3], 0), (6, .ifCond .ne 5, 3, [7], 0), (9, .iconst 0, 1, [], 0), (10, .ireturn, 1, [1, 0, 0], 0), (11, .aload_n 0, 1, [], 0), (12, .getfield 13, 3, [11, 1], 0), (15, .iload_n 1, 1, [], 0), (16, .iconst 1, 1, [], 1), (17, .bastore, 1, [], 0), (18, .iconst 0, 1, [], 0), (19, .istore_n 2, 1, [], 0), (20, .iload_n 2, 1, [], 0), (21, .sipush 904, 3, [], 904), (24, .if_icmp .ge 29, 3, [33], 0), (27, .aload_n 0, 1, [], 0), (28, .getfield 7, 3, [11, 0], 0), (31, .sipush 904, 3, [], 904), (34, .iload_n 1, 1, [], 0), (35, .iconst 1, 1, [], 1), (36, .iadd, 1, [], 0), (37, .imul, 1, [], 0), (38, .iload_n 2, 1, [], 0), (39, .iadd, 1, [], 0), (40, .aload_n 0, 1, [], 0), (41, .getfield 7, 3, [11, 0], 0), (44, .iload_n 2, 1, [], 0), (45, .iaload, 1, [], 0), (46, .iastore, 1, [], 0), (47, .iinc 2 1, 3, [], 0), (50, .goto (-30), 3, [14], 0), (53, .iconst 1, 1, [], 1), (54, .ireturn, 1, [1, 0, 0], 0)]
/-- X12_again -/
def cd_282 : List PEn := [(0, .iload_n 1, 1, [], 0), (1, .iconst 0, 1, [], 0), (2, .iconst 2, 1, [], 2), (3, .invokestatic 108, 3, [161, 3], 0), (6, .ifCond .eq 12, 3, [10], 0), (9, .aload_n 0, 1, [], 0), (10, .getfield 13, 3, [11, 1], 0), (13, .iload_n 1, 1, [], 0), (14, .baload, 1, [], 0), (15, .ifCond .ne 5, 3, [12], 0), (18, .iconst 0, 1, [], 0), (19, .ireturn, 1, [1, 0, 0], 0), (20, .iconst 0, 1, [], 0), (21, .istore_n 2, 1, [], 0), (22, .iload_n 2, 1, [], 0), (23, .sipush 904, 3, [], 904), (26, .if_icmp .ge 29, 3, [33], 0), (29, .aload_n 0, 1, [], 0), (30, .getfield 7, 3, [11, 0], 0), (33, .iload_n 2, 1, [], 0), (34, .aload_n 0, 1, [], 0), (35, .getfield 7, 3, [11, 0], 0), (38, .sipush 904, 3, [], 904), (41, .iload_n 1, 1, [], 0), (42, .iconst 1, 1, [], 1), (43, .iadd, 1, [], 0), (44, .imul, 1, [], 0), (45, .iload_n 2, 1, [], 0), (46, .iadd, 1, [], 0), (47, .iaload, 1, [], 0), (48, .iastore, 1, [], 0), (49, .iinc 2 1, 3, [], 0), (52, .goto (-30), 3, [14], 0), (55, .iconst 1, 1, [], 1), (56, .ireturn, 1, [1, 0, 0], 0)]
/-- J6_bitCount_0f7a4 -/
def cd_283 : List PEn := [(0, .iload_n 0, 1, [], 0), (1, .iload_n 0, 1, [], 0), (2, .iconst 1, 1, [], 1), (3, .iushr, 1, [], 0), (4, .ldc_w 265, 3, [], 1431655765), (7, .iand, 1, [], 0), (8, .isub, 1, [], 0), (9, .istore_n 0, 1, [], 0), (10, .iload_n 0, 1, [], 0), (11, .ldc_w 266, 3, [], 858993459), (14, .iand, 1, [], 0), (15, .iload_n 0, 1, [], 0), (16, .iconst 2, 1, [], 2), (17, .iushr, 1, [], 0), (18, .ldc_w 266, 3, [], 858993459), (21, .iand, 1, [], 0), (22, .iadd, 1, [], 0), (23, .istore_n 0, 1, [], 0), (24, .iload_n 0, 1, [], 0), (25, .iload_n 0, 1, [], 0), (26, .iconst 4, 1, [], 4), (27, .iushr, 1, [], 0), (28, .iadd, 1, [], 0), (29, .ldc_w 267, 3, [], 252645135), (32, .iand, 1, [], 0), (33, .istore_n 0, 1, [], 0), (34, .iload_n 0, 1, [], 0), (35, .iload_n 0, 1, [], 0), (36, .bipush 8, 2, [], 8), (38, .iushr, 1, [], 0), (39, .iadd, 1, [], 0), (40, .istore_n 0, 1, [], 0), (41, .iload_n 0, 1, [], 0), (42, .iload_n 0, 1, [], 0), (43, .bipush 16, 2, [], 16), (45, .iushr, 1, [], 0), (46, .iadd, 1, [], 0), (47, .istore_n 0, 1, [], 0), (48, .iload_n 0, 1, [], 0), (49, .bipush 63, 2, [], 63), (51, .iand, 1, [], 0), (52, .ireturn, 1, [0, 0, 0], 0)]
def cd_284_0 : List PEn := [(0, .new 7, 3, [10, 2, 2, 2, 2, 2, 2, 2, 2, 2], 0), (3, .dup, 1, [], 0), (4, .invokespecial 9, 3, [119, 0], 0), (7, .astore_n 1, 1, [], 0), (8, .new 10, 3, [11, 2, 2, 0, 0, 0, 0, 0, 0, 1, 0, 2, 0, 0, 0, 0, 0, 0, 0, 0, 0, 0, 0, 0, 0, 0, 2, 2, 2, 2, 0, 0, 2, 2, 2, 0, 0, 0, 0, 0, 0, 2, 0, 0, 2, 2, 2, 0], 0), (11, .dup, 1, [], 0), (12, .invokespecial 12, 3, [160, 0], 0), (15, .astore_n 2, 1, [], 0), (16, .iconst 0, 1, [], 0), (17, .istore_n 3, 1, [], 0), (18, .iload_n 3, 1, [], 0), (19, .aload_n 0, 1, [], 0), (20, .arraylength, 1, [], 0), (21, .bipush 6, 2, [], 6), (23, .isub, 1, [], 0), (24, .if_icmp .gt 1694, 3, [1272], 0), (27, .aload_n 0, 1, [], 0), (28, .iload_n 3, 1, [], 0), (29, .iaload, 1, [], 0), (30, .bipush 63, 2, [], 63), (32, .iand, 1, [], 0), (33, .tableswitch 1679 0 35 #[159, 222, 245, 278, 301, 334, 377, 410, 463, 506, 555, 614, 663, 696, 729, 772, 851, 920, 979, 1022, 1065, 1118, 1151, 1184, 1217, 1260, 1303, 1346, 1379, 1422, 1455, 1498, 1567, 1610, 1633, 1656], 159, [1270, 22, 79, 96, 123, 140, 167, 204, 231, 278, 315, 350, 395, 430, 457, 484, 521, 586, 641, 686, 723, 760, 807, 834, 861, 888, 925, 962, 999, 1026, 1063, 1090, 1127, 1182, 1219, 1236, 1253], 0), (192, .aload_n 1, 1, [], 0), (193, .aload_n 0, 1, [], 0), (194, .iload_n 3, 1, [], 0), (195, .iconst 1, 1, [], 1), (196, .iadd, 1, [], 0), (197, .iaload, 1, [], 0), (198, .aload_n 0, 1, [], 0), (199, .iload_n 3, 1, [], 0), (200, .iconst 2, 1, [], 2), (201, .iadd, 1, [], 0), (202, .iaload, 1, [], 0), (203, .aload_n 0, 1, [], 0), (204, .iload_n 3, 1, [], 0), (205, .iconst 3, 1, [], 3), (206, .iadd, 1, [], 0), (207, .iaload, 1, [], 0), (208, .aload_n 0, 1, [], 0), (209, .iload_n 3, 1, [], 0), (210, .iconst 4, 1, [], 4), (211, .iadd, 1, [], 0), (212, .iaload, 1, [], 0), (213, .aload_n 0, 1, [], 0), (214, .iload_n 3, 1, [], 0), (215, .iconst 5, 1, [], 5), (216, .iadd, 1, [], 0), (217, .iaload, 1, [], 0), (218, .invokevirtual 13, 3, [120, 5, 10], 0), (221, .aload_n 2, 1, [], 0), (222, .aload_n 0, 1, [], 0), (223, .iload_n 3, 1, [], 0), (224, .iconst 1, 1, [], 1), (225, .iadd, 1, [], 0), (226, .iaload, 1, [], 0), (227, .aload_n 0, 1, [], 0), (228, .iload_n 3, 1, [], 0), (229, .iconst 2, 1, [], 2), (230, .iadd, 1, [], 0), (231, .iaload, 1, [], 0), (232, .aload_n 0, 1, [], 0), (233, .iload_n 3, 1, [], 0), (234, .iconst 3, 1, [], 3), (235, .iadd, 1, [], 0), (236, .iaload, 1, [], 0), (237, .aload_n 0, 1, [], 0), (238, .iload_n 3, 1, [], 0), (239, .iconst 4, 1, [], 4), (240, .iadd, 1, [], 0), (241, .iaload, 1, [], 0), (242, .aload_n 0, 1, [], 0), (243, .iload_n 3, 1, [], 0), (244, .iconst 5, 1, [], 5), (245, .iadd, 1, [], 0), (246, .iaload, 1, [], 0), (247, .invokevirtual 17, 3, [162, 5, 11], 0), (250, .if_icmp .eq 1462, 3, [1270], 0), (253, .iconst 0, 1, [], 0), (254, .ireturn, 1, [1, 185, 10002], 0), (255, .aload_n 1, 1, [], 0), (256, .aload_n 0, 1, [], 0), (257, .iload_n 3, 1, [], 0), (258, .iconst 1, 1, [], 1), (259, .iadd, 1, [], 0), (260, .iaload, 1, [], 0), (261, .invokevirtual 18, 3, [121, 1, 10], 0), (264, .aload_n 2, 1, [], 0), (265, .aload_n 0, 1, [], 0), (266, .iload_n 3, 1, [], 0), (267, .iconst 1, 1, [], 1), (268, .iadd, 1, [], 0), (269, .iaload, 1, [], 0), (270, .invokevirtual 22, 3, [163, 1, 11], 0), (273, .if_icmp .eq 1439, 3, [1270], 0), (276, .iconst 0, 1, [], 0), (277, .ireturn, 1, [1, 185, 10002], 0), (278, .aload_n 1, 1, [], 0), (279, .aload_n 0, 1, [], 0), (280, .iload_n 3, 1, [], 0), (281, .iconst 1, 1, [], 1), (282, .iadd, 1, [], 0), (283, .iaload, 1, [], 0), (284, .aload_n 0, 1, [], 0), (285, .iload_n 3, 1, [], 0), (286, .iconst 2, 1, [], 2), (287, .iadd, 1, [], 0), (288, .iaload, 1, [], 0), (289, .invokevirtual 23, 3, [122, 2, 10], 0), (292, .aload_n 2, 1, [], 0), (293, .aload_n 0, 1, [], 0), (294, .iload_n 3, 1, [], 0), (295, .iconst 1, 1, [], 1), (296, .iadd, 1, [], 0), (297, .iaload, 1, [], 0), (298, .aload_n 0, 1, [], 0), (299, .iload_n 3, 1, [], 0), (300, .iconst 2, 1, [], 2), (301, .iadd, 1, [], 0), (302, .iaload, 1, [], 0), (303, .invokevirtual 27, 3, [187, 2, 11], 0), (306, .if_icmp .eq 1406, 3, [1270], 0), (309, .iconst 0, 1, [], 0), (310, .ireturn, 1, [1, 185, 10002], 0), (311, .aload_n 1, 1, [], 0), (312, .aload_n 0, 1, [], 0), (313, .iload_n 3, 1, [], 0), (314, .iconst 1, 1, [], 1), (315, .iadd, 1, [], 0), (316, .iaload, 1, [], 0), (317, .invokevirtual 28, 3, [124, 1, 10], 0), (320, .aload_n 2, 1, [], 0), (321, .aload_n 0, 1, [], 0), (322, .iload_n 3, 1, [], 0), (323, .iconst 1, 1, [], 1), (324, .iadd, 1, [], 0), (325, .iaload, 1, [], 0), (326, .invokevirtual 31, 3, [188, 1, 11], 0), (329, .if_icmp .eq 1383, 3, [1270], 0), (332, .iconst 0, 1, [], 0), (333, .ireturn, 1, [1, 185, 10002], 0), (334, .aload_n 1, 1, [], 0), (335, .aload_n 0, 1, [], 0), (336, .iload_n 3, 1, [], 0), (337, .iconst 1, 1, [], 1), (338, .iadd, 1, [], 0), (339, .iaload, 1, [], 0), (340, .aload_n 0, 1, [], 0), (341, .iload_n 3, 1, [], 0), (342, .iconst 2, 1, [], 2), (343, .iadd, 1, [], 0), (344, .iaload, 1, [], 0), (345, .invokevirtual 32, 3, [128, 2, 10], 0), (348, .aload_n 2, 1, [], 0), (349, .aload_n 0, 1, [], 0), (350, .iload_n 3, 1, [], 0), (351, .iconst 1, 1, [], 1), (352, .iadd, 1, [], 0), (353, .iaload, 1, [], 0), (354, .aload_n 0, 1, [], 0), (355, .iload_n 3, 1, [], 0), (356, .iconst 2, 1, [], 2), (357, .iadd, 1, [], 0), (358, .iaload, 1, [], 0), (359, .invokevirtual 35, 3, [205, 2, 11], 0), (362, .if_icmp .eq 1350, 3, [1270], 0), (365, .iconst 0, 1, [], 0), (366, .ireturn, 1, [1, 185, 10002], 0), (367, .aload_n 1, 1, [], 0), (368, .aload_n 0, 1, [], 0), (369, .iload_n 3, 1, [], 0), (370, .iconst 1, 1, [], 1), (371, .iadd, 1, [], 0), (372, .iaload, 1, [], 0), (373, .aload_n 0, 1, [], 0), (374, .iload_n 3, 1, [], 0), (375, .iconst 2, 1, [], 2), (376, .iadd, 1, [], 0), (377, .iaload, 1, [], 0), (378, .aload_n 0, 1, [], 0), (379, .iload_n 3, 1, [], 0), (380, .iconst 3, 1, [], 3), (381, .iadd, 1, [], 0), (382, .iaload, 1, [], 0), (383, .invokevirtual 36, 3, [130, 3, 10], 0), (386, .aload_n 2, 1, [], 0), (387, .aload_n 0, 1, [], 0), (388, .iload_n 3, 1, [], 0), (389, .iconst 1, 1, [], 1), (390, .iadd, 1, [], 0), (391, .iaload, 1, [], 0), (392, .aload_n 0, 1, [], 0), (393, .iload_n 3, 1, [], 0), (394, .iconst 2, 1, [], 2), (395, .iadd, 1, [], 0), (396, .iaload, 1, [], 0), (397, .aload_n 0, 1, [], 0), (398, .iload_n 3, 1, [], 0), (399, .iconst 3, 1, [], 3), (400, .iadd, 1, [], 0), (401, .iaload, 1, [], 0)]
def cd_284_1 : List PEn := [(402, .invokevirtual 40, 3, [250, 3, 11], 0), (405, .if_icmp .eq 1307, 3, [1270], 0), (408, .iconst 0, 1, [], 0), (409, .ireturn, 1, [1, 185, 10002], 0), (410, .aload_n 1, 1, [], 0), (411, .aload_n 0, 1, [], 0), (412, .iload_n 3, 1, [], 0), (413, .iconst 1, 1, [], 1), (414, .iadd, 1, [], 0), (415, .iaload, 1, [], 0), (416, .aload_n 0, 1, [], 0), (417, .iload_n 3, 1, [], 0), (418, .iconst 2, 1, [], 2), (419, .iadd, 1, [], 0), (420, .iaload, 1, [], 0), (421, .invokevirtual 41, 3, [132, 2, 10], 0), (424, .aload_n 2, 1, [], 0), (425, .aload_n 0, 1, [], 0), (426, .iload_n 3, 1, [], 0), (427, .iconst 1, 1, [], 1), (428, .iadd, 1, [], 0), (429, .iaload, 1, [], 0), (430, .aload_n 0, 1, [], 0), (431, .iload_n 3, 1, [], 0), (432, .iconst 2, 1, [], 2), (433, .iadd, 1, [], 0), (434, .iaload, 1, [], 0), (435, .invokevirtual 44, 3, [260, 2, 11], 0), (438, .if_icmp .eq 1274, 3, [1270], 0), (441, .iconst 0, 1, [], 0), (442, .ireturn, 1, [1, 185, 10002], 0), (443, .aload_n 1, 1, [], 0), (444, .aload_n 0, 1, [], 0), (445, .iload_n 3, 1, [], 0), (446, .iconst 1, 1, [], 1), (447, .iadd, 1, [], 0), (448, .iaload, 1, [], 0), (449, .aload_n 0, 1, [], 0), (450, .iload_n 3, 1, [], 0), (451, .iconst 2, 1, [], 2), (452, .iadd, 1, [], 0), (453, .iaload, 1, [], 0), (454, .aload_n 0, 1, [], 0), (455, .iload_n 3, 1, [], 0), (456, .iconst 3, 1, [], 3), (457, .iadd, 1, [], 0), (458, .iaload, 1, [], 0), (459, .aload_n 0, 1, [], 0), (460, .iload_n 3, 1, [], 0), (461, .iconst 4, 1, [], 4), (462, .iadd, 1, [], 0), (463, .iaload, 1, [], 0), (464, .invokevirtual 45, 3, [133, 4, 10], 0), (467, .aload_n 2, 1, [], 0), (468, .aload_n 0, 1, [], 0), (469, .iload_n 3, 1, [], 0), (470, .iconst 1, 1, [], 1), (471, .iadd, 1, [], 0), (472, .iaload, 1, [], 0), (473, .aload_n 0, 1, [], 0), (474, .iload_n 3, 1, [], 0), (475, .iconst 2, 1, [], 2), (476, .iadd, 1, [], 0), (477, .iaload, 1, [], 0), (478, .aload_n 0, 1, [], 0), (479, .iload_n 3, 1, [], 0), (480, .iconst 3, 1, [], 3), (481, .iadd, 1, [], 0), (482, .iaload, 1, [], 0), (483, .aload_n 0, 1, [], 0), (484, .iload_n 3, 1, [], 0), (485, .iconst 4, 1, [], 4), (486, .iadd, 1, [], 0), (487, .iaload, 1, [], 0), (488, .invokevirtual 49, 3, [262, 4, 11], 0), (491, .if_icmp .eq 1221, 3, [1270], 0), (494, .iconst 0, 1, [], 0), (495, .ireturn, 1, [1, 185, 10002], 0), (496, .aload_n 1, 1, [], 0), (497, .aload_n 0, 1, [], 0), (498, .iload_n 3, 1, [], 0), (499, .iconst 1, 1, [], 1), (500, .iadd, 1, [], 0), (501, .iaload, 1, [], 0), (502, .aload_n 0, 1, [], 0), (503, .iload_n 3, 1, [], 0), (504, .iconst 2, 1, [], 2), (505, .iadd, 1, [], 0), (506, .iaload, 1, [], 0), (507, .aload_n 0, 1, [], 0), (508, .iload_n 3, 1, [], 0), (509, .iconst 3, 1, [], 3), (510, .iadd, 1, [], 0), (511, .iaload, 1, [], 0), (512, .invokevirtual 50, 3, [136, 3, 10], 0), (515, .aload_n 2, 1, [], 0), (516, .aload_n 0, 1, [], 0), (517, .iload_n 3, 1, [], 0), (518, .iconst 1, 1, [], 1), (519, .iadd, 1, [], 0), (520, .iaload, 1, [], 0), (521, .aload_n 0, 1, [], 0), (522, .iload_n 3, 1, [], 0), (523, .iconst 2, 1, [], 2), (524, .iadd, 1, [], 0), (525, .iaload, 1, [], 0), (526, .aload_n 0, 1, [], 0), (527, .iload_n 3, 1, [], 0), (528, .iconst 3, 1, [], 3), (529, .iadd, 1, [], 0), (530, .iaload, 1, [], 0), (531, .invokevirtual 53, 3, [207, 3, 11], 0), (534, .if_icmp .eq 1178, 3, [1270], 0), (537, .iconst 0, 1, [], 0), (538, .ireturn, 1, [1, 185, 10002], 0), (539, .aload_n 1, 1, [], 0), (540, .aload_n 0, 1, [], 0), (541, .iload_n 3, 1, [], 0), (542, .iconst 1, 1, [], 1), (543, .iadd, 1, [], 0), (544, .iaload, 1, [], 0), (545, .aload_n 0, 1, [], 0), (546, .iload_n 3, 1, [], 0), (547, .iconst 2, 1, [], 2), (548, .iadd, 1, [], 0), (549, .iaload, 1, [], 0), (550, .ifCond .eq 7, 3, [329], 0), (553, .iconst 1, 1, [], 1), (554, .goto 4, 3, [330], 0), (557, .iconst 0, 1, [], 0), (558, .invokevirtual 54, 3, [139, 2, 10], 0), (561, .aload_n 2, 1, [], 0), (562, .aload_n 0, 1, [], 0), (563, .iload_n 3, 1, [], 0), (564, .iconst 1, 1, [], 1), (565, .iadd, 1, [], 0), (566, .iaload, 1, [], 0), (567, .aload_n 0, 1, [], 0), (568, .iload_n 3, 1, [], 0), (569, .iconst 2, 1, [], 2), (570, .iadd, 1, [], 0), (571, .iaload, 1, [], 0), (572, .ifCond .eq 7, 3, [345], 0), (575, .iconst 1, 1, [], 1), (576, .goto 4, 3, [346], 0), (579, .iconst 0, 1, [], 0), (580, .invokevirtual 58, 3, [208, 2, 11], 0), (583, .if_icmp .eq 1129, 3, [1270], 0), (586, .iconst 0, 1, [], 0), (587, .ireturn, 1, [1, 185, 10002], 0), (588, .aload_n 1, 1, [], 0), (589, .aload_n 0, 1, [], 0), (590, .iload_n 3, 1, [], 0), (591, .iconst 1, 1, [], 1), (592, .iadd, 1, [], 0), (593, .iaload, 1, [], 0), (594, .aload_n 0, 1, [], 0), (595, .iload_n 3, 1, [], 0), (596, .iconst 2, 1, [], 2), (597, .iadd, 1, [], 0), (598, .iaload, 1, [], 0), (599, .aload_n 0, 1, [], 0), (600, .iload_n 3, 1, [], 0), (601, .iconst 3, 1, [], 3), (602, .iadd, 1, [], 0), (603, .iaload, 1, [], 0), (604, .ifCond .eq 7, 3, [369], 0), (607, .iconst 1, 1, [], 1), (608, .goto 4, 3, [370], 0), (611, .iconst 0, 1, [], 0), (612, .invokevirtual 59, 3, [140, 3, 10], 0), (615, .aload_n 2, 1, [], 0), (616, .aload_n 0, 1, [], 0), (617, .iload_n 3, 1, [], 0), (618, .iconst 1, 1, [], 1), (619, .iadd, 1, [], 0), (620, .iaload, 1, [], 0), (621, .aload_n 0, 1, [], 0), (622, .iload_n 3, 1, [], 0), (623, .iconst 2, 1, [], 2), (624, .iadd, 1, [], 0), (625, .iaload, 1, [], 0), (626, .aload_n 0, 1, [], 0), (627, .iload_n 3, 1, [], 0), (628, .iconst 3, 1, [], 3), (629, .iadd, 1, [], 0), (630, .iaload, 1, [], 0), (631, .ifCond .eq 7, 3, [390], 0), (634, .iconst 1, 1, [], 1), (635, .goto 4, 3, [391], 0), (638, .iconst 0, 1, [], 0), (639, .invokevirtual 63, 3, [210, 3, 11], 0), (642, .if_icmp .eq 1070, 3, [1270], 0), (645, .iconst 0, 1, [], 0), (646, .ireturn, 1, [1, 185, 10002], 0), (647, .aload_n 1, 1, [], 0), (648, .aload_n 0, 1, [], 0), (649, .iload_n 3, 1, [], 0), (650, .iconst 1, 1, [], 1), (651, .iadd, 1, [], 0)]
def cd_284_2 : List PEn := [(652, .iaload, 1, [], 0), (653, .aload_n 0, 1, [], 0), (654, .iload_n 3, 1, [], 0), (655, .iconst 2, 1, [], 2), (656, .iadd, 1, [], 0), (657, .iaload, 1, [], 0), (658, .ifCond .eq 7, 3, [409], 0), (661, .iconst 1, 1, [], 1), (662, .goto 4, 3, [410], 0), (665, .iconst 0, 1, [], 0), (666, .invokevirtual 64, 3, [150, 2, 10], 0), (669, .aload_n 2, 1, [], 0), (670, .aload_n 0, 1, [], 0), (671, .iload_n 3, 1, [], 0), (672, .iconst 1, 1, [], 1), (673, .iadd, 1, [], 0), (674, .iaload, 1, [], 0), (675, .aload_n 0, 1, [], 0), (676, .iload_n 3, 1, [], 0), (677, .iconst 2, 1, [], 2), (678, .iadd, 1, [], 0), (679, .iaload, 1, [], 0), (680, .ifCond .eq 7, 3, [425], 0), (683, .iconst 1, 1, [], 1), (684, .goto 4, 3, [426], 0), (687, .iconst 0, 1, [], 0), (688, .invokevirtual 67, 3, [211, 2, 11], 0), (691, .if_icmp .eq 1021, 3, [1270], 0), (694, .iconst 0, 1, [], 0), (695, .ireturn, 1, [1, 185, 10002], 0), (696, .aload_n 1, 1, [], 0), (697, .aload_n 0, 1, [], 0), (698, .iload_n 3, 1, [], 0), (699, .iconst 1, 1, [], 1), (700, .iadd, 1, [], 0), (701, .iaload, 1, [], 0), (702, .aload_n 0, 1, [], 0), (703, .iload_n 3, 1, [], 0), (704, .iconst 2, 1, [], 2), (705, .iadd, 1, [], 0), (706, .iaload, 1, [], 0), (707, .invokevirtual 68, 3, [151, 2, 10], 0), (710, .aload_n 2, 1, [], 0), (711, .aload_n 0, 1, [], 0), (712, .iload_n 3, 1, [], 0), (713, .iconst 1, 1, [], 1), (714, .iadd, 1, [], 0), (715, .iaload, 1, [], 0), (716, .aload_n 0, 1, [], 0), (717, .iload_n 3, 1, [], 0), (718, .iconst 2, 1, [], 2), (719, .iadd, 1, [], 0), (720, .iaload, 1, [], 0), (721, .invokevirtual 71, 3, [212, 2, 11], 0), (724, .if_icmp .eq 988, 3, [1270], 0), (727, .iconst 0, 1, [], 0), (728, .ireturn, 1, [1, 185, 10002], 0), (729, .aload_n 1, 1, [], 0), (730, .aload_n 0, 1, [], 0), (731, .iload_n 3, 1, [], 0), (732, .iconst 1, 1, [], 1), (733, .iadd, 1, [], 0), (734, .iaload, 1, [], 0), (735, .aload_n 0, 1, [], 0), (736, .iload_n 3, 1, [], 0), (737, .iconst 2, 1, [], 2), (738, .iadd, 1, [], 0), (739, .iaload, 1, [], 0), (740, .invokevirtual 72, 3, [146, 2, 10], 0), (743, .aload_n 2, 1, [], 0), (744, .aload_n 0, 1, [], 0), (745, .iload_n 3, 1, [], 0), (746, .iconst 1, 1, [], 1), (747, .iadd, 1, [], 0), (748, .iaload, 1, [], 0), (749, .aload_n 0, 1, [], 0), (750, .iload_n 3, 1, [], 0), (751, .iconst 2, 1, [], 2), (752, .iadd, 1, [], 0), (753, .iaload, 1, [], 0), (754, .invokevirtual 75, 3, [215, 2, 11], 0), (757, .if_icmp .eq 955, 3, [1270], 0), (760, .iconst 0, 1, [], 0), (761, .ireturn, 1, [1, 185, 10002], 0), (762, .aload_n 1, 1, [], 0), (763, .aload_n 0, 1, [], 0), (764, .iload_n 3, 1, [], 0), (765, .iconst 1, 1, [], 1), (766, .iadd, 1, [], 0), (767, .iaload, 1, [], 0), (768, .aload_n 0, 1, [], 0), (769, .iload_n 3, 1, [], 0), (770, .iconst 2, 1, [], 2), (771, .iadd, 1, [], 0), (772, .iaload, 1, [], 0), (773, .aload_n 0, 1, [], 0), (774, .iload_n 3, 1, [], 0), (775, .iconst 3, 1, [], 3), (776, .iadd, 1, [], 0), (777, .iaload, 1, [], 0), (778, .invokevirtual 76, 3, [147, 3, 10], 0), (781, .aload_n 2, 1, [], 0), (782, .aload_n 0, 1, [], 0), (783, .iload_n 3, 1, [], 0), (784, .iconst 1, 1, [], 1), (785, .iadd, 1, [], 0), (786, .iaload, 1, [], 0), (787, .aload_n 0, 1, [], 0), (788, .iload_n 3, 1, [], 0), (789, .iconst 2, 1, [], 2), (790, .iadd, 1, [], 0), (791, .iaload, 1, [], 0), (792, .aload_n 0, 1, [], 0), (793, .iload_n 3, 1, [], 0), (794, .iconst 3, 1, [], 3), (795, .iadd, 1, [], 0), (796, .iaload, 1, [], 0), (797, .invokevirtual 79, 3, [217, 3, 11], 0), (800, .if_icmp .eq 912, 3, [1270], 0), (803, .iconst 0, 1, [], 0), (804, .ireturn, 1, [1, 185, 10002], 0), (805, .aload_n 1, 1, [], 0), (806, .aload_n 0, 1, [], 0), (807, .iload_n 3, 1, [], 0), (808, .iconst 1, 1, [], 1), (809, .iadd, 1, [], 0), (810, .iaload, 1, [], 0), (811, .aload_n 0, 1, [], 0), (812, .iload_n 3, 1, [], 0), (813, .iconst 2, 1, [], 2), (814, .iadd, 1, [], 0), (815, .iaload, 1, [], 0), (816, .aload_n 0, 1, [], 0), (817, .iload_n 3, 1, [], 0), (818, .iconst 3, 1, [], 3), (819, .iadd, 1, [], 0), (820, .iaload, 1, [], 0), (821, .aload_n 0, 1, [], 0), (822, .iload_n 3, 1, [], 0), (823, .iconst 4, 1, [], 4), (824, .iadd, 1, [], 0), (825, .iaload, 1, [], 0), (826, .aload_n 0, 1, [], 0), (827, .iload_n 3, 1, [], 0), (828, .iconst 5, 1, [], 5), (829, .iadd, 1, [], 0), (830, .iaload, 1, [], 0), (831, .ifCond .eq 7, 3, [550], 0), (834, .iconst 1, 1, [], 1), (835, .goto 4, 3, [551], 0), (838, .iconst 0, 1, [], 0), (839, .invokevirtual 80, 3, [138, 5, 10], 0), (842, .aload_n 2, 1, [], 0), (843, .aload_n 0, 1, [], 0), (844, .iload_n 3, 1, [], 0), (845, .iconst 1, 1, [], 1), (846, .iadd, 1, [], 0), (847, .iaload, 1, [], 0), (848, .aload_n 0, 1, [], 0), (849, .iload_n 3, 1, [], 0), (850, .iconst 2, 1, [], 2), (851, .iadd, 1, [], 0), (852, .iaload, 1, [], 0), (853, .aload_n 0, 1, [], 0), (854, .iload_n 3, 1, [], 0), (855, .iconst 3, 1, [], 3), (856, .iadd, 1, [], 0), (857, .iaload, 1, [], 0), (858, .aload_n 0, 1, [], 0), (859, .iload_n 3, 1, [], 0), (860, .iconst 4, 1, [], 4), (861, .iadd, 1, [], 0), (862, .iaload, 1, [], 0), (863, .aload_n 0, 1, [], 0), (864, .iload_n 3, 1, [], 0), (865, .iconst 5, 1, [], 5), (866, .iadd, 1, [], 0), (867, .iaload, 1, [], 0), (868, .ifCond .eq 7, 3, [581], 0), (871, .iconst 1, 1, [], 1), (872, .goto 4, 3, [582], 0), (875, .iconst 0, 1, [], 0), (876, .invokevirtual 84, 3, [219, 5, 11], 0), (879, .if_icmp .eq 833, 3, [1270], 0), (882, .iconst 0, 1, [], 0), (883, .ireturn, 1, [1, 185, 10002], 0), (884, .aload_n 1, 1, [], 0), (885, .aload_n 0, 1, [], 0), (886, .iload_n 3, 1, [], 0), (887, .iconst 1, 1, [], 1), (888, .iadd, 1, [], 0), (889, .iaload, 1, [], 0), (890, .aload_n 0, 1, [], 0), (891, .iload_n 3, 1, [], 0), (892, .iconst 2, 1, [], 2), (893, .iadd, 1, [], 0), (894, .iaload, 1, [], 0), (895, .aload_n 0, 1, [], 0), (896, .iload_n 3, 1, [], 0), (897, .iconst 3, 1, [], 3)]
def cd_284_3 : List PEn := [(898, .iadd, 1, [], 0), (899, .iaload, 1, [], 0), (900, .aload_n 0, 1, [], 0), (901, .iload_n 3, 1, [], 0), (902, .iconst 4, 1, [], 4), (903, .iadd, 1, [], 0), (904, .iaload, 1, [], 0), (905, .ifCond .eq 7, 3, [610], 0), (908, .iconst 1, 1, [], 1), (909, .goto 4, 3, [611], 0), (912, .iconst 0, 1, [], 0), (913, .invokevirtual 85, 3, [141, 4, 10], 0), (916, .aload_n 2, 1, [], 0), (917, .aload_n 0, 1, [], 0), (918, .iload_n 3, 1, [], 0), (919, .iconst 1, 1, [], 1), (920, .iadd, 1, [], 0), (921, .iaload, 1, [], 0), (922, .aload_n 0, 1, [], 0), (923, .iload_n 3, 1, [], 0), (924, .iconst 2, 1, [], 2), (925, .iadd, 1, [], 0), (926, .iaload, 1, [], 0), (927, .aload_n 0, 1, [], 0), (928, .iload_n 3, 1, [], 0), (929, .iconst 3, 1, [], 3), (930, .iadd, 1, [], 0), (931, .iaload, 1, [], 0), (932, .aload_n 0, 1, [], 0), (933, .iload_n 3, 1, [], 0), (934, .iconst 4, 1, [], 4), (935, .iadd, 1, [], 0), (936, .iaload, 1, [], 0), (937, .ifCond .eq 7, 3, [636], 0), (940, .iconst 1, 1, [], 1), (941, .goto 4, 3, [637], 0), (944, .iconst 0, 1, [], 0), (945, .invokevirtual 89, 3, [220, 4, 11], 0), (948, .if_icmp .eq 764, 3, [1270], 0), (951, .iconst 0, 1, [], 0), (952, .ireturn, 1, [1, 185, 10002], 0), (953, .aload_n 1, 1, [], 0), (954, .aload_n 0, 1, [], 0), (955, .iload_n 3, 1, [], 0), (956, .iconst 1, 1, [], 1), (957, .iadd, 1, [], 0), (958, .iaload, 1, [], 0), (959, .aload_n 0, 1, [], 0), (960, .iload_n 3, 1, [], 0), (961, .iconst 2, 1, [], 2), (962, .iadd, 1, [], 0), (963, .iaload, 1, [], 0), (964, .aload_n 0, 1, [], 0), (965, .iload_n 3, 1, [], 0), (966, .iconst 3, 1, [], 3), (967, .iadd, 1, [], 0), (968, .iaload, 1, [], 0), (969, .ifCond .eq 7, 3, [660], 0), (972, .iconst 1, 1, [], 1), (973, .goto 4, 3, [661], 0), (976, .iconst 0, 1, [], 0), (977, .invokevirtual 90, 3, [142, 3, 10], 0), (980, .aload_n 2, 1, [], 0), (981, .aload_n 0, 1, [], 0), (982, .iload_n 3, 1, [], 0), (983, .iconst 1, 1, [], 1), (984, .iadd, 1, [], 0), (985, .iaload, 1, [], 0), (986, .aload_n 0, 1, [], 0), (987, .iload_n 3, 1, [], 0), (988, .iconst 2, 1, [], 2), (989, .iadd, 1, [], 0), (990, .iaload, 1, [], 0), (991, .aload_n 0, 1, [], 0), (992, .iload_n 3, 1, [], 0), (993, .iconst 3, 1, [], 3), (994, .iadd, 1, [], 0), (995, .iaload, 1, [], 0), (996, .ifCond .eq 7, 3, [681], 0), (999, .iconst 1, 1, [], 1), (1000, .goto 4, 3, [682], 0), (1003, .iconst 0, 1, [], 0), (1004, .invokevirtual 93, 3, [221, 3, 11], 0), (1007, .if_icmp .eq 705, 3, [1270], 0), (1010, .iconst 0, 1, [], 0), (1011, .ireturn, 1, [1, 185, 10002], 0), (1012, .aload_n 1, 1, [], 0), (1013, .aload_n 0, 1, [], 0), (1014, .iload_n 3, 1, [], 0), (1015, .iconst 1, 1, [], 1), (1016, .iadd, 1, [], 0), (1017, .iaload, 1, [], 0), (1018, .aload_n 0, 1, [], 0), (1019, .iload_n 3, 1, [], 0), (1020, .iconst 2, 1, [], 2), (1021, .iadd, 1, [], 0), (1022, .iaload, 1, [], 0), (1023, .aload_n 0, 1, [], 0), (1024, .iload_n 3, 1, [], 0), (1025, .iconst 3, 1, [], 3), (1026, .iadd, 1, [], 0), (1027, .iaload, 1, [], 0), (1028, .invokevirtual 94, 3, [131, 3, 10], 0), (1031, .aload_n 2, 1, [], 0), (1032, .aload_n 0, 1, [], 0), (1033, .iload_n 3, 1, [], 0), (1034, .iconst 1, 1, [], 1), (1035, .iadd, 1, [], 0), (1036, .iaload, 1, [], 0), (1037, .aload_n 0, 1, [], 0), (1038, .iload_n 3, 1, [], 0), (1039, .iconst 2, 1, [], 2), (1040, .iadd, 1, [], 0), (1041, .iaload, 1, [], 0), (1042, .aload_n 0, 1, [], 0), (1043, .iload_n 3, 1, [], 0), (1044, .iconst 3, 1, [], 3), (1045, .iadd, 1, [], 0), (1046, .iaload, 1, [], 0), (1047, .invokevirtual 97, 3, [266, 3, 11], 0), (1050, .if_icmp .eq 662, 3, [1270], 0), (1053, .iconst 0, 1, [], 0), (1054, .ireturn, 1, [1, 185, 10002], 0), (1055, .aload_n 1, 1, [], 0), (1056, .aload_n 0, 1, [], 0), (1057, .iload_n 3, 1, [], 0), (1058, .iconst 1, 1, [], 1), (1059, .iadd, 1, [], 0), (1060, .iaload, 1, [], 0), (1061, .aload_n 0, 1, [], 0), (1062, .iload_n 3, 1, [], 0), (1063, .iconst 2, 1, [], 2), (1064, .iadd, 1, [], 0), (1065, .iaload, 1, [], 0), (1066, .aload_n 0, 1, [], 0), (1067, .iload_n 3, 1, [], 0), (1068, .iconst 3, 1, [], 3), (1069, .iadd, 1, [], 0), (1070, .iaload, 1, [], 0), (1071, .invokevirtual 98, 3, [155, 3, 10], 0), (1074, .aload_n 2, 1, [], 0), (1075, .aload_n 0, 1, [], 0), (1076, .iload_n 3, 1, [], 0), (1077, .iconst 1, 1, [], 1), (1078, .iadd, 1, [], 0), (1079, .iaload, 1, [], 0), (1080, .aload_n 0, 1, [], 0), (1081, .iload_n 3, 1, [], 0), (1082, .iconst 2, 1, [], 2), (1083, .iadd, 1, [], 0), (1084, .iaload, 1, [], 0), (1085, .aload_n 0, 1, [], 0), (1086, .iload_n 3, 1, [], 0), (1087, .iconst 3, 1, [], 3), (1088, .iadd, 1, [], 0), (1089, .iaload, 1, [], 0), (1090, .invokevirtual 101, 3, [272, 3, 11], 0), (1093, .if_icmp .eq 619, 3, [1270], 0), (1096, .iconst 0, 1, [], 0), (1097, .ireturn, 1, [1, 185, 10002], 0), (1098, .aload_n 1, 1, [], 0), (1099, .aload_n 0, 1, [], 0), (1100, .iload_n 3, 1, [], 0), (1101, .iconst 1, 1, [], 1), (1102, .iadd, 1, [], 0), (1103, .iaload, 1, [], 0), (1104, .aload_n 0, 1, [], 0), (1105, .iload_n 3, 1, [], 0), (1106, .iconst 2, 1, [], 2), (1107, .iadd, 1, [], 0), (1108, .iaload, 1, [], 0), (1109, .aload_n 0, 1, [], 0), (1110, .iload_n 3, 1, [], 0), (1111, .iconst 3, 1, [], 3), (1112, .iadd, 1, [], 0), (1113, .iaload, 1, [], 0), (1114, .aload_n 0, 1, [], 0), (1115, .iload_n 3, 1, [], 0), (1116, .iconst 4, 1, [], 4), (1117, .iadd, 1, [], 0), (1118, .iaload, 1, [], 0), (1119, .invokevirtual 102, 3, [135, 4, 10], 0), (1122, .aload_n 2, 1, [], 0), (1123, .aload_n 0, 1, [], 0), (1124, .iload_n 3, 1, [], 0), (1125, .iconst 1, 1, [], 1), (1126, .iadd, 1, [], 0), (1127, .iaload, 1, [], 0), (1128, .aload_n 0, 1, [], 0), (1129, .iload_n 3, 1, [], 0), (1130, .iconst 2, 1, [], 2), (1131, .iadd, 1, [], 0), (1132, .iaload, 1, [], 0), (1133, .aload_n 0, 1, [], 0), (1134, .iload_n 3, 1, [], 0), (1135, .iconst 3, 1, [], 3), (1136, .iadd, 1, [], 0), (1137, .iaload, 1, [], 0), (1138, .aload_n 0, 1, [], 0), (1139, .iload_n 3, 1, [], 0)]
def cd_284_4 : List PEn := [(1140, .iconst 4, 1, [], 4), (1141, .iadd, 1, [], 0), (1142, .iaload, 1, [], 0), (1143, .invokevirtual 105, 3, [279, 4, 11], 0), (1146, .if_icmp .eq 566, 3, [1270], 0), (1149, .iconst 0, 1, [], 0), (1150, .ireturn, 1, [1, 185, 10002], 0), (1151, .aload_n 1, 1, [], 0), (1152, .aload_n 0, 1, [], 0), (1153, .iload_n 3, 1, [], 0), (1154, .iconst 1, 1, [], 1), (1155, .iadd, 1, [], 0), (1156, .iaload, 1, [], 0), (1157, .aload_n 0, 1, [], 0), (1158, .iload_n 3, 1, [], 0), (1159, .iconst 2, 1, [], 2), (1160, .iadd, 1, [], 0), (1161, .iaload, 1, [], 0), (1162, .invokevirtual 106, 3, [143, 2, 10], 0), (1165, .aload_n 2, 1, [], 0), (1166, .aload_n 0, 1, [], 0), (1167, .iload_n 3, 1, [], 0), (1168, .iconst 1, 1, [], 1), (1169, .iadd, 1, [], 0), (1170, .iaload, 1, [], 0), (1171, .aload_n 0, 1, [], 0), (1172, .iload_n 3, 1, [], 0), (1173, .iconst 2, 1, [], 2), (1174, .iadd, 1, [], 0), (1175, .iaload, 1, [], 0), (1176, .invokevirtual 109, 3, [222, 2, 11], 0), (1179, .if_icmp .eq 533, 3, [1270], 0), (1182, .iconst 0, 1, [], 0), (1183, .ireturn, 1, [1, 185, 10002], 0), (1184, .aload_n 1, 1, [], 0), (1185, .aload_n 0, 1, [], 0), (1186, .iload_n 3, 1, [], 0), (1187, .iconst 1, 1, [], 1), (1188, .iadd, 1, [], 0), (1189, .iaload, 1, [], 0), (1190, .aload_n 0, 1, [], 0), (1191, .iload_n 3, 1, [], 0), (1192, .iconst 2, 1, [], 2), (1193, .iadd, 1, [], 0), (1194, .iaload, 1, [], 0), (1195, .invokevirtual 110, 3, [144, 2, 10], 0), (1198, .aload_n 2, 1, [], 0), (1199, .aload_n 0, 1, [], 0), (1200, .iload_n 3, 1, [], 0), (1201, .iconst 1, 1, [], 1), (1202, .iadd, 1, [], 0), (1203, .iaload, 1, [], 0), (1204, .aload_n 0, 1, [], 0), (1205, .iload_n 3, 1, [], 0), (1206, .iconst 2, 1, [], 2), (1207, .iadd, 1, [], 0), (1208, .iaload, 1, [], 0), (1209, .invokevirtual 113, 3, [231, 2, 11], 0), (1212, .if_icmp .eq 500, 3, [1270], 0), (1215, .iconst 0, 1, [], 0), (1216, .ireturn, 1, [1, 185, 10002], 0), (1217, .aload_n 1, 1, [], 0), (1218, .aload_n 0, 1, [], 0), (1219, .iload_n 3, 1, [], 0), (1220, .iconst 1, 1, [], 1), (1221, .iadd, 1, [], 0), (1222, .iaload, 1, [], 0), (1223, .aload_n 0, 1, [], 0), (1224, .iload_n 3, 1, [], 0), (1225, .iconst 2, 1, [], 2), (1226, .iadd, 1, [], 0), (1227, .iaload, 1, [], 0), (1228, .invokevirtual 114, 3, [145, 2, 10], 0), (1231, .aload_n 2, 1, [], 0), (1232, .aload_n 0, 1, [], 0), (1233, .iload_n 3, 1, [], 0), (1234, .iconst 1, 1, [], 1), (1235, .iadd, 1, [], 0), (1236, .iaload, 1, [], 0), (1237, .aload_n 0, 1, [], 0), (1238, .iload_n 3, 1, [], 0), (1239, .iconst 2, 1, [], 2), (1240, .iadd, 1, [], 0), (1241, .iaload, 1, [], 0), (1242, .invokevirtual 117, 3, [232, 2, 11], 0), (1245, .if_icmp .eq 467, 3, [1270], 0), (1248, .iconst 0, 1, [], 0), (1249, .ireturn, 1, [1, 185, 10002], 0), (1250, .aload_n 1, 1, [], 0), (1251, .aload_n 0, 1, [], 0), (1252, .iload_n 3, 1, [], 0), (1253, .iconst 1, 1, [], 1), (1254, .iadd, 1, [], 0), (1255, .iaload, 1, [], 0), (1256, .aload_n 0, 1, [], 0), (1257, .iload_n 3, 1, [], 0), (1258, .iconst 2, 1, [], 2), (1259, .iadd, 1, [], 0), (1260, .iaload, 1, [], 0), (1261, .aload_n 0, 1, [], 0), (1262, .iload_n 3, 1, [], 0), (1263, .iconst 3, 1, [], 3), (1264, .iadd, 1, [], 0), (1265, .iaload, 1, [], 0), (1266, .invokevirtual 118, 3, [148, 3, 10], 0), (1269, .aload_n 2, 1, [], 0), (1270, .aload_n 0, 1, [], 0), (1271, .iload_n 3, 1, [], 0), (1272, .iconst 1, 1, [], 1), (1273, .iadd, 1, [], 0), (1274, .iaload, 1, [], 0), (1275, .aload_n 0, 1, [], 0), (1276, .iload_n 3, 1, [], 0), (1277, .iconst 2, 1, [], 2), (1278, .iadd, 1, [], 0), (1279, .iaload, 1, [], 0), (1280, .aload_n 0, 1, [], 0), (1281, .iload_n 3, 1, [], 0), (1282, .iconst 3, 1, [], 3), (1283, .iadd, 1, [], 0), (1284, .iaload, 1, [], 0), (1285, .invokevirtual 121, 3, [234, 3, 11], 0), (1288, .if_icmp .eq 424, 3, [1270], 0), (1291, .iconst 0, 1, [], 0), (1292, .ireturn, 1, [1, 185, 10002], 0), (1293, .aload_n 1, 1, [], 0), (1294, .aload_n 0, 1, [], 0), (1295, .iload_n 3, 1, [], 0), (1296, .iconst 1, 1, [], 1), (1297, .iadd, 1, [], 0), (1298, .iaload, 1, [], 0), (1299, .aload_n 0, 1, [], 0), (1300, .iload_n 3, 1, [], 0), (1301, .iconst 2, 1, [], 2), (1302, .iadd, 1, [], 0), (1303, .iaload, 1, [], 0), (1304, .aload_n 0, 1, [], 0), (1305, .iload_n 3, 1, [], 0), (1306, .iconst 3, 1, [], 3), (1307, .iadd, 1, [], 0), (1308, .iaload, 1, [], 0), (1309, .invokevirtual 122, 3, [149, 3, 10], 0), (1312, .aload_n 2, 1, [], 0), (1313, .aload_n 0, 1, [], 0), (1314, .iload_n 3, 1, [], 0), (1315, .iconst 1, 1, [], 1), (1316, .iadd, 1, [], 0), (1317, .iaload, 1, [], 0), (1318, .aload_n 0, 1, [], 0), (1319, .iload_n 3, 1, [], 0), (1320, .iconst 2, 1, [], 2), (1321, .iadd, 1, [], 0), (1322, .iaload, 1, [], 0), (1323, .aload_n 0, 1, [], 0), (1324, .iload_n 3, 1, [], 0), (1325, .iconst 3, 1, [], 3), (1326, .iadd, 1, [], 0), (1327, .iaload, 1, [], 0), (1328, .invokevirtual 125, 3, [235, 3, 11], 0), (1331, .if_icmp .eq 381, 3, [1270], 0), (1334, .iconst 0, 1, [], 0), (1335, .ireturn, 1, [1, 185, 10002], 0), (1336, .aload_n 1, 1, [], 0), (1337, .aload_n 0, 1, [], 0), (1338, .iload_n 3, 1, [], 0), (1339, .iconst 1, 1, [], 1), (1340, .iadd, 1, [], 0), (1341, .iaload, 1, [], 0), (1342, .aload_n 0, 1, [], 0), (1343, .iload_n 3, 1, [], 0), (1344, .iconst 2, 1, [], 2), (1345, .iadd, 1, [], 0), (1346, .iaload, 1, [], 0), (1347, .aload_n 0, 1, [], 0), (1348, .iload_n 3, 1, [], 0), (1349, .iconst 3, 1, [], 3), (1350, .iadd, 1, [], 0), (1351, .iaload, 1, [], 0), (1352, .invokevirtual 126, 3, [137, 3, 10], 0), (1355, .aload_n 2, 1, [], 0), (1356, .aload_n 0, 1, [], 0), (1357, .iload_n 3, 1, [], 0), (1358, .iconst 1, 1, [], 1), (1359, .iadd, 1, [], 0), (1360, .iaload, 1, [], 0), (1361, .aload_n 0, 1, [], 0), (1362, .iload_n 3, 1, [], 0), (1363, .iconst 2, 1, [], 2), (1364, .iadd, 1, [], 0), (1365, .iaload, 1, [], 0), (1366, .aload_n 0, 1, [], 0), (1367, .iload_n 3, 1, [], 0), (1368, .iconst 3, 1, [], 3), (1369, .iadd, 1, [], 0), (1370, .iaload, 1, [], 0), (1371, .invokevirtual 129, 3, [237, 3, 11], 0), (1374, .if_icmp .eq 338, 3, [1270], 0), (1377, .iconst 0, 1, [], 0), (1378, .ireturn, 1, [1, 185, 10002], 0), (1379, .aload_n 1, 1, [], 0)]
def cd_284_5 : List PEn := [(1380, .aload_n 0, 1, [], 0), (1381, .iload_n 3, 1, [], 0), (1382, .iconst 1, 1, [], 1), (1383, .iadd, 1, [], 0), (1384, .iaload, 1, [], 0), (1385, .aload_n 0, 1, [], 0), (1386, .iload_n 3, 1, [], 0), (1387, .iconst 2, 1, [], 2), (1388, .iadd, 1, [], 0), (1389, .iaload, 1, [], 0), (1390, .invokevirtual 130, 3, [152, 2, 10], 0), (1393, .aload_n 2, 1, [], 0), (1394, .aload_n 0, 1, [], 0), (1395, .iload_n 3, 1, [], 0), (1396, .iconst 1, 1, [], 1), (1397, .iadd, 1, [], 0), (1398, .iaload, 1, [], 0), (1399, .aload_n 0, 1, [], 0), (1400, .iload_n 3, 1, [], 0), (1401, .iconst 2, 1, [], 2), (1402, .iadd, 1, [], 0), (1403, .iaload, 1, [], 0), (1404, .invokevirtual 133, 3, [239, 2, 11], 0), (1407, .if_icmp .eq 305, 3, [1270], 0), (1410, .iconst 0, 1, [], 0), (1411, .ireturn, 1, [1, 185, 10002], 0), (1412, .aload_n 1, 1, [], 0), (1413, .aload_n 0, 1, [], 0), (1414, .iload_n 3, 1, [], 0), (1415, .iconst 1, 1, [], 1), (1416, .iadd, 1, [], 0), (1417, .iaload, 1, [], 0), (1418, .aload_n 0, 1, [], 0), (1419, .iload_n 3, 1, [], 0), (1420, .iconst 2, 1, [], 2), (1421, .iadd, 1, [], 0), (1422, .iaload, 1, [], 0), (1423, .aload_n 0, 1, [], 0), (1424, .iload_n 3, 1, [], 0), (1425, .iconst 3, 1, [], 3), (1426, .iadd, 1, [], 0), (1427, .iaload, 1, [], 0), (1428, .invokevirtual 134, 3, [153, 3, 10], 0), (1431, .aload_n 2, 1, [], 0), (1432, .aload_n 0, 1, [], 0), (1433, .iload_n 3, 1, [], 0), (1434, .iconst 1, 1, [], 1), (1435, .iadd, 1, [], 0), (1436, .iaload, 1, [], 0), (1437, .aload_n 0, 1, [], 0), (1438, .iload_n 3, 1, [], 0), (1439, .iconst 2, 1, [], 2), (1440, .iadd, 1, [], 0), (1441, .iaload, 1, [], 0), (1442, .aload_n 0, 1, [], 0), (1443, .iload_n 3, 1, [], 0), (1444, .iconst 3, 1, [], 3), (1445, .iadd, 1, [], 0), (1446, .iaload, 1, [], 0), (1447, .invokevirtual 137, 3, [243, 3, 11], 0), (1450, .if_icmp .eq 262, 3, [1270], 0), (1453, .iconst 0, 1, [], 0), (1454, .ireturn, 1, [1, 185, 10002], 0), (1455, .aload_n 1, 1, [], 0), (1456, .aload_n 0, 1, [], 0), (1457, .iload_n 3, 1, [], 0), (1458, .iconst 1, 1, [], 1), (1459, .iadd, 1, [], 0), (1460, .iaload, 1, [], 0), (1461, .aload_n 0, 1, [], 0), (1462, .iload_n 3, 1, [], 0), (1463, .iconst 2, 1, [], 2), (1464, .iadd, 1, [], 0), (1465, .iaload, 1, [], 0), (1466, .invokevirtual 138, 3, [154, 2, 10], 0), (1469, .aload_n 2, 1, [], 0), (1470, .aload_n 0, 1, [], 0), (1471, .iload_n 3, 1, [], 0), (1472, .iconst 1, 1, [], 1), (1473, .iadd, 1, [], 0), (1474, .iaload, 1, [], 0), (1475, .aload_n 0, 1, [], 0), (1476, .iload_n 3, 1, [], 0), (1477, .iconst 2, 1, [], 2), (1478, .iadd, 1, [], 0), (1479, .iaload, 1, [], 0), (1480, .invokevirtual 141, 3, [248, 2, 11], 0), (1483, .if_icmp .eq 229, 3, [1270], 0), (1486, .iconst 0, 1, [], 0), (1487, .ireturn, 1, [1, 185, 10002], 0), (1488, .aload_n 1, 1, [], 0), (1489, .aload_n 0, 1, [], 0), (1490, .iload_n 3, 1, [], 0), (1491, .iconst 1, 1, [], 1), (1492, .iadd, 1, [], 0), (1493, .iaload, 1, [], 0), (1494, .aload_n 0, 1, [], 0), (1495, .iload_n 3, 1, [], 0), (1496, .iconst 2, 1, [], 2), (1497, .iadd, 1, [], 0), (1498, .iaload, 1, [], 0), (1499, .aload_n 0, 1, [], 0), (1500, .iload_n 3, 1, [], 0), (1501, .iconst 3, 1, [], 3), (1502, .iadd, 1, [], 0), (1503, .iaload, 1, [], 0), (1504, .invokevirtual 142, 3, [134, 3, 10], 0), (1507, .aload_n 2, 1, [], 0), (1508, .aload_n 0, 1, [], 0), (1509, .iload_n 3, 1, [], 0), (1510, .iconst 1, 1, [], 1), (1511, .iadd, 1, [], 0), (1512, .iaload, 1, [], 0), (1513, .aload_n 0, 1, [], 0), (1514, .iload_n 3, 1, [], 0), (1515, .iconst 2, 1, [], 2), (1516, .iadd, 1, [], 0), (1517, .iaload, 1, [], 0), (1518, .aload_n 0, 1, [], 0), (1519, .iload_n 3, 1, [], 0), (1520, .iconst 3, 1, [], 3), (1521, .iadd, 1, [], 0), (1522, .iaload, 1, [], 0), (1523, .invokevirtual 145, 3, [264, 3, 11], 0), (1526, .if_icmp .eq 186, 3, [1270], 0), (1529, .iconst 0, 1, [], 0), (1530, .ireturn, 1, [1, 185, 10002], 0), (1531, .aload_n 1, 1, [], 0), (1532, .aload_n 0, 1, [], 0), (1533, .iload_n 3, 1, [], 0), (1534, .iconst 1, 1, [], 1), (1535, .iadd, 1, [], 0), (1536, .iaload, 1, [], 0), (1537, .aload_n 0, 1, [], 0), (1538, .iload_n 3, 1, [], 0), (1539, .iconst 2, 1, [], 2), (1540, .iadd, 1, [], 0), (1541, .iaload, 1, [], 0), (1542, .aload_n 0, 1, [], 0), (1543, .iload_n 3, 1, [], 0), (1544, .iconst 3, 1, [], 3), (1545, .iadd, 1, [], 0), (1546, .iaload, 1, [], 0), (1547, .aload_n 0, 1, [], 0), (1548, .iload_n 3, 1, [], 0), (1549, .iconst 4, 1, [], 4), (1550, .iadd, 1, [], 0), (1551, .iaload, 1, [], 0), (1552, .ifCond .eq 7, 3, [1151], 0), (1555, .iconst 1, 1, [], 1), (1556, .goto 4, 3, [1152], 0), (1559, .iconst 0, 1, [], 0), (1560, .invokevirtual 146, 3, [156, 4, 10], 0), (1563, .aload_n 2, 1, [], 0), (1564, .aload_n 0, 1, [], 0), (1565, .iload_n 3, 1, [], 0), (1566, .iconst 1, 1, [], 1), (1567, .iadd, 1, [], 0), (1568, .iaload, 1, [], 0), (1569, .aload_n 0, 1, [], 0), (1570, .iload_n 3, 1, [], 0), (1571, .iconst 2, 1, [], 2), (1572, .iadd, 1, [], 0), (1573, .iaload, 1, [], 0), (1574, .aload_n 0, 1, [], 0), (1575, .iload_n 3, 1, [], 0), (1576, .iconst 3, 1, [], 3), (1577, .iadd, 1, [], 0), (1578, .iaload, 1, [], 0), (1579, .aload_n 0, 1, [], 0), (1580, .iload_n 3, 1, [], 0), (1581, .iconst 4, 1, [], 4), (1582, .iadd, 1, [], 0), (1583, .iaload, 1, [], 0), (1584, .ifCond .eq 7, 3, [1177], 0), (1587, .iconst 1, 1, [], 1), (1588, .goto 4, 3, [1178], 0), (1591, .iconst 0, 1, [], 0), (1592, .invokevirtual 149, 3, [273, 4, 11], 0), (1595, .if_icmp .eq 117, 3, [1270], 0), (1598, .iconst 0, 1, [], 0), (1599, .ireturn, 1, [1, 185, 10002], 0), (1600, .aload_n 1, 1, [], 0), (1601, .aload_n 0, 1, [], 0), (1602, .iload_n 3, 1, [], 0), (1603, .iconst 1, 1, [], 1), (1604, .iadd, 1, [], 0), (1605, .iaload, 1, [], 0), (1606, .aload_n 0, 1, [], 0), (1607, .iload_n 3, 1, [], 0), (1608, .iconst 2, 1, [], 2), (1609, .iadd, 1, [], 0), (1610, .iaload, 1, [], 0), (1611, .aload_n 0, 1, [], 0), (1612, .iload_n 3, 1, [], 0), (1613, .iconst 3, 1, [], 3), (1614, .iadd, 1, [], 0), (1615, .iaload, 1, [], 0), (1616, .invokevirtual 150, 3, [157, 3, 10], 0), (1619, .aload_n 2, 1, [], 0)]
def cd_284_6 : List PEn := [(1620, .aload_n 0, 1, [], 0), (1621, .iload_n 3, 1, [], 0), (1622, .iconst 1, 1, [], 1), (1623, .iadd, 1, [], 0), (1624, .iaload, 1, [], 0), (1625, .aload_n 0, 1, [], 0), (1626, .iload_n 3, 1, [], 0), (1627, .iconst 2, 1, [], 2), (1628, .iadd, 1, [], 0), (1629, .iaload, 1, [], 0), (1630, .aload_n 0, 1, [], 0), (1631, .iload_n 3, 1, [], 0), (1632, .iconst 3, 1, [], 3), (1633, .iadd, 1, [], 0), (1634, .iaload, 1, [], 0), (1635, .invokevirtual 153, 3, [276, 3, 11], 0), (1638, .if_icmp .eq 74, 3, [1270], 0), (1641, .iconst 0, 1, [], 0), (1642, .ireturn, 1, [1, 185, 10002], 0), (1643, .aload_n 1, 1, [], 0), (1644, .aload_n 0, 1, [], 0), (1645, .iload_n 3, 1, [], 0), (1646, .iconst 1, 1, [], 1), (1647, .iadd, 1, [], 0), (1648, .iaload, 1, [], 0), (1649, .invokevirtual 154, 3, [125, 1, 10], 0), (1652, .aload_n 2, 1, [], 0), (1653, .aload_n 0, 1, [], 0), (1654, .iload_n 3, 1, [], 0), (1655, .iconst 1, 1, [], 1), (1656, .iadd, 1, [], 0), (1657, .iaload, 1, [], 0), (1658, .invokevirtual 157, 3, [280, 1, 11], 0), (1661, .if_icmp .eq 51, 3, [1270], 0), (1664, .iconst 0, 1, [], 0), (1665, .ireturn, 1, [1, 185, 10002], 0), (1666, .aload_n 1, 1, [], 0), (1667, .aload_n 0, 1, [], 0), (1668, .iload_n 3, 1, [], 0), (1669, .iconst 1, 1, [], 1), (1670, .iadd, 1, [], 0), (1671, .iaload, 1, [], 0), (1672, .invokevirtual 158, 3, [126, 1, 10], 0), (1675, .aload_n 2, 1, [], 0), (1676, .aload_n 0, 1, [], 0), (1677, .iload_n 3, 1, [], 0), (1678, .iconst 1, 1, [], 1), (1679, .iadd, 1, [], 0), (1680, .iaload, 1, [], 0), (1681, .invokevirtual 162, 3, [281, 1, 11], 0), (1684, .if_icmp .eq 28, 3, [1270], 0), (1687, .iconst 0, 1, [], 0), (1688, .ireturn, 1, [1, 185, 10002], 0), (1689, .aload_n 1, 1, [], 0), (1690, .aload_n 0, 1, [], 0), (1691, .iload_n 3, 1, [], 0), (1692, .iconst 1, 1, [], 1), (1693, .iadd, 1, [], 0), (1694, .iaload, 1, [], 0), (1695, .invokevirtual 163, 3, [127, 1, 10], 0), (1698, .aload_n 2, 1, [], 0), (1699, .aload_n 0, 1, [], 0), (1700, .iload_n 3, 1, [], 0), (1701, .iconst 1, 1, [], 1), (1702, .iadd, 1, [], 0), (1703, .iaload, 1, [], 0), (1704, .invokevirtual 166, 3, [282, 1, 11], 0), (1707, .if_icmp .eq 5, 3, [1270], 0), (1710, .iconst 0, 1, [], 0), (1711, .ireturn, 1, [1, 185, 10002], 0), (1712, .iinc 3 6, 3, [], 0), (1715, .goto (-1697), 3, [10], 0), (1718, .iconst 1, 1, [], 1), (1719, .ireturn, 1, [1, 185, 10002], 0)]
/-- L_law -/
def cd_284 : List PEn := cd_284_0 ++ (cd_284_1 ++ (cd_284_2 ++ (cd_284_3 ++ (cd_284_4 ++ (cd_284_5 ++ (cd_284_6))))))
def cds (k : Nat) : List PEn := ([cd_0, cd_1, cd_2, cd_3, cd_4, cd_5, cd_6, cd_7, cd_8, cd_9, cd_10, cd_11, cd_12, cd_13, cd_14, cd_15, cd_16, cd_17, cd_18, cd_19, cd_20, cd_21, cd_22, cd_23, cd_24, cd_25, cd_26, cd_27, cd_28, cd_29, cd_30, cd_31, cd_32, cd_33, cd_34, cd_35, cd_36, cd_37, cd_38, cd_39, cd_40, cd_41, cd_42, cd_43, cd_44, cd_45, cd_46, cd_47, cd_48, cd_49, cd_50, cd_51, cd_52, cd_53, cd_54, cd_55, cd_56, cd_57, cd_58, cd_59, cd_60, cd_61, cd_62, cd_63, cd_64, cd_65, cd_66, cd_67, cd_68, cd_69, cd_70, cd_71, cd_72, cd_73, cd_74, cd_75, cd_76, cd_77, cd_78, cd_79, cd_80, cd_81, cd_82, cd_83, cd_84, cd_85, cd_86, cd_87, cd_88, cd_89, cd_90, cd_91, cd_92, cd_93, cd_94, cd_95, cd_96, cd_97, cd_98, cd_99, cd_100, cd_101, cd_102, cd_103, cd_104, cd_105, cd_106, cd_107, cd_108, cd_109, cd_110, cd_111, cd_112, cd_113, cd_114, cd_115, cd_116, cd_117, cd_118, cd_119, cd_120, cd_121, cd_122, cd_123, cd_124, cd_125, cd_126, cd_127, cd_128, cd_129, cd_130, cd_131, cd_132, cd_133, cd_134, cd_135, cd_136, cd_137, cd_138, cd_139, cd_140, cd_141, cd_142, cd_143, cd_144, cd_145, cd_146, cd_147, cd_148, cd_149, cd_150, cd_151, cd_152, cd_153, cd_154, cd_155, cd_156, cd_157, cd_158, cd_159, cd_160, cd_161, cd_162, cd_163, cd_164, cd_165, cd_166, cd_167, cd_168, cd_169, cd_170, cd_171, cd_172, cd_173, cd_174, cd_175, cd_176, cd_177, cd_178, cd_179, cd_180, cd_181, cd_182, cd_183, cd_184, cd_185, cd_186, cd_187, cd_188, cd_189, cd_190, cd_191, cd_192, cd_193, cd_194, cd_195, cd_196, cd_197, cd_198, cd_199, cd_200, cd_201, cd_202, cd_203, cd_204, cd_205, cd_206, cd_207, cd_208, cd_209, cd_210, cd_211, cd_212, cd_213, cd_214, cd_215, cd_216, cd_217, cd_218, cd_219, cd_220, cd_221, cd_222, cd_223, cd_224, cd_225, cd_226, cd_227, cd_228, cd_229, cd_230, cd_231, cd_232, cd_233, cd_234, cd_235, cd_236, cd_237, cd_238, cd_239, cd_240, cd_241, cd_242, cd_243, cd_244, cd_245, cd_246, cd_247, cd_248, cd_249, cd_250, cd_251, cd_252, cd_253, cd_254, cd_255, cd_256, cd_257, cd_258, cd_259, cd_260, cd_261, cd_262, cd_263, cd_264, cd_265, cd_266, cd_267, cd_268, cd_269, cd_270, cd_271, cd_272, cd_273, cd_274, cd_275, cd_276, cd_277, cd_278, cd_279, cd_280, cd_281, cd_282, cd_283, cd_284] : List (List PEn)).getD k []
def lks_0 : List (Nat × Nat × Nat × Nat) := [(7, 3, 0, 0), (0, 9, 0, 1), (0, 15, 0, 0), (1, 19, 29, 0), (0, 25, 0, 2), (0, 29, 0, 3), (0, 32, 2, 6), (1, 35, 283, 0), (0, 41, 0, 4), (0, 44, 0, 5), (0, 47, 0, 6), (0, 50, 6, 0), (13, 55, 0, 0), (0, 61, 6, 1), (0, 64, 6, 2), (1, 67, 32, 0), (1, 71, 2, 0), (0, 75, 2, 0), (0, 79, 7, 1), (0, 84, 2, 7), (0, 87, 2, 2), (0, 90, 2, 4), (12, 93, 0, 0)]
def lkp_0 : List Nat := [459, 461, 460, 839, 462, 464, 374, 840, 466, 468, 470, 228, 846, 232, 235, 849, 885, 360, 158, 378, 367, 371, 889]
def lks_1 : List (Nat × Nat × Nat × Nat) := [(1, 9, 84, 0), (1, 15, 283, 0), (0, 21, 7, 3), (1, 25, 86, 0), (0, 29, 7, 4), (1, 32, 82, 0), (0, 36, 7, 2), (1, 39, 8, 0), (0, 45, 7, 10), (0, 49, 7, 7), (1, 52, 13, 0), (0, 55, 7, 9), (1, 58, 87, 0), (1, 61, 15, 0), (12, 64, 0, 0)]
def lkp_1 : List Nat := [999, 1003, 172, 1004, 178, 1054, 168, 1051, 196, 191, 1065, 194, 1077, 1074, 1081]
def lks_2 : List (Nat × Nat × Nat × Nat) := [(7, 3, 0, 0), (0, 9, 1, 1), (0, 15, 1, 7), (0, 18, 1, 0), (1, 22, 29, 0), (0, 28, 2, 0), (0, 32, 7, 1), (0, 38, 1, 2), (0, 41, 1, 3), (0, 44, 7, 2), (1, 47, 19, 0), (1, 51, 35, 0), (1, 55, 20, 0), (1, 59, 31, 0), (0, 62, 2, 1), (1, 66, 54, 0), (0, 72, 1, 5), (1, 75, 18, 0), (0, 79, 1, 4), (0, 82, 1, 6), (1, 85, 25, 0), (1, 88, 27, 0), (1, 92, 34, 0), (1, 95, 33, 0), (1, 99, 26, 0), (1, 102, 82, 0), (0, 105, 7, 5), (12, 108, 0, 0), (13, 114, 0, 0)]
def lkp_2 : List Nat := [410, 412, 423, 411, 935, 358, 157, 413, 415, 164, 936, 945, 946, 940, 363, 944, 419, 962, 417, 421, 971, 981, 985, 975, 976, 980, 185, 986, 987]
def lks_3 : List (Nat × Nat × Nat × Nat) := [(7, 3, 0, 0), (3, 9, 7, 0), (2, 11, 77, 0), (0, 12, 2, 0), (3, 18, 4, 0), (2, 20, 53, 0), (0, 21, 2, 1), (1, 25, 79, 0), (0, 29, 2, 2), (0, 33, 2, 3), (0, 36, 2, 4), (0, 39, 2, 5), (0, 42, 2, 7), (0, 45, 2, 8), (0, 48, 2, 9), (1, 52, 30, 0), (0, 55, 7, 3), (1, 58, 86, 0), (0, 62, 2, 6), (0, 65, 7, 0), (1, 68, 55, 0), (1, 72, 33, 0), (1, 76, 35, 0), (1, 80, 36, 0), (1, 83, 37, 0), (1, 86, 38, 0), (1, 89, 39, 0), (0, 92, 4, 0), (0, 93, 7, 2), (1, 96, 54, 0), (0, 100, 7, 5), (13, 104, 0, 0), (0, 109, 7, 6), (1, 112, 82, 0), (0, 115, 7, 1), (1, 118, 34, 0), (1, 121, 83, 0)]
def lkp_3 : List Nat := [336, 337, 338, 357, 339, 341, 362, 786, 366, 368, 370, 373, 377, 379, 382, 787, 173, 791, 375, 153, 795, 853, 859, 868, 872, 876, 880, 346, 167, 857, 183, 858, 188, 867, 160, 863, 884]
def lks_4 : List (Nat × Nat × Nat × Nat) := [(7, 3, 0, 0), (0, 9, 3, 2), (0, 15, 3, 3), (0, 19, 3, 4), (3, 22, 4, 0), (2, 24, 53, 0), (0, 25, 3, 5), (0, 29, 3, 0), (0, 33, 7, 2), (0, 38, 3, 1), (1, 39, 84, 0), (0, 43, 7, 0), (1, 46, 86, 0), (1, 50, 55, 0), (1, 54, 43, 0), (1, 58, 44, 0), (0, 62, 6, 0), (0, 65, 6, 1), (1, 68, 82, 0), (1, 72, 54, 0), (0, 76, 6, 2), (1, 79, 46, 0), (1, 82, 49, 0), (12, 85, 0, 0), (1, 90, 283, 0), (13, 95, 0, 0)]
def lkp_4 : List Nat := [491, 497, 498, 499, 492, 493, 500, 494, 162, 496, 1201, 151, 1202, 1203, 1204, 1210, 229, 233, 1208, 1209, 236, 1231, 1218, 1222, 1248, 1249]
def lks_5 : List (Nat × Nat × Nat × Nat) := [(7, 3, 0, 0), (0, 9, 4, 1), (0, 15, 4, 2), (0, 18, 7, 2), (0, 24, 7, 5), (0, 27, 4, 0), (1, 30, 56, 0)]
def lkp_5 : List Nat := [344, 348, 349, 166, 182, 345, 799]
def lks_6 : List (Nat × Nat × Nat × Nat) := [(7, 3, 0, 0), (0, 9, 5, 0), (1, 15, 29, 0), (1, 21, 33, 0), (0, 25, 2, 0), (0, 29, 7, 0), (1, 35, 30, 0), (0, 38, 2, 8), (1, 41, 59, 0), (1, 45, 89, 0), (0, 49, 2, 9), (0, 53, 7, 2), (0, 56, 2, 1), (1, 60, 54, 0), (12, 66, 0, 0), (1, 72, 31, 0), (13, 76, 0, 0), (0, 79, 7, 5), (0, 83, 7, 3), (1, 86, 86, 0), (1, 89, 55, 0), (1, 93, 67, 0), (0, 96, 5, 1), (1, 99, 71, 0), (1, 102, 32, 0), (4, 106, 1103515245, 0)]
def lkp_6 : List Nat := [446, 447, 916, 1135, 359, 152, 1114, 380, 1152, 1177, 383, 169, 364, 1095, 1186, 1187, 1188, 184, 175, 1104, 1105, 1123, 448, 921, 926, 925]
def lks_7 : List (Nat × Nat × Nat × Nat) := [(7, 3, 0, 0), (0, 9, 6, 1), (0, 15, 6, 2), (0, 18, 6, 0), (1, 22, 73, 0), (8, 26, 0, 0)]
def lkp_7 : List Nat := [225, 231, 234, 226, 823, 740]
def lks_8 : List (Nat × Nat × Nat × Nat) := [(7, 3, 0, 0), (0, 9, 7, 0), (0, 15, 7, 1), (0, 18, 7, 5), (0, 22, 7, 6), (0, 25, 7, 7), (0, 28, 7, 8), (0, 31, 7, 9), (0, 34, 7, 10), (0, 37, 7, 2), (0, 40, 7, 3), (0, 43, 7, 4), (8, 46, 0, 0), (1, 52, 83, 0)]
def lkp_8 : List Nat := [149, 150, 156, 181, 187, 190, 192, 193, 195, 163, 171, 177, 733, 778]
def lks_9 : List (Nat × Nat × Nat × Nat) := [(7, 3, 0, 0), (3, 9, 7, 0), (2, 11, 77, 0), (0, 12, 8, 0), (3, 18, 6, 0), (2, 20, 72, 0), (0, 21, 8, 1), (0, 25, 8, 2), (0, 28, 8, 6), (0, 32, 8, 5), (1, 36, 78, 0), (0, 39, 6, 0), (0, 43, 8, 3), (0, 46, 8, 4), (0, 49, 8, 11), (0, 52, 8, 9), (1, 55, 106, 0), (0, 58, 8, 7), (1, 61, 93, 0), (0, 65, 7, 2), (0, 68, 9, 1), (1, 73, 105, 0), (1, 77, 100, 0), (1, 81, 104, 0), (1, 84, 96, 0), (0, 88, 8, 8), (1, 91, 99, 0), (0, 95, 8, 10), (1, 98, 97, 0), (1, 101, 98, 0), (1, 105, 94, 0), (1, 108, 74, 0), (1, 111, 95, 0), (0, 114, 7, 0), (0, 117, 7, 1), (0, 120, 7, 3), (1, 123, 80, 0), (1, 126, 81, 0), (0, 130, 7, 4), (11, 133, 0, 0), (11, 136, 1, 0), (11, 139, 2, 0), (1, 142, 101, 0), (1, 146, 102, 0), (6, 149, 10, 0), (1, 151, 103, 0), (6, 155, 0, 0), (6, 156, 1, 0), (6, 157, 2, 0), (6, 159, 3, 0), (6, 161, 4, 0), (6, 163, 5, 0), (6, 165, 6, 0), (6, 167, 7, 0), (6, 169, 8, 0), (6, 171, 9, 0), (9, 173, 0, 0), (1, 177, 113, 0), (10, 180, 0, 0), (1, 184, 108, 0), (1, 187, 109, 0), (1, 190, 110, 0), (1, 193, 107, 0)]
def lkp_9 : List Nat := [283, 284, 285, 288, 286, 287, 290, 292, 299, 298, 571, 227, 294, 296, 304, 302, 575, 300, 596, 165, 247, 687, 600, 675, 679, 301, 691, 303, 683, 701, 705, 709, 713, 154, 159, 174, 717, 721, 179, 695, 697, 699, 604, 666, 674, 609, 608, 661, 662, 663, 664, 665, 670, 671, 672, 673, 613, 579, 623, 583, 586, 589, 592]
def lks_10 : List (Nat × Nat × Nat × Nat) := [(7, 3, 0, 0), (0, 9, 9, 0), (3, 15, 7, 0), (0, 17, 9, 2), (3, 21, 6, 0), (0, 23, 9, 3), (0, 27, 9, 4), (0, 30, 9, 5), (0, 33, 9, 7), (2, 37, 77, 0), (2, 38, 72, 0), (0, 39, 9, 1), (1, 42, 114, 0), (1, 46, 82, 0), (8, 50, 0, 0), (1, 56, 79, 0), (1, 60, 76, 0), (0, 63, 9, 6)]
def lkp_10 : List Nat := [140, 244, 141, 248, 143, 250, 252, 254, 258, 146, 222, 246, 563, 1014, 762, 763, 764, 257]
def lks_11 : List (Nat × Nat × Nat × Nat) := [(7, 1, 0, 0), (3, 7, 9, 0), (1, 9, 111, 0), (0, 10, 10, 0), (0, 16, 10, 1), (0, 20, 10, 2), (3, 24, 8, 0), (1, 26, 91, 0), (0, 29, 10, 3), (3, 33, 2, 0), (2, 35, 28, 0), (0, 36, 10, 4), (3, 40, 1, 0), (1, 42, 17, 0), (0, 45, 10, 5), (3, 49, 5, 0), (1, 51, 57, 0), (0, 52, 10, 6), (3, 56, 0, 0), (1, 58, 0, 0), (0, 59, 10, 7), (3, 63, 3, 0), (2, 65, 41, 0), (0, 66, 10, 8), (0, 70, 9, 1), (1, 74, 112, 0), (0, 78, 9, 6), (0, 81, 9, 7), (1, 84, 116, 0), (1, 88, 92, 0), (0, 91, 8, 3), (0, 92, 8, 4), (1, 93, 123, 0), (0, 97, 9, 2), (0, 101, 8, 0), (1, 105, 79, 0), (0, 111, 9, 3), (0, 115, 8, 1), (1, 118, 76, 0), (0, 123, 9, 4), (0, 126, 8, 2), (1, 129, 117, 0), (0, 132, 9, 5), (1, 136, 118, 0), (1, 138, 114, 0), (1, 142, 85, 0), (1, 146, 29, 0), (1, 149, 129, 0), (0, 153, 7, 0), (0, 156, 7, 1), (0, 159, 7, 2), (0, 162, 7, 4), (0, 165, 7, 3), (0, 168, 2, 6), (0, 171, 2, 1), (0, 175, 4, 0), (1, 180, 82, 0), (0, 184, 7, 5), (0, 187, 7, 6), (1, 190, 54, 0), (1, 193, 75, 0), (0, 196, 6, 0), (1, 199, 1, 0), (1, 203, 40, 0), (0, 205, 0, 2), (0, 208, 0, 3), (0, 211, 0, 4), (0, 214, 0, 5), (1, 217, 3, 0), (1, 221, 69, 0), (1, 225, 70, 0), (1, 228, 18, 0), (0, 232, 2, 0), (0, 235, 1, 2), (0, 238, 1, 3), (1, 241, 21, 0), (1, 244, 22, 0), (0, 247, 1, 4), (0, 250, 1, 5), (0, 253, 1, 6), (1, 256, 23, 0), (1, 260, 24, 0), (1, 263, 4, 0), (1, 269, 283, 0), (1, 274, 115, 0), (1, 276, 86, 0), (1, 279, 5, 0), (1, 282, 6, 0), (1, 286, 7, 0), (1, 289, 158, 0), (1, 293, 84, 0), (1, 296, 9, 0), (1, 299, 8, 0), (1, 302, 10, 0), (1, 305, 11, 0), (1, 308, 12, 0), (1, 311, 14, 0), (1, 314, 16, 0), (1, 317, 15, 0), (1, 320, 65, 0), (1, 323, 66, 0), (1, 326, 67, 0), (1, 329, 68, 0), (14, 333, 0, 0), (1, 338, 59, 0), (0, 341, 2, 8), (1, 344, 58, 0), (0, 347, 2, 3), (1, 350, 60, 0), (1, 353, 88, 0), (1, 356, 89, 0), (1, 359, 90, 0), (0, 362, 2, 4), (1, 363, 61, 0), (1, 366, 62, 0), (1, 369, 63, 0), (1, 372, 64, 0), (1, 375, 42, 0), (0, 379, 3, 0), (1, 380, 48, 0), (1, 383, 45, 0), (1, 386, 47, 0), (1, 389, 46, 0), (1, 392, 50, 0), (1, 395, 51, 0), (1, 398, 52, 0), (1, 401, 159, 0)]
def lkp_11 : List Nat := [132, 135, 137, 515, 516, 517, 278, 280, 518, 331, 333, 519, 405, 407, 520, 441, 443, 521, 454, 456, 522, 486, 488, 523, 245, 547, 256, 259, 559, 567, 295, 297, 725, 249, 289, 729, 251, 291, 736, 253, 293, 741, 255, 758, 773, 774, 782, 803, 155, 161, 170, 180, 176, 376, 365, 347, 807, 186, 189, 811, 819, 230, 835, 896, 463, 465, 467, 469, 904, 912, 917, 931, 361, 414, 416, 950, 958, 418, 420, 422, 967, 988, 996, 1005, 1010, 1015, 1016, 1023, 1026, 1029, 1039, 1048, 1055, 1056, 1059, 1062, 1068, 1071, 1086, 1091, 1100, 1110, 1119, 1124, 1131, 381, 1140, 369, 1148, 1157, 1161, 1165, 372, 1173, 1178, 1182, 1189, 1197, 495, 1214, 1223, 1227, 1239, 1244, 1250, 1254, 1032]
def lks_12 : List (Nat × Nat × Nat × Nat) := [(7, 1, 0, 0), (0, 7, 11, 0), (0, 13, 11, 1), (0, 17, 11, 10), (0, 20, 11, 25), (0, 23, 11, 26), (0, 26, 11, 27), (0, 29, 11, 28), (0, 32, 11, 31), (0, 35, 11, 32), (0, 38, 11, 33), (0, 41, 11, 40), (0, 44, 11, 43), (0, 47, 11, 44), (0, 50, 11, 45), (0, 53, 11, 2), (1, 57, 167, 0), (5, 61, 1048576, 0), (1, 63, 168, 0), (0, 67, 11, 3), (1, 70, 164, 0), (0, 74, 11, 4), (0, 77, 11, 5), (1, 80, 165, 0), (5, 84, 32, 0), (5, 86, 96, 0), (1, 88, 169, 0), (0, 92, 11, 7), (1, 95, 166, 0), (0, 98, 11, 6), (0, 101, 11, 8), (1, 105, 171, 0), (1, 108, 161, 0), (1, 112, 172, 0), (1, 116, 170, 0), (1, 119, 173, 0), (0, 123, 11, 9), (1, 126, 176, 0), (1, 130, 177, 0), (1, 133, 174, 0), (1, 136, 178, 0), (1, 140, 179, 0), (1, 144, 175, 0), (1, 147, 181, 0), (1, 150, 186, 0), (1, 154, 180, 0), (1, 157, 182, 0), (1, 160, 183, 0), (1, 163, 185, 0), (1, 166, 184, 0), (0, 169, 11, 11), (0, 172, 11, 12), (0, 175, 11, 13), (1, 178, 201, 0), (0, 181, 11, 17), (1, 184, 194, 0), (1, 187, 196, 0), (0, 190, 11, 18), (0, 193, 11, 16), (1, 196, 197, 0), (1, 199, 198, 0), (0, 202, 11, 14), (0, 205, 11, 15), (0, 208, 11, 19), (0, 211, 11, 20), (0, 214, 11, 21), (0, 217, 11, 22), (1, 220, 192, 0), (1, 223, 199, 0), (0, 226, 11, 23), (0, 229, 11, 24), (1, 232, 200, 0), (1, 235, 193, 0), (1, 238, 189, 0), (1, 241, 190, 0), (0, 244, 11, 29), (0, 247, 11, 30), (1, 250, 203, 0), (1, 253, 204, 0), (1, 256, 206, 0), (1, 259, 191, 0), (1, 262, 195, 0), (1, 265, 209, 0), (1, 268, 202, 0), (1, 271, 213, 0), (1, 274, 214, 0), (1, 278, 216, 0), (4, 281, 99999999, 0), (1, 282, 218, 0), (1, 286, 225, 0), (1, 289, 227, 0), (1, 292, 229, 0), (1, 295, 223, 0), (1, 298, 224, 0), (1, 301, 226, 0), (1, 304, 228, 0), (1, 308, 230, 0), (1, 311, 233, 0), (1, 314, 236, 0), (1, 317, 238, 0), (1, 320, 242, 0), (1, 323, 240, 0), (1, 326, 241, 0), (1, 329, 244, 0), (1, 332, 245, 0), (1, 335, 246, 0), (1, 338, 247, 0), (0, 341, 11, 34), (1, 344, 249, 0), (0, 347, 11, 35), (0, 350, 11, 36), (0, 353, 11, 37), (0, 356, 11, 38), (0, 359, 11, 39), (1, 362, 252, 0), (1, 366, 253, 0), (1, 369, 254, 0), (1, 372, 255, 0), (1, 376, 256, 0), (1, 379, 257, 0), (1, 382, 251, 0), (1, 385, 258, 0), (1, 388, 259, 0), (1, 391, 261, 0), (1, 394, 263, 0), (0, 397, 11, 41), (1, 400, 265, 0), (0, 403, 11, 42), (1, 406, 267, 0), (1, 409, 269, 0), (1, 412, 268, 0), (1, 415, 270, 0), (1, 418, 271, 0), (1, 421, 275, 0), (1, 424, 274, 0), (0, 427, 11, 46), (4, 430, 1103515245, 0), (1, 431, 277, 0), (1, 434, 278, 0)]
def lkp_12 : List Nat := [1263, 1264, 1265, 1274, 1289, 1290, 1291, 1292, 1295, 1296, 1297, 1304, 1307, 1308, 1309, 1266, 1444, 1447, 1441, 1267, 1429, 1268, 1269, 1433, 1436, 1437, 1438, 1271, 1448, 1270, 1272, 1459, 1418, 1471, 1425, 1467, 1273, 1463, 1483, 1455, 1475, 1479, 1487, 1495, 1421, 1451, 1491, 1498, 1502, 1505, 1275, 1276, 1277, 1520, 1281, 1540, 1536, 1282, 1280, 1532, 1544, 1278, 1279, 1283, 1284, 1285, 1286, 1524, 1528, 1287, 1288, 1548, 1556, 1516, 1552, 1293, 1294, 1568, 1572, 1564, 1580, 1584, 1591, 1599, 1614, 1611, 1621, 1633, 1629, 1662, 1670, 1678, 1650, 1654, 1658, 1666, 1674, 1690, 1702, 1710, 1718, 1722, 1726, 1734, 1738, 1742, 1746, 1298, 1754, 1299, 1300, 1301, 1302, 1303, 1778, 1782, 1786, 1790, 1794, 1774, 1766, 1770, 1762, 1802, 1810, 1305, 1818, 1306, 1830, 1838, 1826, 1834, 1842, 1854, 1858, 1310, 1874, 1870, 1866]
def lks_13 : List (Nat × Nat × Nat × Nat) := [(4, 265, 1431655765, 0), (4, 266, 858993459, 0), (4, 267, 252645135, 0)]
def lkp_13 : List Nat := [843, 844, 845]
def lks_14 : List (Nat × Nat × Nat × Nat) := [(3, 7, 10, 0), (1, 9, 119, 0), (3, 10, 11, 0), (1, 12, 160, 0), (1, 13, 120, 0), (1, 17, 162, 0), (1, 18, 121, 0), (1, 22, 163, 0), (1, 23, 122, 0), (1, 27, 187, 0), (1, 28, 124, 0), (1, 31, 188, 0), (1, 32, 128, 0), (1, 35, 205, 0), (1, 36, 130, 0), (1, 40, 250, 0), (1, 41, 132, 0), (1, 44, 260, 0), (1, 45, 133, 0), (1, 49, 262, 0), (1, 50, 136, 0), (1, 53, 207, 0), (1, 54, 139, 0), (1, 58, 208, 0), (1, 59, 140, 0), (1, 63, 210, 0), (1, 64, 150, 0), (1, 67, 211, 0), (1, 68, 151, 0), (1, 71, 212, 0), (1, 72, 146, 0), (1, 75, 215, 0), (1, 76, 147, 0), (1, 79, 217, 0), (1, 80, 138, 0), (1, 84, 219, 0), (1, 85, 141, 0), (1, 89, 220, 0), (1, 90, 142, 0), (1, 93, 221, 0), (1, 94, 131, 0), (1, 97, 266, 0), (1, 98, 155, 0), (1, 101, 272, 0), (1, 102, 135, 0), (1, 105, 279, 0), (1, 106, 143, 0), (1, 109, 222, 0), (1, 110, 144, 0), (1, 113, 231, 0), (1, 114, 145, 0), (1, 117, 232, 0), (1, 118, 148, 0), (1, 121, 234, 0), (1, 122, 149, 0), (1, 125, 235, 0), (1, 126, 137, 0), (1, 129, 237, 0), (1, 130, 152, 0), (1, 133, 239, 0), (1, 134, 153, 0), (1, 137, 243, 0), (1, 138, 154, 0), (1, 141, 248, 0), (1, 142, 134, 0), (1, 145, 264, 0), (1, 146, 156, 0), (1, 149, 273, 0), (1, 150, 157, 0), (1, 153, 276, 0), (1, 154, 125, 0), (1, 157, 280, 0), (1, 158, 126, 0), (1, 162, 281, 0), (1, 163, 127, 0), (1, 166, 282, 0)]
def lkp_14 : List Nat := [127, 129, 1258, 1260, 543, 1406, 551, 1410, 555, 1414, 746, 1508, 769, 1512, 815, 1750, 831, 1758, 892, 1798, 927, 1560, 992, 1576, 1006, 1587, 1127, 1595, 1136, 1603, 1087, 1607, 1096, 1617, 963, 1625, 1019, 1634, 1035, 1638, 827, 1814, 1193, 1822, 908, 1862, 1040, 1642, 1044, 1646, 1082, 1682, 1106, 1686, 1115, 1694, 954, 1698, 1144, 1706, 1153, 1714, 1169, 1730, 900, 1806, 1235, 1846, 1240, 1850, 750, 1875, 754, 1879, 765, 1883]
def lks (o : Nat) : List (Nat × Nat × Nat × Nat) := ([lks_0, lks_1, lks_2, lks_3, lks_4, lks_5, lks_6, lks_7, lks_8, lks_9, lks_10, lks_11, lks_12, lks_13, lks_14] : List (List (Nat × Nat × Nat × Nat))).getD o []
end
section
/-! CHECKS (printed by wip/whole/emit_tables.py): each entry of the tables is what the class file and the tables' words say -/
def mKd : List Nat := [2, 1, 1, 1, 0, 0, 0, 0, 0, 0, 0, 0, 0, 0, 0, 0, 0, 2, 1, 1, 1, 1, 1, 1, 1, 1, 1, 1, 2, 1, 1, 1, 1, 1, 1, 1, 1, 1, 1, 1, 1, 2, 1, 1, 1, 1, 1, 1, 1, 1, 1, 1, 1, 2, 1, 1, 1, 2, 1, 1, 1, 1, 1, 1, 1, 1, 1, 1, 1, 1, 1, 1, 2, 1, 1, 1, 1, 2, 1, 1, 1, 1, 1, 1, 1, 1, 1, 1, 1, 1, 1, 2, 1, 1, 1, 1, 1, 1, 1, 1, 1, 1, 1, 1, 1, 1, 1, 1, 0, 0, 0, 2, 1, 1, 1, 1, 1, 1, 1, 2, 1, 1, 1, 1, 1, 1, 1, 1, 1, 1, 1, 1, 1, 1, 1, 1, 1, 1, 1, 1, 1, 1, 1, 1, 1, 1, 1, 1, 1, 1, 1, 1, 1, 1, 1, 1, 1, 1, 0, 0, 2, 0, 1, 1, 1, 0, 0, 0, 0, 0, 1, 1, 1, 1, 1, 1, 1, 1, 1, 1, 1, 0, 1, 1, 0, 0, 1, 1, 1, 1, 1, 1, 1, 1, 1, 0, 1, 1, 1, 1, 1, 1, 1, 1, 1, 1, 1, 1, 1, 1, 1, 1, 1, 0, 0, 1, 1, 1, 1, 1, 1, 1, 1, 1, 1, 1, 1, 1, 1, 1, 1, 1, 1, 1, 1, 1, 1, 1, 1, 1, 1, 1, 1, 1, 1, 1, 1, 1, 1, 1, 1, 1, 1, 1, 1, 1, 1, 1, 1, 1, 1, 1, 1, 1, 1, 1, 1, 1, 1, 1, 1, 1, 1, 1, 1, 1, 1, 1, 1, 1, 1, 1, 1, 0]
def stN : List String := ["quota", "price", "office", "house", "tie", "pact", "year", "buy", "lose", "cut", "paid"]
def srN : List String := ["PARISH_LIMITS", "YEARS_LIMITS", "LOG_LIMITS"]
def vC (ci : Nat) : vw_C := vwCl.getD ci (RX0, TX0, 7)
def yLen : MethodName := ⟨"java/lang/String", "length", "()I"⟩
def yChr : MethodName := ⟨"java/lang/String", "charAt", "(I)C"⟩
/-- the word of a link: (kind, place in the pool, a, b) in class o -/
def lkW (o : Nat) (t : Nat × Nat × Nat × Nat) : Cond := match t with
  | (0, ix, ci, k) => .fieldLink (cN o) ix ((vC ci).2.1 k).1 ((vC ci).2.1 k).2.1 ((vC ci).2.1 k).2.2.1
  | (1, ix, k, _) => .methodLink (cN o) ix (mY k)
  | (2, ix, k, _) => .methodLinkNest (cN o) ix (mY k) "QuotaParish"
  | (3, ix, ci, _) => .classLink (cN o) ix (vC ci).1
  | (4, ix, z, _) => .constant (cN o) ix (Int32.ofInt z)
  | (5, ix, z, _) => .constantLong (cN o) ix (Int64.ofInt z)
  | (6, ix, j, _) => .stringRef (cN o) ix (stN.getD j "")
  | (7, ix, _, _) => .methodLink (cN o) ix objectInit
  | (8, ix, _, _) => .methodLink (cN o) ix arraycopyName
  | (9, ix, _, _) => .methodLink (cN o) ix yLen
  | (10, ix, _, _) => .methodLink (cN o) ix yChr
  | (12, ix, _, _) => .methodLink (cN o) ix ⟨"java/lang/Math", "max", "(II)I"⟩
  | (13, ix, _, _) => .methodLink (cN o) ix ⟨"java/lang/Math", "min", "(II)I"⟩
  | (14, ix, _, _) => .methodLink (cN o) ix ⟨"java/lang/Math", "abs", "(I)I"⟩
  | (_, ix, j, _) => .fieldLink (cN o) ix "QuotaParish$Reader" (srN.getD j "") "[I"
def tyC (ty : Option FieldType) : Nat := match ty with
  | some .int => 0
  | some .boolean => 1
  | some (.object _) => 2
  | some (.array _) => 2
  | _ => 9
def ftC (ci k : Nat) : Nat := tyC (parseFieldDescriptor ((vC ci).2.1 k).2.2.1)
def bpOf (cdl : List PEn) (j : Nat) : Option Nat := (cdl[j]?).map (·.1)
def calC (t : MT) (c n : Nat) : Bool := decide (c < 284) && decide (mFr c + 1 ≤ t.2.2.2.2.2.1) && decide (8 + (mL c + 11) + mLo c ≤ t.2.2.2.2.2.2.1) && decide ((parseMethodDescriptor (mY c).desc).map (fun d => d.parameters.length) = some n)
def ilen (ins : Instr) : Nat := match ins with
  | .bipush _ | .ldc _ | .newarray _ | .iload _ | .istore _ | .aload _ | .astore _ | .lload _ | .lstore _ => 2
  | .sipush _ | .ldc_w _ | .ldc2_w _ | .getfield _ | .putfield _ | .getstatic _ | .new _ | .anewarray _ | .invokevirtual _ | .invokespecial _ | .invokestatic _ | .iinc _ _ => 3
  | _ => 1
def chkI (t : MT) (lk : List (Nat × Nat × Nat × Nat)) (cdl : List PEn) (i : Nat) (e : PEn) : Bool :=
  match e with
  | (bp, ins, ln, ar, z) =>
  match ins with
  | .goto off => decide (ln = 3) && decide ((bpOf cdl (ord ar 0)).map Int.ofNat = some ((bp : Int) + off))
  | .ifCond _ off => decide (ln = 3) && decide ((bpOf cdl (ord ar 0)).map Int.ofNat = some ((bp : Int) + off)) && decide (bpOf cdl (i + 1) = some (bp + 3))
  | .if_icmp _ off => decide (ln = 3) && decide ((bpOf cdl (ord ar 0)).map Int.ofNat = some ((bp : Int) + off)) && decide (bpOf cdl (i + 1) = some (bp + 3))
  | .tableswitch d lo hi offs => decide ((bpOf cdl (ord ar 0)).map Int.ofNat = some ((bp : Int) + d)) && decide (hi - lo + 1 = (offs.toList.length : Int)) && decide (offs.toList.map (fun o => some ((bp : Int) + o)) = (List.range offs.toList.length).map (fun j => (bpOf cdl (ord ar (1 + j))).map Int.ofNat))
  | .lookupswitch d ps => decide ((bpOf cdl (ord ar 0)).map Int.ofNat = some ((bp : Int) + d)) && (ps.toList.zip (ps.toList.drop 1)).all (fun (a, next) => a.1 < next.1) && decide (ps.toList.map (fun o => some ((bp : Int) + o.2)) = (List.range ps.toList.length).map (fun j => (bpOf cdl (ord ar (j + 1))).map Int.ofNat))
  | .ireturn => ((ord ar 0 == 0 && decide (t.2.2.2.1 = some .int)) || (ord ar 0 == 1 && decide (t.2.2.2.1 = some .boolean))) && decide (ord ar 1 = t.2.2.2.2.2.2.2.1) && decide (ord ar 2 = t.2.2.2.2.2.2.2.2) && decide (ln = 1)
  | .lreturn => decide (t.2.2.2.1 = some .long) && decide (ord ar 1 = t.2.2.2.2.2.2.2.1) && decide (ord ar 2 = t.2.2.2.2.2.2.2.2) && decide (ln = 1)
  | .return_ => decide (t.2.2.2.1 = none) && decide (ord ar 1 = t.2.2.2.2.2.2.2.1) && decide (ord ar 2 = t.2.2.2.2.2.2.2.2) && decide (ln = 1)
  | _ => decide (bpOf cdl (i + 1) = some (bp + ln)) && decide (ln = ilen ins) && (match ins with
    | .iconst n => decide (n = z)
    | .bipush n => decide ((Int8.ofInt n).toInt32 = Int32.ofInt z)
    | .sipush n => decide ((Int16.ofInt n).toInt32 = Int32.ofInt z)
    | .lconst n => decide (Int64.ofNat (n : Nat) = Int64.ofInt z)
    | .ldc ix => if ar = [] then decide (0 ≤ z) && lk.contains (4, ix, z.toNat, 0) else lk.contains (6, ix, ord ar 0, 0)
    | .ldc_w ix => decide (0 ≤ z) && lk.contains (4, ix, z.toNat, 0)
    | .ldc2_w ix => decide (0 ≤ z) && lk.contains (5, ix, z.toNat, 0)
    | .getfield ix => lk.contains (0, ix, ord ar 0, ord ar 1) && decide (ord ar 1 < (vC (ord ar 0)).2.2) && decide (ord ar 0 < 12)
    | .putfield ix => lk.contains (0, ix, ord ar 0, ord ar 1) && decide (ord ar 1 < (vC (ord ar 0)).2.2) && decide (ord ar 0 < 12) && decide (ftC (ord ar 0) (ord ar 1) = ord ar 2) && decide (ord ar 2 < 3) && (!((vC (ord ar 0)).2.1 (ord ar 1)).2.2.2 || (decide (t.1.name = "<init>") && decide (((vC (ord ar 0)).2.1 (ord ar 1)).1 = t.1.cls)))
    | .getstatic ix => lk.contains (11, ix, ord ar 0 - 11, 0)
    | .new ix => lk.contains (3, ix, ord ar 0, 0) && decide (ord ar 0 < 12) && decide (ar.drop 1 = (List.range (vC (ord ar 0)).2.2).map (ftC (ord ar 0)))
    | .aaload => decide (ord ar 0 = 6 ∨ ord ar 0 = 7 ∨ ord ar 0 = 9)
    | .aastore => decide (ord ar 0 = 6 ∨ ord ar 0 = 7 ∨ ord ar 0 = 9)
    | .anewarray ix => lk.contains (3, ix, ord ar 0, 0) && decide (ord ar 0 = 6 ∨ ord ar 0 = 7 ∨ ord ar 0 = 9)
    | .invokevirtual ix => if ord ar 0 = 902 then lk.contains (9, ix, 0, 0) && decide (4 ≤ t.2.2.2.2.2.1) && decide (100 ≤ t.2.2.2.2.2.2.1) else if ord ar 0 = 903 then lk.contains (10, ix, 0, 0) && decide (4 ≤ t.2.2.2.2.2.1) && decide (100 ≤ t.2.2.2.2.2.2.1) else lk.contains (1, ix, ord ar 0, 0) && calC t (ord ar 0) (ord ar 1) && decide (mKd.getD (ord ar 0) 0 = 1) && decide ((vC (ord ar 2)).1 = (mY (ord ar 0)).cls) && decide (ord ar 2 < 12)
    | .invokespecial ix => if ord ar 0 = 900 then lk.contains (7, ix, 0, 0) && decide (1 ≤ t.2.2.2.2.2.1) && decide (20 ≤ t.2.2.2.2.2.2.1) else (lk.contains (1, ix, ord ar 0, 0) || lk.contains (2, ix, ord ar 0, 0)) && calC t (ord ar 0) (ord ar 1) && decide (mKd.getD (ord ar 0) 0 = 2)
    | .invokestatic ix => if ord ar 0 = 901 then lk.contains (8, ix, 0, 0) && decide (1 ≤ t.2.2.2.2.2.1) && decide (60 ≤ t.2.2.2.2.2.2.1) else if ord ar 0 = 904 then lk.contains (12, ix, 0, 0) && decide (1 ≤ t.2.2.2.2.2.1) && decide (25 ≤ t.2.2.2.2.2.2.1) else if ord ar 0 = 905 then lk.contains (13, ix, 0, 0) && decide (1 ≤ t.2.2.2.2.2.1) && decide (25 ≤ t.2.2.2.2.2.2.1) else if ord ar 0 = 906 then lk.contains (14, ix, 0, 0) && decide (1 ≤ t.2.2.2.2.2.1) && decide (25 ≤ t.2.2.2.2.2.2.1) else lk.contains (1, ix, ord ar 0, 0) && calC t (ord ar 0) (ord ar 1) && decide (mKd.getD (ord ar 0) 0 = 0)
    | _ => true)
def chkS (t : MT) (lk : List (Nat × Nat × Nat × Nat)) (cdl : List PEn) : Nat → List PEn → Bool
  | _, [] => true
  | i, e :: r => decide (decode t.2.1 e.1 = .ok (e.2.1, e.2.2.1)) && chkI t lk cdl i e && chkS t lk cdl (i + 1) r
/-- what the checks say of one method -/
def okM (t : MT) (lk : List (Nat × Nat × Nat × Nat)) (cdl : List PEn) : Prop := ∀ (i : Nat) (e : PEn), cdl[i]? = some e → decode t.2.1 e.1 = .ok (e.2.1, e.2.2.1) ∧ chkI t lk cdl i e = true
theorem chkS_spec {t : MT} {lk : List (Nat × Nat × Nat × Nat)} {cdl : List PEn} : ∀ (l : List PEn) (b : Nat), chkS t lk cdl b l = true → ∀ (i : Nat) (e : PEn), l[i]? = some e → decode t.2.1 e.1 = .ok (e.2.1, e.2.2.1) ∧ chkI t lk cdl (b + i) e = true
  | [], _, _, i, e, h => by simp at h
  | x :: r, b, hc, i, e, h => by
    simp only [chkS, Bool.and_eq_true, decide_eq_true_eq] at hc
    cases i with
    | zero =>
      simp only [List.getElem?_cons_zero, Option.some.injEq] at h
      subst h
      exact ⟨hc.1.1, hc.1.2⟩
    | succ i =>
      rw [List.getElem?_cons_succ] at h
      have := chkS_spec r (b + 1) hc.2 i e h
      rw [Nat.add_right_comm] at this
      exact this
theorem okM_of {t : MT} {lk : List (Nat × Nat × Nat × Nat)} {cdl : List PEn} (h : chkS t lk cdl 0 cdl = true) : okM t lk cdl := fun i e he => by
  have := chkS_spec cdl 0 h i e he
  rwa [Nat.zero_add] at this
theorem chkS_app {t : MT} {lk : List (Nat × Nat × Nat × Nat)} {cdl : List PEn} : ∀ (a b : List PEn) (n : Nat), chkS t lk cdl n a = true → chkS t lk cdl (n + a.length) b = true → chkS t lk cdl n (a ++ b) = true
  | [], b, n, _, h => h
  | x :: a, b, n, h1, h2 => by
    simp only [chkS, Bool.and_eq_true] at h1
    rw [List.cons_append]
    simp only [chkS, Bool.and_eq_true]
    refine ⟨h1.1, chkS_app a b (n + 1) h1.2 ?_⟩
    rw [List.length_cons] at h2
    rw [show n + 1 + a.length = n + (a.length + 1) by omega]
    exact h2
theorem lk_of {o : Nat} {ps : List Nat} {ts : List (Nat × Nat × Nat × Nat)} (h : ps.map (fun i => lw_tbl[i]?) = ts.map (fun t => some (lkW o t))) (g : ts.all (fun t => t.1 == 2 || (t.1 == 6 || gdW (lkW o t))) = true) {t : Nat × Nat × Nat × Nat} (ht : t ∈ ts) (h2 : t.1 ≠ 2) (h6 : t.1 ≠ 6) : lkW o t ∈ TB := by
  have h1 : some (lkW o t) ∈ ts.map (fun t => some (lkW o t)) := List.mem_map.mpr ⟨t, ht, rfl⟩
  rw [← h] at h1
  obtain ⟨i, -, hi⟩ := List.mem_map.mp h1
  have := List.all_eq_true.mp g t ht
  simp only [Bool.or_eq_true, beq_iff_eq, h2, h6, false_or] at this
  exact TB_at i hi this
theorem lk_tb {o : Nat} {ps : List Nat} {ts : List (Nat × Nat × Nat × Nat)} (h : ps.map (fun i => lw_tbl[i]?) = ts.map (fun t => some (lkW o t))) {t : Nat × Nat × Nat × Nat} (ht : t ∈ ts) : lkW o t ∈ lw_tbl := by
  have h1 : some (lkW o t) ∈ ts.map (fun t => some (lkW o t)) := List.mem_map.mpr ⟨t, ht, rfl⟩
  rw [← h] at h1
  obtain ⟨i, -, hi⟩ := List.mem_map.mp h1
  exact List.mem_of_getElem? hi

theorem lk_0 : lkp_0.map (fun i => lw_tbl[i]?) = lks_0.map (fun t => some (lkW 0 t)) := by decide +kernel
theorem lkg_0 : lks_0.all (fun t => t.1 == 2 || (t.1 == 6 || gdW (lkW 0 t))) = true := by decide +kernel
theorem lk_1 : lkp_1.map (fun i => lw_tbl[i]?) = lks_1.map (fun t => some (lkW 1 t)) := by decide +kernel
theorem lkg_1 : lks_1.all (fun t => t.1 == 2 || (t.1 == 6 || gdW (lkW 1 t))) = true := by decide +kernel
theorem lk_2 : lkp_2.map (fun i => lw_tbl[i]?) = lks_2.map (fun t => some (lkW 2 t)) := by decide +kernel
theorem lkg_2 : lks_2.all (fun t => t.1 == 2 || (t.1 == 6 || gdW (lkW 2 t))) = true := by decide +kernel
theorem lk_3 : lkp_3.map (fun i => lw_tbl[i]?) = lks_3.map (fun t => some (lkW 3 t)) := by decide +kernel
theorem lkg_3 : lks_3.all (fun t => t.1 == 2 || (t.1 == 6 || gdW (lkW 3 t))) = true := by decide +kernel
theorem lk_4 : lkp_4.map (fun i => lw_tbl[i]?) = lks_4.map (fun t => some (lkW 4 t)) := by decide +kernel
theorem lkg_4 : lks_4.all (fun t => t.1 == 2 || (t.1 == 6 || gdW (lkW 4 t))) = true := by decide +kernel
theorem lk_5 : lkp_5.map (fun i => lw_tbl[i]?) = lks_5.map (fun t => some (lkW 5 t)) := by decide +kernel
theorem lkg_5 : lks_5.all (fun t => t.1 == 2 || (t.1 == 6 || gdW (lkW 5 t))) = true := by decide +kernel
theorem lk_6 : lkp_6.map (fun i => lw_tbl[i]?) = lks_6.map (fun t => some (lkW 6 t)) := by decide +kernel
theorem lkg_6 : lks_6.all (fun t => t.1 == 2 || (t.1 == 6 || gdW (lkW 6 t))) = true := by decide +kernel
theorem lk_7 : lkp_7.map (fun i => lw_tbl[i]?) = lks_7.map (fun t => some (lkW 7 t)) := by decide +kernel
theorem lkg_7 : lks_7.all (fun t => t.1 == 2 || (t.1 == 6 || gdW (lkW 7 t))) = true := by decide +kernel
theorem lk_8 : lkp_8.map (fun i => lw_tbl[i]?) = lks_8.map (fun t => some (lkW 8 t)) := by decide +kernel
theorem lkg_8 : lks_8.all (fun t => t.1 == 2 || (t.1 == 6 || gdW (lkW 8 t))) = true := by decide +kernel
theorem lk_9 : lkp_9.map (fun i => lw_tbl[i]?) = lks_9.map (fun t => some (lkW 9 t)) := by decide +kernel
theorem lkg_9 : lks_9.all (fun t => t.1 == 2 || (t.1 == 6 || gdW (lkW 9 t))) = true := by decide +kernel
theorem lk_10 : lkp_10.map (fun i => lw_tbl[i]?) = lks_10.map (fun t => some (lkW 10 t)) := by decide +kernel
theorem lkg_10 : lks_10.all (fun t => t.1 == 2 || (t.1 == 6 || gdW (lkW 10 t))) = true := by decide +kernel
theorem lk_11 : lkp_11.map (fun i => lw_tbl[i]?) = lks_11.map (fun t => some (lkW 11 t)) := by decide +kernel
theorem lkg_11 : lks_11.all (fun t => t.1 == 2 || (t.1 == 6 || gdW (lkW 11 t))) = true := by decide +kernel
theorem lk_12 : lkp_12.map (fun i => lw_tbl[i]?) = lks_12.map (fun t => some (lkW 12 t)) := by decide +kernel
theorem lkg_12 : lks_12.all (fun t => t.1 == 2 || (t.1 == 6 || gdW (lkW 12 t))) = true := by decide +kernel
theorem lk_13 : lkp_13.map (fun i => lw_tbl[i]?) = lks_13.map (fun t => some (lkW 13 t)) := by decide +kernel
theorem lkg_13 : lks_13.all (fun t => t.1 == 2 || (t.1 == 6 || gdW (lkW 13 t))) = true := by decide +kernel
theorem lk_14 : lkp_14.map (fun i => lw_tbl[i]?) = lks_14.map (fun t => some (lkW 14 t)) := by decide +kernel
theorem lkg_14 : lks_14.all (fun t => t.1 == 2 || (t.1 == 6 || gdW (lkW 14 t))) = true := by decide +kernel
theorem lk_ok : ∀ (o : Nat) (t : Nat × Nat × Nat × Nat), t ∈ lks o → t.1 ≠ 2 → t.1 ≠ 6 → lkW o t ∈ TB := by
  intro o t h h2 h6
  match o, h with
  | 0, h => exact lk_of lk_0 lkg_0 h h2 h6
  | 1, h => exact lk_of lk_1 lkg_1 h h2 h6
  | 2, h => exact lk_of lk_2 lkg_2 h h2 h6
  | 3, h => exact lk_of lk_3 lkg_3 h h2 h6
  | 4, h => exact lk_of lk_4 lkg_4 h h2 h6
  | 5, h => exact lk_of lk_5 lkg_5 h h2 h6
  | 6, h => exact lk_of lk_6 lkg_6 h h2 h6
  | 7, h => exact lk_of lk_7 lkg_7 h h2 h6
  | 8, h => exact lk_of lk_8 lkg_8 h h2 h6
  | 9, h => exact lk_of lk_9 lkg_9 h h2 h6
  | 10, h => exact lk_of lk_10 lkg_10 h h2 h6
  | 11, h => exact lk_of lk_11 lkg_11 h h2 h6
  | 12, h => exact lk_of lk_12 lkg_12 h h2 h6
  | 13, h => exact lk_of lk_13 lkg_13 h h2 h6
  | 14, h => exact lk_of lk_14 lkg_14 h h2 h6
  | n + 15, h => exact absurd h (by simp [lks])
theorem lk_in : ∀ (o : Nat) (t : Nat × Nat × Nat × Nat), t ∈ lks o → lkW o t ∈ lw_tbl := by
  intro o t h
  match o, h with
  | 0, h => exact lk_tb lk_0 h
  | 1, h => exact lk_tb lk_1 h
  | 2, h => exact lk_tb lk_2 h
  | 3, h => exact lk_tb lk_3 h
  | 4, h => exact lk_tb lk_4 h
  | 5, h => exact lk_tb lk_5 h
  | 6, h => exact lk_tb lk_6 h
  | 7, h => exact lk_tb lk_7 h
  | 8, h => exact lk_tb lk_8 h
  | 9, h => exact lk_tb lk_9 h
  | 10, h => exact lk_tb lk_10 h
  | 11, h => exact lk_tb lk_11 h
  | 12, h => exact lk_tb lk_12 h
  | 13, h => exact lk_tb lk_13 h
  | 14, h => exact lk_tb lk_14 h
  | n + 15, h => exact absurd h (by simp [lks])
def pCo : List Nat := [458, 838, 888, 907, 998, 1018, 1025, 1028, 1053, 1050, 1058, 1061, 1064, 1067, 1070, 1076, 1073, 409, 934, 939, 949, 953, 961, 970, 991, 974, 979, 984, 335, 785, 790, 943, 852, 856, 866, 862, 871, 875, 879, 883, 899, 490, 1200, 1207, 1213, 1226, 1234, 1230, 1217, 1221, 1247, 1253, 1257, 343, 814, 798, 802, 445, 1143, 1134, 1151, 1176, 1181, 1185, 1192, 1094, 1103, 1113, 1122, 915, 920, 924, 224, 826, 712, 822, 739, 148, 574, 732, 720, 724, 810, 781, 1002, 777, 794, 1080, 1160, 1164, 1168, 282, 570, 599, 708, 716, 682, 686, 704, 694, 603, 607, 669, 612, 678, 690, 578, 595, 585, 588, 591, 139, 550, 582, 566, 1013, 562, 744, 761, 131, 546, 554, 558, 728, 749, 753, 757, 768, 772, 806, 818, 830, 834, 895, 903, 911, 930, 957, 966, 995, 1009, 1022, 1038, 1043, 1047, 1085, 1090, 1099, 1109, 1118, 1130, 1139, 1147, 1156, 1172, 1196, 1238, 1243, 1031, 1034, 1262, 1420, 1409, 1413, 1432, 1435, 1450, 1446, 1443, 1440, 1428, 1462, 1474, 1470, 1458, 1490, 1466, 1486, 1478, 1482, 1454, 1497, 1494, 1501, 1507, 1504, 1424, 1417, 1511, 1519, 1555, 1583, 1527, 1559, 1543, 1586, 1539, 1535, 1547, 1531, 1551, 1523, 1602, 1571, 1575, 1515, 1567, 1563, 1579, 1594, 1590, 1598, 1606, 1616, 1613, 1610, 1624, 1620, 1632, 1628, 1637, 1641, 1645, 1653, 1657, 1665, 1661, 1673, 1669, 1681, 1677, 1649, 1685, 1693, 1689, 1697, 1705, 1701, 1713, 1709, 1725, 1729, 1721, 1717, 1737, 1741, 1745, 1749, 1733, 1757, 1753, 1769, 1781, 1785, 1789, 1793, 1797, 1777, 1773, 1765, 1761, 1805, 1801, 1813, 1809, 1821, 1817, 1833, 1829, 1841, 1837, 1845, 1825, 1849, 1861, 1857, 1853, 1873, 1869, 1865, 1878, 1882, 1886, 842]
def pIn : List Nat := [116, 116, 116, 116, 126, 126, 126, 126, 126, 126, 126, 126, 126, 126, 126, 126, 126, 114, 114, 114, 114, 114, 114, 114, 114, 114, 114, 114, 112, 112, 112, 112, 112, 112, 112, 112, 112, 112, 112, 112, 112, 117, 117, 117, 117, 117, 117, 117, 117, 117, 117, 117, 117, 113, 113, 113, 113, 115, 115, 115, 115, 115, 115, 115, 115, 115, 115, 115, 115, 115, 115, 115, 110, 110, 110, 110, 110, 109, 109, 109, 109, 109, 109, 109, 109, 109, 109, 109, 109, 109, 109, 111, 111, 111, 111, 111, 111, 111, 111, 111, 111, 111, 111, 111, 111, 111, 111, 111, 111, 111, 111, 108, 108, 108, 108, 108, 108, 108, 108, 107, 107, 107, 107, 107, 107, 107, 107, 107, 107, 107, 107, 107, 107, 107, 107, 107, 107, 107, 107, 107, 107, 107, 107, 107, 107, 107, 107, 107, 107, 107, 107, 107, 107, 107, 107, 107, 107, 107, 107, 107, 118, 118, 118, 118, 118, 118, 118, 118, 118, 118, 118, 118, 118, 118, 118, 118, 118, 118, 118, 118, 118, 118, 118, 118, 118, 118, 118, 118, 118, 118, 118, 118, 118, 118, 118, 118, 118, 118, 118, 118, 118, 118, 118, 118, 118, 118, 118, 118, 118, 118, 118, 118, 118, 118, 118, 118, 118, 118, 118, 118, 118, 118, 118, 118, 118, 118, 118, 118, 118, 118, 118, 118, 118, 118, 118, 118, 118, 118, 118, 118, 118, 118, 118, 118, 118, 118, 118, 118, 118, 118, 118, 118, 118, 118, 118, 118, 118, 118, 118, 118, 118, 118, 118, 118, 118, 118, 118, 118, 118, 118, 118, 118, 118, 118, 118, 118, 118, 118, 118, 118, 118, 118, 118, 124]
def pMe : List Nat := [457, 836, 887, 905, 997, 1017, 1024, 1027, 1052, 1049, 1057, 1060, 1063, 1066, 1069, 1075, 1072, 408, 932, 938, 948, 951, 959, 968, 989, 973, 978, 983, 334, 783, 788, 941, 850, 854, 864, 860, 870, 874, 878, 882, 897, 489, 1198, 1206, 1212, 1224, 1232, 1228, 1215, 1220, 1245, 1251, 1255, 342, 812, 796, 801, 444, 1141, 1132, 1149, 1174, 1179, 1183, 1190, 1092, 1101, 1111, 1120, 913, 918, 923, 223, 824, 710, 820, 737, 147, 572, 730, 718, 722, 808, 779, 1000, 775, 792, 1078, 1158, 1162, 1166, 281, 568, 598, 707, 715, 681, 685, 703, 693, 602, 606, 668, 611, 677, 689, 577, 594, 584, 587, 590, 138, 548, 580, 564, 1011, 560, 742, 759, 130, 544, 552, 556, 727, 747, 751, 755, 766, 770, 805, 816, 828, 832, 893, 901, 909, 928, 955, 964, 993, 1007, 1020, 1036, 1041, 1045, 1083, 1088, 1097, 1107, 1116, 1128, 1137, 1145, 1154, 1170, 1194, 1236, 1241, 1030, 1033, 1261, 1419, 1407, 1411, 1431, 1434, 1449, 1445, 1442, 1439, 1427, 1461, 1473, 1469, 1457, 1489, 1465, 1485, 1477, 1481, 1453, 1496, 1493, 1500, 1506, 1503, 1423, 1415, 1509, 1518, 1554, 1582, 1526, 1558, 1542, 1585, 1538, 1534, 1546, 1530, 1550, 1522, 1601, 1570, 1574, 1513, 1566, 1561, 1577, 1593, 1588, 1596, 1604, 1615, 1612, 1608, 1623, 1618, 1631, 1626, 1635, 1639, 1643, 1652, 1656, 1664, 1660, 1672, 1668, 1680, 1676, 1647, 1683, 1692, 1687, 1695, 1704, 1699, 1712, 1707, 1724, 1728, 1720, 1715, 1736, 1740, 1744, 1748, 1731, 1756, 1751, 1768, 1780, 1784, 1788, 1792, 1796, 1776, 1772, 1764, 1759, 1804, 1799, 1812, 1807, 1820, 1815, 1832, 1828, 1840, 1836, 1844, 1823, 1847, 1860, 1856, 1851, 1872, 1868, 1863, 1876, 1880, 1884, 841]
def pSe : List Nat := [0, 837, 22, 906, 0, 0, 0, 0, 0, 0, 0, 0, 0, 0, 0, 0, 0, 0, 933, 24, 25, 952, 960, 969, 990, 26, 27, 28, 0, 784, 789, 942, 851, 855, 865, 861, 18, 19, 20, 21, 898, 0, 1199, 29, 30, 1225, 1233, 1229, 1216, 31, 1246, 1252, 1256, 0, 813, 797, 16, 0, 1142, 1133, 1150, 1175, 1180, 1184, 1191, 1093, 1102, 1112, 1121, 914, 919, 23, 0, 825, 711, 821, 738, 0, 573, 731, 719, 723, 809, 780, 1001, 776, 793, 1079, 1159, 1163, 1167, 0, 569, 2, 13, 14, 8, 9, 12, 11, 3, 4, 6, 5, 7, 10, 0, 1, 0, 0, 0, 0, 549, 581, 565, 1012, 561, 743, 760, 0, 545, 553, 557, 15, 748, 752, 756, 767, 771, 17, 817, 829, 833, 894, 902, 910, 929, 956, 965, 994, 1008, 1021, 1037, 1042, 1046, 1084, 1089, 1098, 1108, 1117, 1129, 1138, 1146, 1155, 1171, 1195, 1237, 1242, 0, 0, 0, 0, 1408, 1412, 34, 0, 0, 0, 0, 0, 33, 37, 40, 39, 36, 44, 38, 43, 41, 42, 35, 0, 45, 46, 0, 0, 32, 1416, 1510, 47, 56, 61, 49, 57, 53, 0, 52, 51, 54, 50, 55, 48, 63, 59, 60, 1514, 58, 1562, 1578, 62, 1589, 1597, 1605, 0, 0, 1609, 64, 1619, 65, 1627, 1636, 1640, 1644, 66, 67, 69, 68, 71, 70, 73, 72, 1648, 1684, 74, 1688, 1696, 75, 1700, 76, 1708, 78, 79, 77, 1716, 80, 81, 82, 83, 1732, 84, 1752, 86, 89, 90, 91, 92, 93, 88, 87, 85, 1760, 94, 1800, 95, 1808, 96, 1816, 98, 97, 100, 99, 101, 1824, 1848, 103, 102, 1852, 105, 104, 1864, 1877, 1881, 1885, 0]
def mK (k : Nat) : Nat := mKd.getD k 0
set_option maxRecDepth 20000 in
theorem mco_0 : Cond.code (mY 0) (mC 0) (mL 0) (mR 0) ∈ lw_tbl := List.mem_append_right _ (List.mem_append_right _ (List.mem_append_left _ (List.mem_of_getElem? (i := 112) rfl)))
set_option maxRecDepth 20000 in
theorem mco_1 : Cond.code (mY 1) (mC 1) (mL 1) (mR 1) ∈ lw_tbl := List.mem_append_right _ (List.mem_append_right _ (List.mem_append_right _ (List.mem_append_right _ (List.mem_append_left _ (List.mem_of_getElem? (i := 12) rfl)))))
set_option maxRecDepth 20000 in
theorem mco_2 : Cond.code (mY 2) (mC 2) (mL 2) (mR 2) ∈ lw_tbl := List.mem_append_right _ (List.mem_append_right _ (List.mem_append_right _ (List.mem_append_right _ (List.mem_append_left _ (List.mem_of_getElem? (i := 62) rfl)))))
set_option maxRecDepth 20000 in
theorem mco_3 : Cond.code (mY 3) (mC 3) (mL 3) (mR 3) ∈ lw_tbl := List.mem_append_right _ (List.mem_append_right _ (List.mem_append_right _ (List.mem_append_right _ (List.mem_append_left _ (List.mem_of_getElem? (i := 81) rfl)))))
set_option maxRecDepth 20000 in
theorem mco_4 : Cond.code (mY 4) (mC 4) (mL 4) (mR 4) ∈ lw_tbl := List.mem_append_right _ (List.mem_append_right _ (List.mem_append_right _ (List.mem_append_right _ (List.mem_append_left _ (List.mem_of_getElem? (i := 172) rfl)))))
set_option maxRecDepth 20000 in
theorem mco_5 : Cond.code (mY 5) (mC 5) (mL 5) (mR 5) ∈ lw_tbl := List.mem_append_right _ (List.mem_append_right _ (List.mem_append_right _ (List.mem_append_right _ (List.mem_append_left _ (List.mem_of_getElem? (i := 192) rfl)))))
set_option maxRecDepth 20000 in
theorem mco_6 : Cond.code (mY 6) (mC 6) (mL 6) (mR 6) ∈ lw_tbl := List.mem_append_right _ (List.mem_append_right _ (List.mem_append_right _ (List.mem_append_right _ (List.mem_append_left _ (List.mem_of_getElem? (i := 199) rfl)))))
set_option maxRecDepth 20000 in
theorem mco_7 : Cond.code (mY 7) (mC 7) (mL 7) (mR 7) ∈ lw_tbl := List.mem_append_right _ (List.mem_append_right _ (List.mem_append_right _ (List.mem_append_right _ (List.mem_append_left _ (List.mem_of_getElem? (i := 202) rfl)))))
set_option maxRecDepth 20000 in
theorem mco_8 : Cond.code (mY 8) (mC 8) (mL 8) (mR 8) ∈ lw_tbl := List.mem_append_right _ (List.mem_append_right _ (List.mem_append_right _ (List.mem_append_right _ (List.mem_append_left _ (List.mem_of_getElem? (i := 227) rfl)))))
set_option maxRecDepth 20000 in
theorem mco_9 : Cond.code (mY 9) (mC 9) (mL 9) (mR 9) ∈ lw_tbl := List.mem_append_right _ (List.mem_append_right _ (List.mem_append_right _ (List.mem_append_right _ (List.mem_append_left _ (List.mem_of_getElem? (i := 224) rfl)))))
set_option maxRecDepth 20000 in
theorem mco_10 : Cond.code (mY 10) (mC 10) (mL 10) (mR 10) ∈ lw_tbl := List.mem_append_right _ (List.mem_append_right _ (List.mem_append_right _ (List.mem_append_right _ (List.mem_append_left _ (List.mem_of_getElem? (i := 232) rfl)))))
set_option maxRecDepth 20000 in
theorem mco_11 : Cond.code (mY 11) (mC 11) (mL 11) (mR 11) ∈ lw_tbl := List.mem_append_right _ (List.mem_append_right _ (List.mem_append_right _ (List.mem_append_right _ (List.mem_append_left _ (List.mem_of_getElem? (i := 235) rfl)))))
set_option maxRecDepth 20000 in
theorem mco_12 : Cond.code (mY 12) (mC 12) (mL 12) (mR 12) ∈ lw_tbl := List.mem_append_right _ (List.mem_append_right _ (List.mem_append_right _ (List.mem_append_right _ (List.mem_append_left _ (List.mem_of_getElem? (i := 238) rfl)))))
set_option maxRecDepth 20000 in
theorem mco_13 : Cond.code (mY 13) (mC 13) (mL 13) (mR 13) ∈ lw_tbl := List.mem_append_right _ (List.mem_append_right _ (List.mem_append_right _ (List.mem_append_right _ (List.mem_append_right _ (List.mem_append_left _ (List.mem_of_getElem? (i := 1) rfl))))))
set_option maxRecDepth 20000 in
theorem mco_14 : Cond.code (mY 14) (mC 14) (mL 14) (mR 14) ∈ lw_tbl := List.mem_append_right _ (List.mem_append_right _ (List.mem_append_right _ (List.mem_append_right _ (List.mem_append_right _ (List.mem_append_left _ (List.mem_of_getElem? (i := 4) rfl))))))
set_option maxRecDepth 20000 in
theorem mco_15 : Cond.code (mY 15) (mC 15) (mL 15) (mR 15) ∈ lw_tbl := List.mem_append_right _ (List.mem_append_right _ (List.mem_append_right _ (List.mem_append_right _ (List.mem_append_right _ (List.mem_append_left _ (List.mem_of_getElem? (i := 10) rfl))))))
set_option maxRecDepth 20000 in
theorem mco_16 : Cond.code (mY 16) (mC 16) (mL 16) (mR 16) ∈ lw_tbl := List.mem_append_right _ (List.mem_append_right _ (List.mem_append_right _ (List.mem_append_right _ (List.mem_append_right _ (List.mem_append_left _ (List.mem_of_getElem? (i := 7) rfl))))))
set_option maxRecDepth 20000 in
theorem mco_17 : Cond.code (mY 17) (mC 17) (mL 17) (mR 17) ∈ lw_tbl := List.mem_append_right _ (List.mem_append_right _ (List.mem_append_left _ (List.mem_of_getElem? (i := 63) rfl)))
set_option maxRecDepth 20000 in
theorem mco_18 : Cond.code (mY 18) (mC 18) (mL 18) (mR 18) ∈ lw_tbl := List.mem_append_right _ (List.mem_append_right _ (List.mem_append_right _ (List.mem_append_right _ (List.mem_append_left _ (List.mem_of_getElem? (i := 108) rfl)))))
set_option maxRecDepth 20000 in
theorem mco_19 : Cond.code (mY 19) (mC 19) (mL 19) (mR 19) ∈ lw_tbl := List.mem_append_right _ (List.mem_append_right _ (List.mem_append_right _ (List.mem_append_right _ (List.mem_append_left _ (List.mem_of_getElem? (i := 113) rfl)))))
set_option maxRecDepth 20000 in
theorem mco_20 : Cond.code (mY 20) (mC 20) (mL 20) (mR 20) ∈ lw_tbl := List.mem_append_right _ (List.mem_append_right _ (List.mem_append_right _ (List.mem_append_right _ (List.mem_append_left _ (List.mem_of_getElem? (i := 123) rfl)))))
set_option maxRecDepth 20000 in
theorem mco_21 : Cond.code (mY 21) (mC 21) (mL 21) (mR 21) ∈ lw_tbl := List.mem_append_right _ (List.mem_append_right _ (List.mem_append_right _ (List.mem_append_right _ (List.mem_append_left _ (List.mem_of_getElem? (i := 127) rfl)))))
set_option maxRecDepth 20000 in
theorem mco_22 : Cond.code (mY 22) (mC 22) (mL 22) (mR 22) ∈ lw_tbl := List.mem_append_right _ (List.mem_append_right _ (List.mem_append_right _ (List.mem_append_right _ (List.mem_append_left _ (List.mem_of_getElem? (i := 135) rfl)))))
set_option maxRecDepth 20000 in
theorem mco_23 : Cond.code (mY 23) (mC 23) (mL 23) (mR 23) ∈ lw_tbl := List.mem_append_right _ (List.mem_append_right _ (List.mem_append_right _ (List.mem_append_right _ (List.mem_append_left _ (List.mem_of_getElem? (i := 144) rfl)))))
set_option maxRecDepth 20000 in
theorem mco_24 : Cond.code (mY 24) (mC 24) (mL 24) (mR 24) ∈ lw_tbl := List.mem_append_right _ (List.mem_append_right _ (List.mem_append_right _ (List.mem_append_right _ (List.mem_append_left _ (List.mem_of_getElem? (i := 165) rfl)))))
set_option maxRecDepth 20000 in
theorem mco_25 : Cond.code (mY 25) (mC 25) (mL 25) (mR 25) ∈ lw_tbl := List.mem_append_right _ (List.mem_append_right _ (List.mem_append_right _ (List.mem_append_right _ (List.mem_append_left _ (List.mem_of_getElem? (i := 148) rfl)))))
set_option maxRecDepth 20000 in
theorem mco_26 : Cond.code (mY 26) (mC 26) (mL 26) (mR 26) ∈ lw_tbl := List.mem_append_right _ (List.mem_append_right _ (List.mem_append_right _ (List.mem_append_right _ (List.mem_append_left _ (List.mem_of_getElem? (i := 153) rfl)))))
set_option maxRecDepth 20000 in
theorem mco_27 : Cond.code (mY 27) (mC 27) (mL 27) (mR 27) ∈ lw_tbl := List.mem_append_right _ (List.mem_append_right _ (List.mem_append_right _ (List.mem_append_right _ (List.mem_append_left _ (List.mem_of_getElem? (i := 158) rfl)))))
set_option maxRecDepth 20000 in
theorem mco_28 : Cond.code (mY 28) (mC 28) (mL 28) (mR 28) ∈ lw_tbl := List.mem_append_right _ (List.mem_append_left _ (List.mem_of_getElem? (i := 229) rfl))
set_option maxRecDepth 20000 in
theorem mco_29 : Cond.code (mY 29) (mC 29) (mL 29) (mR 29) ∈ lw_tbl := List.mem_append_right _ (List.mem_append_right _ (List.mem_append_right _ (List.mem_append_left _ (List.mem_of_getElem? (i := 199) rfl))))
set_option maxRecDepth 20000 in
theorem mco_30 : Cond.code (mY 30) (mC 30) (mL 30) (mR 30) ∈ lw_tbl := List.mem_append_right _ (List.mem_append_right _ (List.mem_append_right _ (List.mem_append_left _ (List.mem_of_getElem? (i := 204) rfl))))
set_option maxRecDepth 20000 in
theorem mco_31 : Cond.code (mY 31) (mC 31) (mL 31) (mR 31) ∈ lw_tbl := List.mem_append_right _ (List.mem_append_right _ (List.mem_append_right _ (List.mem_append_right _ (List.mem_append_left _ (List.mem_of_getElem? (i := 117) rfl)))))
set_option maxRecDepth 20000 in
theorem mco_32 : Cond.code (mY 32) (mC 32) (mL 32) (mR 32) ∈ lw_tbl := List.mem_append_right _ (List.mem_append_right _ (List.mem_append_right _ (List.mem_append_right _ (List.mem_append_left _ (List.mem_of_getElem? (i := 26) rfl)))))
set_option maxRecDepth 20000 in
theorem mco_33 : Cond.code (mY 33) (mC 33) (mL 33) (mR 33) ∈ lw_tbl := List.mem_append_right _ (List.mem_append_right _ (List.mem_append_right _ (List.mem_append_right _ (List.mem_append_left _ (List.mem_of_getElem? (i := 30) rfl)))))
set_option maxRecDepth 20000 in
theorem mco_34 : Cond.code (mY 34) (mC 34) (mL 34) (mR 34) ∈ lw_tbl := List.mem_append_right _ (List.mem_append_right _ (List.mem_append_right _ (List.mem_append_right _ (List.mem_append_left _ (List.mem_of_getElem? (i := 40) rfl)))))
set_option maxRecDepth 20000 in
theorem mco_35 : Cond.code (mY 35) (mC 35) (mL 35) (mR 35) ∈ lw_tbl := List.mem_append_right _ (List.mem_append_right _ (List.mem_append_right _ (List.mem_append_right _ (List.mem_append_left _ (List.mem_of_getElem? (i := 36) rfl)))))
set_option maxRecDepth 20000 in
theorem mco_36 : Cond.code (mY 36) (mC 36) (mL 36) (mR 36) ∈ lw_tbl := List.mem_append_right _ (List.mem_append_right _ (List.mem_append_right _ (List.mem_append_right _ (List.mem_append_left _ (List.mem_of_getElem? (i := 45) rfl)))))
set_option maxRecDepth 20000 in
theorem mco_37 : Cond.code (mY 37) (mC 37) (mL 37) (mR 37) ∈ lw_tbl := List.mem_append_right _ (List.mem_append_right _ (List.mem_append_right _ (List.mem_append_right _ (List.mem_append_left _ (List.mem_of_getElem? (i := 49) rfl)))))
set_option maxRecDepth 20000 in
theorem mco_38 : Cond.code (mY 38) (mC 38) (mL 38) (mR 38) ∈ lw_tbl := List.mem_append_right _ (List.mem_append_right _ (List.mem_append_right _ (List.mem_append_right _ (List.mem_append_left _ (List.mem_of_getElem? (i := 53) rfl)))))
set_option maxRecDepth 20000 in
theorem mco_39 : Cond.code (mY 39) (mC 39) (mL 39) (mR 39) ∈ lw_tbl := List.mem_append_right _ (List.mem_append_right _ (List.mem_append_right _ (List.mem_append_right _ (List.mem_append_left _ (List.mem_of_getElem? (i := 57) rfl)))))
set_option maxRecDepth 20000 in
theorem mco_40 : Cond.code (mY 40) (mC 40) (mL 40) (mR 40) ∈ lw_tbl := List.mem_append_right _ (List.mem_append_right _ (List.mem_append_right _ (List.mem_append_right _ (List.mem_append_left _ (List.mem_of_getElem? (i := 73) rfl)))))
set_option maxRecDepth 20000 in
theorem mco_41 : Cond.code (mY 41) (mC 41) (mL 41) (mR 41) ∈ lw_tbl := List.mem_append_right _ (List.mem_append_right _ (List.mem_append_left _ (List.mem_of_getElem? (i := 144) rfl)))
set_option maxRecDepth 20000 in
theorem mco_42 : Cond.code (mY 42) (mC 42) (mL 42) (mR 42) ∈ lw_tbl := List.mem_append_right _ (List.mem_append_right _ (List.mem_append_right _ (List.mem_append_right _ (List.mem_append_right _ (List.mem_append_left _ (List.mem_of_getElem? (i := 134) rfl))))))
set_option maxRecDepth 20000 in
theorem mco_43 : Cond.code (mY 43) (mC 43) (mL 43) (mR 43) ∈ lw_tbl := List.mem_append_right _ (List.mem_append_right _ (List.mem_append_right _ (List.mem_append_right _ (List.mem_append_right _ (List.mem_append_left _ (List.mem_of_getElem? (i := 141) rfl))))))
set_option maxRecDepth 20000 in
theorem mco_44 : Cond.code (mY 44) (mC 44) (mL 44) (mR 44) ∈ lw_tbl := List.mem_append_right _ (List.mem_append_right _ (List.mem_append_right _ (List.mem_append_right _ (List.mem_append_right _ (List.mem_append_left _ (List.mem_of_getElem? (i := 147) rfl))))))
set_option maxRecDepth 20000 in
theorem mco_45 : Cond.code (mY 45) (mC 45) (mL 45) (mR 45) ∈ lw_tbl := List.mem_append_right _ (List.mem_append_right _ (List.mem_append_right _ (List.mem_append_right _ (List.mem_append_right _ (List.mem_append_left _ (List.mem_of_getElem? (i := 160) rfl))))))
set_option maxRecDepth 20000 in
theorem mco_46 : Cond.code (mY 46) (mC 46) (mL 46) (mR 46) ∈ lw_tbl := List.mem_append_right _ (List.mem_append_right _ (List.mem_append_right _ (List.mem_append_right _ (List.mem_append_right _ (List.mem_append_left _ (List.mem_of_getElem? (i := 168) rfl))))))
set_option maxRecDepth 20000 in
theorem mco_47 : Cond.code (mY 47) (mC 47) (mL 47) (mR 47) ∈ lw_tbl := List.mem_append_right _ (List.mem_append_right _ (List.mem_append_right _ (List.mem_append_right _ (List.mem_append_right _ (List.mem_append_left _ (List.mem_of_getElem? (i := 164) rfl))))))
set_option maxRecDepth 20000 in
theorem mco_48 : Cond.code (mY 48) (mC 48) (mL 48) (mR 48) ∈ lw_tbl := List.mem_append_right _ (List.mem_append_right _ (List.mem_append_right _ (List.mem_append_right _ (List.mem_append_right _ (List.mem_append_left _ (List.mem_of_getElem? (i := 151) rfl))))))
set_option maxRecDepth 20000 in
theorem mco_49 : Cond.code (mY 49) (mC 49) (mL 49) (mR 49) ∈ lw_tbl := List.mem_append_right _ (List.mem_append_right _ (List.mem_append_right _ (List.mem_append_right _ (List.mem_append_right _ (List.mem_append_left _ (List.mem_of_getElem? (i := 155) rfl))))))
set_option maxRecDepth 20000 in
theorem mco_50 : Cond.code (mY 50) (mC 50) (mL 50) (mR 50) ∈ lw_tbl := List.mem_append_right _ (List.mem_append_right _ (List.mem_append_right _ (List.mem_append_right _ (List.mem_append_right _ (List.mem_append_left _ (List.mem_of_getElem? (i := 181) rfl))))))
set_option maxRecDepth 20000 in
theorem mco_51 : Cond.code (mY 51) (mC 51) (mL 51) (mR 51) ∈ lw_tbl := List.mem_append_right _ (List.mem_append_right _ (List.mem_append_right _ (List.mem_append_right _ (List.mem_append_right _ (List.mem_append_left _ (List.mem_of_getElem? (i := 187) rfl))))))
set_option maxRecDepth 20000 in
theorem mco_52 : Cond.code (mY 52) (mC 52) (mL 52) (mR 52) ∈ lw_tbl := List.mem_append_right _ (List.mem_append_right _ (List.mem_append_right _ (List.mem_append_right _ (List.mem_append_right _ (List.mem_append_left _ (List.mem_of_getElem? (i := 191) rfl))))))
set_option maxRecDepth 20000 in
theorem mco_53 : Cond.code (mY 53) (mC 53) (mL 53) (mR 53) ∈ lw_tbl := List.mem_append_right _ (List.mem_append_left _ (List.mem_of_getElem? (i := 237) rfl))
set_option maxRecDepth 20000 in
theorem mco_54 : Cond.code (mY 54) (mC 54) (mL 54) (mR 54) ∈ lw_tbl := List.mem_append_right _ (List.mem_append_right _ (List.mem_append_right _ (List.mem_append_left _ (List.mem_of_getElem? (i := 228) rfl))))
set_option maxRecDepth 20000 in
theorem mco_55 : Cond.code (mY 55) (mC 55) (mL 55) (mR 55) ∈ lw_tbl := List.mem_append_right _ (List.mem_append_right _ (List.mem_append_right _ (List.mem_append_left _ (List.mem_of_getElem? (i := 212) rfl))))
set_option maxRecDepth 20000 in
theorem mco_56 : Cond.code (mY 56) (mC 56) (mL 56) (mR 56) ∈ lw_tbl := List.mem_append_right _ (List.mem_append_right _ (List.mem_append_right _ (List.mem_append_left _ (List.mem_of_getElem? (i := 216) rfl))))
set_option maxRecDepth 20000 in
theorem mco_57 : Cond.code (mY 57) (mC 57) (mL 57) (mR 57) ∈ lw_tbl := List.mem_append_right _ (List.mem_append_right _ (List.mem_append_left _ (List.mem_of_getElem? (i := 99) rfl)))
set_option maxRecDepth 20000 in
theorem mco_58 : Cond.code (mY 58) (mC 58) (mL 58) (mR 58) ∈ lw_tbl := List.mem_append_right _ (List.mem_append_right _ (List.mem_append_right _ (List.mem_append_right _ (List.mem_append_right _ (List.mem_append_left _ (List.mem_of_getElem? (i := 77) rfl))))))
set_option maxRecDepth 20000 in
theorem mco_59 : Cond.code (mY 59) (mC 59) (mL 59) (mR 59) ∈ lw_tbl := List.mem_append_right _ (List.mem_append_right _ (List.mem_append_right _ (List.mem_append_right _ (List.mem_append_right _ (List.mem_append_left _ (List.mem_of_getElem? (i := 68) rfl))))))
set_option maxRecDepth 20000 in
theorem mco_60 : Cond.code (mY 60) (mC 60) (mL 60) (mR 60) ∈ lw_tbl := List.mem_append_right _ (List.mem_append_right _ (List.mem_append_right _ (List.mem_append_right _ (List.mem_append_right _ (List.mem_append_left _ (List.mem_of_getElem? (i := 85) rfl))))))
set_option maxRecDepth 20000 in
theorem mco_61 : Cond.code (mY 61) (mC 61) (mL 61) (mR 61) ∈ lw_tbl := List.mem_append_right _ (List.mem_append_right _ (List.mem_append_right _ (List.mem_append_right _ (List.mem_append_right _ (List.mem_append_left _ (List.mem_of_getElem? (i := 110) rfl))))))
set_option maxRecDepth 20000 in
theorem mco_62 : Cond.code (mY 62) (mC 62) (mL 62) (mR 62) ∈ lw_tbl := List.mem_append_right _ (List.mem_append_right _ (List.mem_append_right _ (List.mem_append_right _ (List.mem_append_right _ (List.mem_append_left _ (List.mem_of_getElem? (i := 115) rfl))))))
set_option maxRecDepth 20000 in
theorem mco_63 : Cond.code (mY 63) (mC 63) (mL 63) (mR 63) ∈ lw_tbl := List.mem_append_right _ (List.mem_append_right _ (List.mem_append_right _ (List.mem_append_right _ (List.mem_append_right _ (List.mem_append_left _ (List.mem_of_getElem? (i := 119) rfl))))))
set_option maxRecDepth 20000 in
theorem mco_64 : Cond.code (mY 64) (mC 64) (mL 64) (mR 64) ∈ lw_tbl := List.mem_append_right _ (List.mem_append_right _ (List.mem_append_right _ (List.mem_append_right _ (List.mem_append_right _ (List.mem_append_left _ (List.mem_of_getElem? (i := 126) rfl))))))
set_option maxRecDepth 20000 in
theorem mco_65 : Cond.code (mY 65) (mC 65) (mL 65) (mR 65) ∈ lw_tbl := List.mem_append_right _ (List.mem_append_right _ (List.mem_append_right _ (List.mem_append_right _ (List.mem_append_right _ (List.mem_append_left _ (List.mem_of_getElem? (i := 28) rfl))))))
set_option maxRecDepth 20000 in
theorem mco_66 : Cond.code (mY 66) (mC 66) (mL 66) (mR 66) ∈ lw_tbl := List.mem_append_right _ (List.mem_append_right _ (List.mem_append_right _ (List.mem_append_right _ (List.mem_append_right _ (List.mem_append_left _ (List.mem_of_getElem? (i := 37) rfl))))))
set_option maxRecDepth 20000 in
theorem mco_67 : Cond.code (mY 67) (mC 67) (mL 67) (mR 67) ∈ lw_tbl := List.mem_append_right _ (List.mem_append_right _ (List.mem_append_right _ (List.mem_append_right _ (List.mem_append_right _ (List.mem_append_left _ (List.mem_of_getElem? (i := 47) rfl))))))
set_option maxRecDepth 20000 in
theorem mco_68 : Cond.code (mY 68) (mC 68) (mL 68) (mR 68) ∈ lw_tbl := List.mem_append_right _ (List.mem_append_right _ (List.mem_append_right _ (List.mem_append_right _ (List.mem_append_right _ (List.mem_append_left _ (List.mem_of_getElem? (i := 56) rfl))))))
set_option maxRecDepth 20000 in
theorem mco_69 : Cond.code (mY 69) (mC 69) (mL 69) (mR 69) ∈ lw_tbl := List.mem_append_right _ (List.mem_append_right _ (List.mem_append_right _ (List.mem_append_right _ (List.mem_append_left _ (List.mem_of_getElem? (i := 89) rfl)))))
set_option maxRecDepth 20000 in
theorem mco_70 : Cond.code (mY 70) (mC 70) (mL 70) (mR 70) ∈ lw_tbl := List.mem_append_right _ (List.mem_append_right _ (List.mem_append_right _ (List.mem_append_right _ (List.mem_append_left _ (List.mem_of_getElem? (i := 94) rfl)))))
set_option maxRecDepth 20000 in
theorem mco_71 : Cond.code (mY 71) (mC 71) (mL 71) (mR 71) ∈ lw_tbl := List.mem_append_right _ (List.mem_append_right _ (List.mem_append_right _ (List.mem_append_right _ (List.mem_append_left _ (List.mem_of_getElem? (i := 98) rfl)))))
set_option maxRecDepth 20000 in
theorem mco_72 : Cond.code (mY 72) (mC 72) (mL 72) (mR 72) ∈ lw_tbl := List.mem_append_right _ (List.mem_append_left _ (List.mem_of_getElem? (i := 118) rfl))
set_option maxRecDepth 20000 in
theorem mco_73 : Cond.code (mY 73) (mC 73) (mL 73) (mR 73) ∈ lw_tbl := List.mem_append_right _ (List.mem_append_right _ (List.mem_append_right _ (List.mem_append_right _ (List.mem_append_left _ (List.mem_of_getElem? (i := 0) rfl)))))
set_option maxRecDepth 20000 in
theorem mco_74 : Cond.code (mY 74) (mC 74) (mL 74) (mR 74) ∈ lw_tbl := List.mem_append_right _ (List.mem_append_right _ (List.mem_append_right _ (List.mem_append_left _ (List.mem_of_getElem? (i := 126) rfl))))
set_option maxRecDepth 20000 in
theorem mco_75 : Cond.code (mY 75) (mC 75) (mL 75) (mR 75) ∈ lw_tbl := List.mem_append_right _ (List.mem_append_right _ (List.mem_append_right _ (List.mem_append_left _ (List.mem_of_getElem? (i := 236) rfl))))
set_option maxRecDepth 20000 in
theorem mco_76 : Cond.code (mY 76) (mC 76) (mL 76) (mR 76) ∈ lw_tbl := List.mem_append_right _ (List.mem_append_right _ (List.mem_append_right _ (List.mem_append_left _ (List.mem_of_getElem? (i := 153) rfl))))
set_option maxRecDepth 20000 in
theorem mco_77 : Cond.code (mY 77) (mC 77) (mL 77) (mR 77) ∈ lw_tbl := List.mem_append_right _ (List.mem_append_left _ (List.mem_of_getElem? (i := 42) rfl))
set_option maxRecDepth 20000 in
theorem mco_78 : Cond.code (mY 78) (mC 78) (mL 78) (mR 78) ∈ lw_tbl := List.mem_append_right _ (List.mem_append_right _ (List.mem_append_left _ (List.mem_of_getElem? (i := 228) rfl)))
set_option maxRecDepth 20000 in
theorem mco_79 : Cond.code (mY 79) (mC 79) (mL 79) (mR 79) ∈ lw_tbl := List.mem_append_right _ (List.mem_append_right _ (List.mem_append_right _ (List.mem_append_left _ (List.mem_of_getElem? (i := 146) rfl))))
set_option maxRecDepth 20000 in
theorem mco_80 : Cond.code (mY 80) (mC 80) (mL 80) (mR 80) ∈ lw_tbl := List.mem_append_right _ (List.mem_append_right _ (List.mem_append_right _ (List.mem_append_left _ (List.mem_of_getElem? (i := 134) rfl))))
set_option maxRecDepth 20000 in
theorem mco_81 : Cond.code (mY 81) (mC 81) (mL 81) (mR 81) ∈ lw_tbl := List.mem_append_right _ (List.mem_append_right _ (List.mem_append_right _ (List.mem_append_left _ (List.mem_of_getElem? (i := 138) rfl))))
set_option maxRecDepth 20000 in
theorem mco_82 : Cond.code (mY 82) (mC 82) (mL 82) (mR 82) ∈ lw_tbl := List.mem_append_right _ (List.mem_append_right _ (List.mem_append_right _ (List.mem_append_left _ (List.mem_of_getElem? (i := 224) rfl))))
set_option maxRecDepth 20000 in
theorem mco_83 : Cond.code (mY 83) (mC 83) (mL 83) (mR 83) ∈ lw_tbl := List.mem_append_right _ (List.mem_append_right _ (List.mem_append_right _ (List.mem_append_left _ (List.mem_of_getElem? (i := 195) rfl))))
set_option maxRecDepth 20000 in
theorem mco_84 : Cond.code (mY 84) (mC 84) (mL 84) (mR 84) ∈ lw_tbl := List.mem_append_right _ (List.mem_append_right _ (List.mem_append_right _ (List.mem_append_right _ (List.mem_append_left _ (List.mem_of_getElem? (i := 176) rfl)))))
set_option maxRecDepth 20000 in
theorem mco_85 : Cond.code (mY 85) (mC 85) (mL 85) (mR 85) ∈ lw_tbl := List.mem_append_right _ (List.mem_append_right _ (List.mem_append_right _ (List.mem_append_left _ (List.mem_of_getElem? (i := 191) rfl))))
set_option maxRecDepth 20000 in
theorem mco_86 : Cond.code (mY 86) (mC 86) (mL 86) (mR 86) ∈ lw_tbl := List.mem_append_right _ (List.mem_append_right _ (List.mem_append_right _ (List.mem_append_left _ (List.mem_of_getElem? (i := 208) rfl))))
set_option maxRecDepth 20000 in
theorem mco_87 : Cond.code (mY 87) (mC 87) (mL 87) (mR 87) ∈ lw_tbl := List.mem_append_right _ (List.mem_append_right _ (List.mem_append_right _ (List.mem_append_right _ (List.mem_append_right _ (List.mem_append_left _ (List.mem_of_getElem? (i := 14) rfl))))))
set_option maxRecDepth 20000 in
theorem mco_88 : Cond.code (mY 88) (mC 88) (mL 88) (mR 88) ∈ lw_tbl := List.mem_append_right _ (List.mem_append_right _ (List.mem_append_right _ (List.mem_append_right _ (List.mem_append_right _ (List.mem_append_left _ (List.mem_of_getElem? (i := 94) rfl))))))
set_option maxRecDepth 20000 in
theorem mco_89 : Cond.code (mY 89) (mC 89) (mL 89) (mR 89) ∈ lw_tbl := List.mem_append_right _ (List.mem_append_right _ (List.mem_append_right _ (List.mem_append_right _ (List.mem_append_right _ (List.mem_append_left _ (List.mem_of_getElem? (i := 98) rfl))))))
set_option maxRecDepth 20000 in
theorem mco_90 : Cond.code (mY 90) (mC 90) (mL 90) (mR 90) ∈ lw_tbl := List.mem_append_right _ (List.mem_append_right _ (List.mem_append_right _ (List.mem_append_right _ (List.mem_append_right _ (List.mem_append_left _ (List.mem_of_getElem? (i := 102) rfl))))))
set_option maxRecDepth 20000 in
theorem mco_91 : Cond.code (mY 91) (mC 91) (mL 91) (mR 91) ∈ lw_tbl := List.mem_append_right _ (List.mem_append_left _ (List.mem_of_getElem? (i := 176) rfl))
set_option maxRecDepth 20000 in
theorem mco_92 : Cond.code (mY 92) (mC 92) (mL 92) (mR 92) ∈ lw_tbl := List.mem_append_right _ (List.mem_append_right _ (List.mem_append_left _ (List.mem_of_getElem? (i := 224) rfl)))
set_option maxRecDepth 20000 in
theorem mco_93 : Cond.code (mY 93) (mC 93) (mL 93) (mR 93) ∈ lw_tbl := List.mem_append_right _ (List.mem_append_right _ (List.mem_append_right _ (List.mem_append_left _ (List.mem_of_getElem? (i := 13) rfl))))
set_option maxRecDepth 20000 in
theorem mco_94 : Cond.code (mY 94) (mC 94) (mL 94) (mR 94) ∈ lw_tbl := List.mem_append_right _ (List.mem_append_right _ (List.mem_append_right _ (List.mem_append_left _ (List.mem_of_getElem? (i := 122) rfl))))
set_option maxRecDepth 20000 in
theorem mco_95 : Cond.code (mY 95) (mC 95) (mL 95) (mR 95) ∈ lw_tbl := List.mem_append_right _ (List.mem_append_right _ (List.mem_append_right _ (List.mem_append_left _ (List.mem_of_getElem? (i := 130) rfl))))
set_option maxRecDepth 20000 in
theorem mco_96 : Cond.code (mY 96) (mC 96) (mL 96) (mR 96) ∈ lw_tbl := List.mem_append_right _ (List.mem_append_right _ (List.mem_append_right _ (List.mem_append_left _ (List.mem_of_getElem? (i := 96) rfl))))
set_option maxRecDepth 20000 in
theorem mco_97 : Cond.code (mY 97) (mC 97) (mL 97) (mR 97) ∈ lw_tbl := List.mem_append_right _ (List.mem_append_right _ (List.mem_append_right _ (List.mem_append_left _ (List.mem_of_getElem? (i := 100) rfl))))
set_option maxRecDepth 20000 in
theorem mco_98 : Cond.code (mY 98) (mC 98) (mL 98) (mR 98) ∈ lw_tbl := List.mem_append_right _ (List.mem_append_right _ (List.mem_append_right _ (List.mem_append_left _ (List.mem_of_getElem? (i := 118) rfl))))
set_option maxRecDepth 20000 in
theorem mco_99 : Cond.code (mY 99) (mC 99) (mL 99) (mR 99) ∈ lw_tbl := List.mem_append_right _ (List.mem_append_right _ (List.mem_append_right _ (List.mem_append_left _ (List.mem_of_getElem? (i := 108) rfl))))
set_option maxRecDepth 20000 in
theorem mco_100 : Cond.code (mY 100) (mC 100) (mL 100) (mR 100) ∈ lw_tbl := List.mem_append_right _ (List.mem_append_right _ (List.mem_append_right _ (List.mem_append_left _ (List.mem_of_getElem? (i := 17) rfl))))
set_option maxRecDepth 20000 in
theorem mco_101 : Cond.code (mY 101) (mC 101) (mL 101) (mR 101) ∈ lw_tbl := List.mem_append_right _ (List.mem_append_right _ (List.mem_append_right _ (List.mem_append_left _ (List.mem_of_getElem? (i := 21) rfl))))
set_option maxRecDepth 20000 in
theorem mco_102 : Cond.code (mY 102) (mC 102) (mL 102) (mR 102) ∈ lw_tbl := List.mem_append_right _ (List.mem_append_right _ (List.mem_append_right _ (List.mem_append_left _ (List.mem_of_getElem? (i := 83) rfl))))
set_option maxRecDepth 20000 in
theorem mco_103 : Cond.code (mY 103) (mC 103) (mL 103) (mR 103) ∈ lw_tbl := List.mem_append_right _ (List.mem_append_right _ (List.mem_append_right _ (List.mem_append_left _ (List.mem_of_getElem? (i := 26) rfl))))
set_option maxRecDepth 20000 in
theorem mco_104 : Cond.code (mY 104) (mC 104) (mL 104) (mR 104) ∈ lw_tbl := List.mem_append_right _ (List.mem_append_right _ (List.mem_append_right _ (List.mem_append_left _ (List.mem_of_getElem? (i := 92) rfl))))
set_option maxRecDepth 20000 in
theorem mco_105 : Cond.code (mY 105) (mC 105) (mL 105) (mR 105) ∈ lw_tbl := List.mem_append_right _ (List.mem_append_right _ (List.mem_append_right _ (List.mem_append_left _ (List.mem_of_getElem? (i := 104) rfl))))
set_option maxRecDepth 20000 in
theorem mco_106 : Cond.code (mY 106) (mC 106) (mL 106) (mR 106) ∈ lw_tbl := List.mem_append_right _ (List.mem_append_right _ (List.mem_append_left _ (List.mem_of_getElem? (i := 232) rfl)))
set_option maxRecDepth 20000 in
theorem mco_107 : Cond.code (mY 107) (mC 107) (mL 107) (mR 107) ∈ lw_tbl := List.mem_append_right _ (List.mem_append_right _ (List.mem_append_right _ (List.mem_append_left _ (List.mem_of_getElem? (i := 9) rfl))))
set_option maxRecDepth 20000 in
theorem mco_108 : Cond.code (mY 108) (mC 108) (mL 108) (mR 108) ∈ lw_tbl := List.mem_append_right _ (List.mem_append_right _ (List.mem_append_left _ (List.mem_of_getElem? (i := 239) rfl)))
set_option maxRecDepth 20000 in
theorem mco_109 : Cond.code (mY 109) (mC 109) (mL 109) (mR 109) ∈ lw_tbl := List.mem_append_right _ (List.mem_append_right _ (List.mem_append_right _ (List.mem_append_left _ (List.mem_of_getElem? (i := 2) rfl))))
set_option maxRecDepth 20000 in
theorem mco_110 : Cond.code (mY 110) (mC 110) (mL 110) (mR 110) ∈ lw_tbl := List.mem_append_right _ (List.mem_append_right _ (List.mem_append_right _ (List.mem_append_left _ (List.mem_of_getElem? (i := 5) rfl))))
set_option maxRecDepth 20000 in
theorem mco_111 : Cond.code (mY 111) (mC 111) (mL 111) (mR 111) ∈ lw_tbl := List.mem_append_right _ (List.mem_append_left _ (List.mem_of_getElem? (i := 33) rfl))
set_option maxRecDepth 20000 in
theorem mco_112 : Cond.code (mY 112) (mC 112) (mL 112) (mR 112) ∈ lw_tbl := List.mem_append_right _ (List.mem_append_right _ (List.mem_append_left _ (List.mem_of_getElem? (i := 204) rfl)))
set_option maxRecDepth 20000 in
theorem mco_113 : Cond.code (mY 113) (mC 113) (mL 113) (mR 113) ∈ lw_tbl := List.mem_append_right _ (List.mem_append_right _ (List.mem_append_left _ (List.mem_of_getElem? (i := 236) rfl)))
set_option maxRecDepth 20000 in
theorem mco_114 : Cond.code (mY 114) (mC 114) (mL 114) (mR 114) ∈ lw_tbl := List.mem_append_right _ (List.mem_append_right _ (List.mem_append_left _ (List.mem_of_getElem? (i := 220) rfl)))
set_option maxRecDepth 20000 in
theorem mco_115 : Cond.code (mY 115) (mC 115) (mL 115) (mR 115) ∈ lw_tbl := List.mem_append_right _ (List.mem_append_right _ (List.mem_append_right _ (List.mem_append_right _ (List.mem_append_left _ (List.mem_of_getElem? (i := 187) rfl)))))
set_option maxRecDepth 20000 in
theorem mco_116 : Cond.code (mY 116) (mC 116) (mL 116) (mR 116) ∈ lw_tbl := List.mem_append_right _ (List.mem_append_right _ (List.mem_append_left _ (List.mem_of_getElem? (i := 216) rfl)))
set_option maxRecDepth 20000 in
theorem mco_117 : Cond.code (mY 117) (mC 117) (mL 117) (mR 117) ∈ lw_tbl := List.mem_append_right _ (List.mem_append_right _ (List.mem_append_right _ (List.mem_append_left _ (List.mem_of_getElem? (i := 158) rfl))))
set_option maxRecDepth 20000 in
theorem mco_118 : Cond.code (mY 118) (mC 118) (mL 118) (mR 118) ∈ lw_tbl := List.mem_append_right _ (List.mem_append_right _ (List.mem_append_right _ (List.mem_append_left _ (List.mem_of_getElem? (i := 175) rfl))))
set_option maxRecDepth 20000 in
theorem mco_119 : Cond.code (mY 119) (mC 119) (mL 119) (mR 119) ∈ lw_tbl := List.mem_append_right _ (List.mem_append_left _ (List.mem_of_getElem? (i := 25) rfl))
set_option maxRecDepth 20000 in
theorem mco_120 : Cond.code (mY 120) (mC 120) (mL 120) (mR 120) ∈ lw_tbl := List.mem_append_right _ (List.mem_append_right _ (List.mem_append_left _ (List.mem_of_getElem? (i := 200) rfl)))
set_option maxRecDepth 20000 in
theorem mco_121 : Cond.code (mY 121) (mC 121) (mL 121) (mR 121) ∈ lw_tbl := List.mem_append_right _ (List.mem_append_right _ (List.mem_append_left _ (List.mem_of_getElem? (i := 208) rfl)))
set_option maxRecDepth 20000 in
theorem mco_122 : Cond.code (mY 122) (mC 122) (mL 122) (mR 122) ∈ lw_tbl := List.mem_append_right _ (List.mem_append_right _ (List.mem_append_left _ (List.mem_of_getElem? (i := 212) rfl)))
set_option maxRecDepth 20000 in
theorem mco_123 : Cond.code (mY 123) (mC 123) (mL 123) (mR 123) ∈ lw_tbl := List.mem_append_right _ (List.mem_append_right _ (List.mem_append_right _ (List.mem_append_left _ (List.mem_of_getElem? (i := 142) rfl))))
set_option maxRecDepth 20000 in
theorem mco_124 : Cond.code (mY 124) (mC 124) (mL 124) (mR 124) ∈ lw_tbl := List.mem_append_right _ (List.mem_append_right _ (List.mem_append_right _ (List.mem_append_left _ (List.mem_of_getElem? (i := 163) rfl))))
set_option maxRecDepth 20000 in
theorem mco_125 : Cond.code (mY 125) (mC 125) (mL 125) (mR 125) ∈ lw_tbl := List.mem_append_right _ (List.mem_append_right _ (List.mem_append_right _ (List.mem_append_left _ (List.mem_of_getElem? (i := 167) rfl))))
set_option maxRecDepth 20000 in
theorem mco_126 : Cond.code (mY 126) (mC 126) (mL 126) (mR 126) ∈ lw_tbl := List.mem_append_right _ (List.mem_append_right _ (List.mem_append_right _ (List.mem_append_left _ (List.mem_of_getElem? (i := 171) rfl))))
set_option maxRecDepth 20000 in
theorem mco_127 : Cond.code (mY 127) (mC 127) (mL 127) (mR 127) ∈ lw_tbl := List.mem_append_right _ (List.mem_append_right _ (List.mem_append_right _ (List.mem_append_left _ (List.mem_of_getElem? (i := 182) rfl))))
set_option maxRecDepth 20000 in
theorem mco_128 : Cond.code (mY 128) (mC 128) (mL 128) (mR 128) ∈ lw_tbl := List.mem_append_right _ (List.mem_append_right _ (List.mem_append_right _ (List.mem_append_left _ (List.mem_of_getElem? (i := 186) rfl))))
set_option maxRecDepth 20000 in
theorem mco_129 : Cond.code (mY 129) (mC 129) (mL 129) (mR 129) ∈ lw_tbl := List.mem_append_right _ (List.mem_append_right _ (List.mem_append_right _ (List.mem_append_left _ (List.mem_of_getElem? (i := 220) rfl))))
set_option maxRecDepth 20000 in
theorem mco_130 : Cond.code (mY 130) (mC 130) (mL 130) (mR 130) ∈ lw_tbl := List.mem_append_right _ (List.mem_append_right _ (List.mem_append_right _ (List.mem_append_left _ (List.mem_of_getElem? (i := 232) rfl))))
set_option maxRecDepth 20000 in
theorem mco_131 : Cond.code (mY 131) (mC 131) (mL 131) (mR 131) ∈ lw_tbl := List.mem_append_right _ (List.mem_append_right _ (List.mem_append_right _ (List.mem_append_right _ (List.mem_append_left _ (List.mem_of_getElem? (i := 4) rfl)))))
set_option maxRecDepth 20000 in
theorem mco_132 : Cond.code (mY 132) (mC 132) (mL 132) (mR 132) ∈ lw_tbl := List.mem_append_right _ (List.mem_append_right _ (List.mem_append_right _ (List.mem_append_right _ (List.mem_append_left _ (List.mem_of_getElem? (i := 8) rfl)))))
set_option maxRecDepth 20000 in
theorem mco_133 : Cond.code (mY 133) (mC 133) (mL 133) (mR 133) ∈ lw_tbl := List.mem_append_right _ (List.mem_append_right _ (List.mem_append_right _ (List.mem_append_right _ (List.mem_append_left _ (List.mem_of_getElem? (i := 69) rfl)))))
set_option maxRecDepth 20000 in
theorem mco_134 : Cond.code (mY 134) (mC 134) (mL 134) (mR 134) ∈ lw_tbl := List.mem_append_right _ (List.mem_append_right _ (List.mem_append_right _ (List.mem_append_right _ (List.mem_append_left _ (List.mem_of_getElem? (i := 77) rfl)))))
set_option maxRecDepth 20000 in
theorem mco_135 : Cond.code (mY 135) (mC 135) (mL 135) (mR 135) ∈ lw_tbl := List.mem_append_right _ (List.mem_append_right _ (List.mem_append_right _ (List.mem_append_right _ (List.mem_append_left _ (List.mem_of_getElem? (i := 85) rfl)))))
set_option maxRecDepth 20000 in
theorem mco_136 : Cond.code (mY 136) (mC 136) (mL 136) (mR 136) ∈ lw_tbl := List.mem_append_right _ (List.mem_append_right _ (List.mem_append_right _ (List.mem_append_right _ (List.mem_append_left _ (List.mem_of_getElem? (i := 104) rfl)))))
set_option maxRecDepth 20000 in
theorem mco_137 : Cond.code (mY 137) (mC 137) (mL 137) (mR 137) ∈ lw_tbl := List.mem_append_right _ (List.mem_append_right _ (List.mem_append_right _ (List.mem_append_right _ (List.mem_append_left _ (List.mem_of_getElem? (i := 131) rfl)))))
set_option maxRecDepth 20000 in
theorem mco_138 : Cond.code (mY 138) (mC 138) (mL 138) (mR 138) ∈ lw_tbl := List.mem_append_right _ (List.mem_append_right _ (List.mem_append_right _ (List.mem_append_right _ (List.mem_append_left _ (List.mem_of_getElem? (i := 140) rfl)))))
set_option maxRecDepth 20000 in
theorem mco_139 : Cond.code (mY 139) (mC 139) (mL 139) (mR 139) ∈ lw_tbl := List.mem_append_right _ (List.mem_append_right _ (List.mem_append_right _ (List.mem_append_right _ (List.mem_append_left _ (List.mem_of_getElem? (i := 169) rfl)))))
set_option maxRecDepth 20000 in
theorem mco_140 : Cond.code (mY 140) (mC 140) (mL 140) (mR 140) ∈ lw_tbl := List.mem_append_right _ (List.mem_append_right _ (List.mem_append_right _ (List.mem_append_right _ (List.mem_append_left _ (List.mem_of_getElem? (i := 183) rfl)))))
set_option maxRecDepth 20000 in
theorem mco_141 : Cond.code (mY 141) (mC 141) (mL 141) (mR 141) ∈ lw_tbl := List.mem_append_right _ (List.mem_append_right _ (List.mem_append_right _ (List.mem_append_right _ (List.mem_append_left _ (List.mem_of_getElem? (i := 196) rfl)))))
set_option maxRecDepth 20000 in
theorem mco_142 : Cond.code (mY 142) (mC 142) (mL 142) (mR 142) ∈ lw_tbl := List.mem_append_right _ (List.mem_append_right _ (List.mem_append_right _ (List.mem_append_right _ (List.mem_append_left _ (List.mem_of_getElem? (i := 212) rfl)))))
set_option maxRecDepth 20000 in
theorem mco_143 : Cond.code (mY 143) (mC 143) (mL 143) (mR 143) ∈ lw_tbl := List.mem_append_right _ (List.mem_append_right _ (List.mem_append_right _ (List.mem_append_right _ (List.mem_append_left _ (List.mem_of_getElem? (i := 217) rfl)))))
set_option maxRecDepth 20000 in
theorem mco_144 : Cond.code (mY 144) (mC 144) (mL 144) (mR 144) ∈ lw_tbl := List.mem_append_right _ (List.mem_append_right _ (List.mem_append_right _ (List.mem_append_right _ (List.mem_append_left _ (List.mem_of_getElem? (i := 221) rfl)))))
set_option maxRecDepth 20000 in
theorem mco_145 : Cond.code (mY 145) (mC 145) (mL 145) (mR 145) ∈ lw_tbl := List.mem_append_right _ (List.mem_append_right _ (List.mem_append_right _ (List.mem_append_right _ (List.mem_append_right _ (List.mem_append_left _ (List.mem_of_getElem? (i := 19) rfl))))))
set_option maxRecDepth 20000 in
theorem mco_146 : Cond.code (mY 146) (mC 146) (mL 146) (mR 146) ∈ lw_tbl := List.mem_append_right _ (List.mem_append_right _ (List.mem_append_right _ (List.mem_append_right _ (List.mem_append_right _ (List.mem_append_left _ (List.mem_of_getElem? (i := 24) rfl))))))
set_option maxRecDepth 20000 in
theorem mco_147 : Cond.code (mY 147) (mC 147) (mL 147) (mR 147) ∈ lw_tbl := List.mem_append_right _ (List.mem_append_right _ (List.mem_append_right _ (List.mem_append_right _ (List.mem_append_right _ (List.mem_append_left _ (List.mem_of_getElem? (i := 33) rfl))))))
set_option maxRecDepth 20000 in
theorem mco_148 : Cond.code (mY 148) (mC 148) (mL 148) (mR 148) ∈ lw_tbl := List.mem_append_right _ (List.mem_append_right _ (List.mem_append_right _ (List.mem_append_right _ (List.mem_append_right _ (List.mem_append_left _ (List.mem_of_getElem? (i := 43) rfl))))))
set_option maxRecDepth 20000 in
theorem mco_149 : Cond.code (mY 149) (mC 149) (mL 149) (mR 149) ∈ lw_tbl := List.mem_append_right _ (List.mem_append_right _ (List.mem_append_right _ (List.mem_append_right _ (List.mem_append_right _ (List.mem_append_left _ (List.mem_of_getElem? (i := 52) rfl))))))
set_option maxRecDepth 20000 in
theorem mco_150 : Cond.code (mY 150) (mC 150) (mL 150) (mR 150) ∈ lw_tbl := List.mem_append_right _ (List.mem_append_right _ (List.mem_append_right _ (List.mem_append_right _ (List.mem_append_right _ (List.mem_append_left _ (List.mem_of_getElem? (i := 64) rfl))))))
set_option maxRecDepth 20000 in
theorem mco_151 : Cond.code (mY 151) (mC 151) (mL 151) (mR 151) ∈ lw_tbl := List.mem_append_right _ (List.mem_append_right _ (List.mem_append_right _ (List.mem_append_right _ (List.mem_append_right _ (List.mem_append_left _ (List.mem_of_getElem? (i := 73) rfl))))))
set_option maxRecDepth 20000 in
theorem mco_152 : Cond.code (mY 152) (mC 152) (mL 152) (mR 152) ∈ lw_tbl := List.mem_append_right _ (List.mem_append_right _ (List.mem_append_right _ (List.mem_append_right _ (List.mem_append_right _ (List.mem_append_left _ (List.mem_of_getElem? (i := 81) rfl))))))
set_option maxRecDepth 20000 in
theorem mco_153 : Cond.code (mY 153) (mC 153) (mL 153) (mR 153) ∈ lw_tbl := List.mem_append_right _ (List.mem_append_right _ (List.mem_append_right _ (List.mem_append_right _ (List.mem_append_right _ (List.mem_append_left _ (List.mem_of_getElem? (i := 90) rfl))))))
set_option maxRecDepth 20000 in
theorem mco_154 : Cond.code (mY 154) (mC 154) (mL 154) (mR 154) ∈ lw_tbl := List.mem_append_right _ (List.mem_append_right _ (List.mem_append_right _ (List.mem_append_right _ (List.mem_append_right _ (List.mem_append_left _ (List.mem_of_getElem? (i := 106) rfl))))))
set_option maxRecDepth 20000 in
theorem mco_155 : Cond.code (mY 155) (mC 155) (mL 155) (mR 155) ∈ lw_tbl := List.mem_append_right _ (List.mem_append_right _ (List.mem_append_right _ (List.mem_append_right _ (List.mem_append_right _ (List.mem_append_left _ (List.mem_of_getElem? (i := 130) rfl))))))
set_option maxRecDepth 20000 in
theorem mco_156 : Cond.code (mY 156) (mC 156) (mL 156) (mR 156) ∈ lw_tbl := List.mem_append_right _ (List.mem_append_right _ (List.mem_append_right _ (List.mem_append_right _ (List.mem_append_right _ (List.mem_append_left _ (List.mem_of_getElem? (i := 172) rfl))))))
set_option maxRecDepth 20000 in
theorem mco_157 : Cond.code (mY 157) (mC 157) (mL 157) (mR 157) ∈ lw_tbl := List.mem_append_right _ (List.mem_append_right _ (List.mem_append_right _ (List.mem_append_right _ (List.mem_append_right _ (List.mem_append_left _ (List.mem_of_getElem? (i := 177) rfl))))))
set_option maxRecDepth 20000 in
theorem mco_158 : Cond.code (mY 158) (mC 158) (mL 158) (mR 158) ∈ lw_tbl := List.mem_append_right _ (List.mem_append_right _ (List.mem_append_right _ (List.mem_append_right _ (List.mem_append_left _ (List.mem_of_getElem? (i := 205) rfl)))))
set_option maxRecDepth 20000 in
theorem mco_159 : Cond.code (mY 159) (mC 159) (mL 159) (mR 159) ∈ lw_tbl := List.mem_append_right _ (List.mem_append_right _ (List.mem_append_right _ (List.mem_append_right _ (List.mem_append_left _ (List.mem_of_getElem? (i := 208) rfl)))))
set_option maxRecDepth 20000 in
theorem mco_160 : Cond.code (mY 160) (mC 160) (mL 160) (mR 160) ∈ lw_tbl := List.mem_append_right _ (List.mem_append_right _ (List.mem_append_right _ (List.mem_append_right _ (List.mem_append_right _ (List.mem_append_left _ (List.mem_of_getElem? (i := 196) rfl))))))
set_option maxRecDepth 20000 in
theorem mco_161 : Cond.code (mY 161) (mC 161) (mL 161) (mR 161) ∈ lw_tbl := List.mem_append_right _ (List.mem_append_right _ (List.mem_append_right _ (List.mem_append_right _ (List.mem_append_right _ (List.mem_append_right _ (List.mem_append_left _ (List.mem_of_getElem? (i := 114) rfl)))))))
set_option maxRecDepth 20000 in
theorem mco_162 : Cond.code (mY 162) (mC 162) (mL 162) (mR 162) ∈ lw_tbl := List.mem_append_right _ (List.mem_append_right _ (List.mem_append_right _ (List.mem_append_right _ (List.mem_append_right _ (List.mem_append_right _ (List.mem_append_left _ (List.mem_of_getElem? (i := 103) rfl)))))))
set_option maxRecDepth 20000 in
theorem mco_163 : Cond.code (mY 163) (mC 163) (mL 163) (mR 163) ∈ lw_tbl := List.mem_append_right _ (List.mem_append_right _ (List.mem_append_right _ (List.mem_append_right _ (List.mem_append_right _ (List.mem_append_right _ (List.mem_append_left _ (List.mem_of_getElem? (i := 107) rfl)))))))
set_option maxRecDepth 20000 in
theorem mco_164 : Cond.code (mY 164) (mC 164) (mL 164) (mR 164) ∈ lw_tbl := List.mem_append_right _ (List.mem_append_right _ (List.mem_append_right _ (List.mem_append_right _ (List.mem_append_right _ (List.mem_append_right _ (List.mem_append_left _ (List.mem_of_getElem? (i := 126) rfl)))))))
set_option maxRecDepth 20000 in
theorem mco_165 : Cond.code (mY 165) (mC 165) (mL 165) (mR 165) ∈ lw_tbl := List.mem_append_right _ (List.mem_append_right _ (List.mem_append_right _ (List.mem_append_right _ (List.mem_append_right _ (List.mem_append_right _ (List.mem_append_left _ (List.mem_of_getElem? (i := 129) rfl)))))))
set_option maxRecDepth 20000 in
theorem mco_166 : Cond.code (mY 166) (mC 166) (mL 166) (mR 166) ∈ lw_tbl := List.mem_append_right _ (List.mem_append_right _ (List.mem_append_right _ (List.mem_append_right _ (List.mem_append_right _ (List.mem_append_right _ (List.mem_append_left _ (List.mem_of_getElem? (i := 144) rfl)))))))
set_option maxRecDepth 20000 in
theorem mco_167 : Cond.code (mY 167) (mC 167) (mL 167) (mR 167) ∈ lw_tbl := List.mem_append_right _ (List.mem_append_right _ (List.mem_append_right _ (List.mem_append_right _ (List.mem_append_right _ (List.mem_append_right _ (List.mem_append_left _ (List.mem_of_getElem? (i := 140) rfl)))))))
set_option maxRecDepth 20000 in
theorem mco_168 : Cond.code (mY 168) (mC 168) (mL 168) (mR 168) ∈ lw_tbl := List.mem_append_right _ (List.mem_append_right _ (List.mem_append_right _ (List.mem_append_right _ (List.mem_append_right _ (List.mem_append_right _ (List.mem_append_left _ (List.mem_of_getElem? (i := 137) rfl)))))))
set_option maxRecDepth 20000 in
theorem mco_169 : Cond.code (mY 169) (mC 169) (mL 169) (mR 169) ∈ lw_tbl := List.mem_append_right _ (List.mem_append_right _ (List.mem_append_right _ (List.mem_append_right _ (List.mem_append_right _ (List.mem_append_right _ (List.mem_append_left _ (List.mem_of_getElem? (i := 134) rfl)))))))
set_option maxRecDepth 20000 in
theorem mco_170 : Cond.code (mY 170) (mC 170) (mL 170) (mR 170) ∈ lw_tbl := List.mem_append_right _ (List.mem_append_right _ (List.mem_append_right _ (List.mem_append_right _ (List.mem_append_right _ (List.mem_append_right _ (List.mem_append_left _ (List.mem_of_getElem? (i := 122) rfl)))))))
set_option maxRecDepth 20000 in
theorem mco_171 : Cond.code (mY 171) (mC 171) (mL 171) (mR 171) ∈ lw_tbl := List.mem_append_right _ (List.mem_append_right _ (List.mem_append_right _ (List.mem_append_right _ (List.mem_append_right _ (List.mem_append_right _ (List.mem_append_left _ (List.mem_of_getElem? (i := 156) rfl)))))))
set_option maxRecDepth 20000 in
theorem mco_172 : Cond.code (mY 172) (mC 172) (mL 172) (mR 172) ∈ lw_tbl := List.mem_append_right _ (List.mem_append_right _ (List.mem_append_right _ (List.mem_append_right _ (List.mem_append_right _ (List.mem_append_right _ (List.mem_append_left _ (List.mem_of_getElem? (i := 168) rfl)))))))
set_option maxRecDepth 20000 in
theorem mco_173 : Cond.code (mY 173) (mC 173) (mL 173) (mR 173) ∈ lw_tbl := List.mem_append_right _ (List.mem_append_right _ (List.mem_append_right _ (List.mem_append_right _ (List.mem_append_right _ (List.mem_append_right _ (List.mem_append_left _ (List.mem_of_getElem? (i := 164) rfl)))))))
set_option maxRecDepth 20000 in
theorem mco_174 : Cond.code (mY 174) (mC 174) (mL 174) (mR 174) ∈ lw_tbl := List.mem_append_right _ (List.mem_append_right _ (List.mem_append_right _ (List.mem_append_right _ (List.mem_append_right _ (List.mem_append_right _ (List.mem_append_left _ (List.mem_of_getElem? (i := 152) rfl)))))))
set_option maxRecDepth 20000 in
theorem mco_175 : Cond.code (mY 175) (mC 175) (mL 175) (mR 175) ∈ lw_tbl := List.mem_append_right _ (List.mem_append_right _ (List.mem_append_right _ (List.mem_append_right _ (List.mem_append_right _ (List.mem_append_right _ (List.mem_append_left _ (List.mem_of_getElem? (i := 184) rfl)))))))
set_option maxRecDepth 20000 in
theorem mco_176 : Cond.code (mY 176) (mC 176) (mL 176) (mR 176) ∈ lw_tbl := List.mem_append_right _ (List.mem_append_right _ (List.mem_append_right _ (List.mem_append_right _ (List.mem_append_right _ (List.mem_append_right _ (List.mem_append_left _ (List.mem_of_getElem? (i := 160) rfl)))))))
set_option maxRecDepth 20000 in
theorem mco_177 : Cond.code (mY 177) (mC 177) (mL 177) (mR 177) ∈ lw_tbl := List.mem_append_right _ (List.mem_append_right _ (List.mem_append_right _ (List.mem_append_right _ (List.mem_append_right _ (List.mem_append_right _ (List.mem_append_left _ (List.mem_of_getElem? (i := 180) rfl)))))))
set_option maxRecDepth 20000 in
theorem mco_178 : Cond.code (mY 178) (mC 178) (mL 178) (mR 178) ∈ lw_tbl := List.mem_append_right _ (List.mem_append_right _ (List.mem_append_right _ (List.mem_append_right _ (List.mem_append_right _ (List.mem_append_right _ (List.mem_append_left _ (List.mem_of_getElem? (i := 172) rfl)))))))
set_option maxRecDepth 20000 in
theorem mco_179 : Cond.code (mY 179) (mC 179) (mL 179) (mR 179) ∈ lw_tbl := List.mem_append_right _ (List.mem_append_right _ (List.mem_append_right _ (List.mem_append_right _ (List.mem_append_right _ (List.mem_append_right _ (List.mem_append_left _ (List.mem_of_getElem? (i := 176) rfl)))))))
set_option maxRecDepth 20000 in
theorem mco_180 : Cond.code (mY 180) (mC 180) (mL 180) (mR 180) ∈ lw_tbl := List.mem_append_right _ (List.mem_append_right _ (List.mem_append_right _ (List.mem_append_right _ (List.mem_append_right _ (List.mem_append_right _ (List.mem_append_left _ (List.mem_of_getElem? (i := 148) rfl)))))))
set_option maxRecDepth 20000 in
theorem mco_181 : Cond.code (mY 181) (mC 181) (mL 181) (mR 181) ∈ lw_tbl := List.mem_append_right _ (List.mem_append_right _ (List.mem_append_right _ (List.mem_append_right _ (List.mem_append_right _ (List.mem_append_right _ (List.mem_append_left _ (List.mem_of_getElem? (i := 191) rfl)))))))
set_option maxRecDepth 20000 in
theorem mco_182 : Cond.code (mY 182) (mC 182) (mL 182) (mR 182) ∈ lw_tbl := List.mem_append_right _ (List.mem_append_right _ (List.mem_append_right _ (List.mem_append_right _ (List.mem_append_right _ (List.mem_append_right _ (List.mem_append_left _ (List.mem_of_getElem? (i := 188) rfl)))))))
set_option maxRecDepth 20000 in
theorem mco_183 : Cond.code (mY 183) (mC 183) (mL 183) (mR 183) ∈ lw_tbl := List.mem_append_right _ (List.mem_append_right _ (List.mem_append_right _ (List.mem_append_right _ (List.mem_append_right _ (List.mem_append_right _ (List.mem_append_left _ (List.mem_of_getElem? (i := 195) rfl)))))))
set_option maxRecDepth 20000 in
theorem mco_184 : Cond.code (mY 184) (mC 184) (mL 184) (mR 184) ∈ lw_tbl := List.mem_append_right _ (List.mem_append_right _ (List.mem_append_right _ (List.mem_append_right _ (List.mem_append_right _ (List.mem_append_right _ (List.mem_append_left _ (List.mem_of_getElem? (i := 201) rfl)))))))
set_option maxRecDepth 20000 in
theorem mco_185 : Cond.code (mY 185) (mC 185) (mL 185) (mR 185) ∈ lw_tbl := List.mem_append_right _ (List.mem_append_right _ (List.mem_append_right _ (List.mem_append_right _ (List.mem_append_right _ (List.mem_append_right _ (List.mem_append_left _ (List.mem_of_getElem? (i := 198) rfl)))))))
set_option maxRecDepth 20000 in
theorem mco_186 : Cond.code (mY 186) (mC 186) (mL 186) (mR 186) ∈ lw_tbl := List.mem_append_right _ (List.mem_append_right _ (List.mem_append_right _ (List.mem_append_right _ (List.mem_append_right _ (List.mem_append_right _ (List.mem_append_left _ (List.mem_of_getElem? (i := 118) rfl)))))))
set_option maxRecDepth 20000 in
theorem mco_187 : Cond.code (mY 187) (mC 187) (mL 187) (mR 187) ∈ lw_tbl := List.mem_append_right _ (List.mem_append_right _ (List.mem_append_right _ (List.mem_append_right _ (List.mem_append_right _ (List.mem_append_right _ (List.mem_append_left _ (List.mem_of_getElem? (i := 111) rfl)))))))
set_option maxRecDepth 20000 in
theorem mco_188 : Cond.code (mY 188) (mC 188) (mL 188) (mR 188) ∈ lw_tbl := List.mem_append_right _ (List.mem_append_right _ (List.mem_append_right _ (List.mem_append_right _ (List.mem_append_right _ (List.mem_append_right _ (List.mem_append_left _ (List.mem_of_getElem? (i := 205) rfl)))))))
set_option maxRecDepth 20000 in
theorem mco_189 : Cond.code (mY 189) (mC 189) (mL 189) (mR 189) ∈ lw_tbl := List.mem_append_right _ (List.mem_append_right _ (List.mem_append_right _ (List.mem_append_right _ (List.mem_append_right _ (List.mem_append_right _ (List.mem_append_left _ (List.mem_of_getElem? (i := 213) rfl)))))))
set_option maxRecDepth 20000 in
theorem mco_190 : Cond.code (mY 190) (mC 190) (mL 190) (mR 190) ∈ lw_tbl := List.mem_append_right _ (List.mem_append_right _ (List.mem_append_right _ (List.mem_append_right _ (List.mem_append_right _ (List.mem_append_right _ (List.mem_append_right _ (List.mem_append_left _ (List.mem_of_getElem? (i := 9) rfl))))))))
set_option maxRecDepth 20000 in
theorem mco_191 : Cond.code (mY 191) (mC 191) (mL 191) (mR 191) ∈ lw_tbl := List.mem_append_right _ (List.mem_append_right _ (List.mem_append_right _ (List.mem_append_right _ (List.mem_append_right _ (List.mem_append_right _ (List.mem_append_right _ (List.mem_append_left _ (List.mem_of_getElem? (i := 37) rfl))))))))
set_option maxRecDepth 20000 in
theorem mco_192 : Cond.code (mY 192) (mC 192) (mL 192) (mR 192) ∈ lw_tbl := List.mem_append_right _ (List.mem_append_right _ (List.mem_append_right _ (List.mem_append_right _ (List.mem_append_right _ (List.mem_append_right _ (List.mem_append_left _ (List.mem_of_getElem? (i := 221) rfl)))))))
set_option maxRecDepth 20000 in
theorem mco_193 : Cond.code (mY 193) (mC 193) (mL 193) (mR 193) ∈ lw_tbl := List.mem_append_right _ (List.mem_append_right _ (List.mem_append_right _ (List.mem_append_right _ (List.mem_append_right _ (List.mem_append_right _ (List.mem_append_right _ (List.mem_append_left _ (List.mem_of_getElem? (i := 13) rfl))))))))
set_option maxRecDepth 20000 in
theorem mco_194 : Cond.code (mY 194) (mC 194) (mL 194) (mR 194) ∈ lw_tbl := List.mem_append_right _ (List.mem_append_right _ (List.mem_append_right _ (List.mem_append_right _ (List.mem_append_right _ (List.mem_append_right _ (List.mem_append_left _ (List.mem_of_getElem? (i := 237) rfl)))))))
set_option maxRecDepth 20000 in
theorem mco_195 : Cond.code (mY 195) (mC 195) (mL 195) (mR 195) ∈ lw_tbl := List.mem_append_right _ (List.mem_append_right _ (List.mem_append_right _ (List.mem_append_right _ (List.mem_append_right _ (List.mem_append_right _ (List.mem_append_right _ (List.mem_append_left _ (List.mem_of_getElem? (i := 40) rfl))))))))
set_option maxRecDepth 20000 in
theorem mco_196 : Cond.code (mY 196) (mC 196) (mL 196) (mR 196) ∈ lw_tbl := List.mem_append_right _ (List.mem_append_right _ (List.mem_append_right _ (List.mem_append_right _ (List.mem_append_right _ (List.mem_append_right _ (List.mem_append_left _ (List.mem_of_getElem? (i := 233) rfl)))))))
set_option maxRecDepth 20000 in
theorem mco_197 : Cond.code (mY 197) (mC 197) (mL 197) (mR 197) ∈ lw_tbl := List.mem_append_right _ (List.mem_append_right _ (List.mem_append_right _ (List.mem_append_right _ (List.mem_append_right _ (List.mem_append_right _ (List.mem_append_left _ (List.mem_of_getElem? (i := 229) rfl)))))))
set_option maxRecDepth 20000 in
theorem mco_198 : Cond.code (mY 198) (mC 198) (mL 198) (mR 198) ∈ lw_tbl := List.mem_append_right _ (List.mem_append_right _ (List.mem_append_right _ (List.mem_append_right _ (List.mem_append_right _ (List.mem_append_right _ (List.mem_append_right _ (List.mem_append_left _ (List.mem_of_getElem? (i := 1) rfl))))))))
set_option maxRecDepth 20000 in
theorem mco_199 : Cond.code (mY 199) (mC 199) (mL 199) (mR 199) ∈ lw_tbl := List.mem_append_right _ (List.mem_append_right _ (List.mem_append_right _ (List.mem_append_right _ (List.mem_append_right _ (List.mem_append_right _ (List.mem_append_left _ (List.mem_of_getElem? (i := 225) rfl)))))))
set_option maxRecDepth 20000 in
theorem mco_200 : Cond.code (mY 200) (mC 200) (mL 200) (mR 200) ∈ lw_tbl := List.mem_append_right _ (List.mem_append_right _ (List.mem_append_right _ (List.mem_append_right _ (List.mem_append_right _ (List.mem_append_right _ (List.mem_append_right _ (List.mem_append_left _ (List.mem_of_getElem? (i := 5) rfl))))))))
set_option maxRecDepth 20000 in
theorem mco_201 : Cond.code (mY 201) (mC 201) (mL 201) (mR 201) ∈ lw_tbl := List.mem_append_right _ (List.mem_append_right _ (List.mem_append_right _ (List.mem_append_right _ (List.mem_append_right _ (List.mem_append_right _ (List.mem_append_left _ (List.mem_of_getElem? (i := 217) rfl)))))))
set_option maxRecDepth 20000 in
theorem mco_202 : Cond.code (mY 202) (mC 202) (mL 202) (mR 202) ∈ lw_tbl := List.mem_append_right _ (List.mem_append_right _ (List.mem_append_right _ (List.mem_append_right _ (List.mem_append_right _ (List.mem_append_right _ (List.mem_append_right _ (List.mem_append_left _ (List.mem_of_getElem? (i := 56) rfl))))))))
set_option maxRecDepth 20000 in
theorem mco_203 : Cond.code (mY 203) (mC 203) (mL 203) (mR 203) ∈ lw_tbl := List.mem_append_right _ (List.mem_append_right _ (List.mem_append_right _ (List.mem_append_right _ (List.mem_append_right _ (List.mem_append_right _ (List.mem_append_right _ (List.mem_append_left _ (List.mem_of_getElem? (i := 25) rfl))))))))
set_option maxRecDepth 20000 in
theorem mco_204 : Cond.code (mY 204) (mC 204) (mL 204) (mR 204) ∈ lw_tbl := List.mem_append_right _ (List.mem_append_right _ (List.mem_append_right _ (List.mem_append_right _ (List.mem_append_right _ (List.mem_append_right _ (List.mem_append_right _ (List.mem_append_left _ (List.mem_of_getElem? (i := 29) rfl))))))))
set_option maxRecDepth 20000 in
theorem mco_205 : Cond.code (mY 205) (mC 205) (mL 205) (mR 205) ∈ lw_tbl := List.mem_append_right _ (List.mem_append_right _ (List.mem_append_right _ (List.mem_append_right _ (List.mem_append_right _ (List.mem_append_right _ (List.mem_append_left _ (List.mem_of_getElem? (i := 209) rfl)))))))
set_option maxRecDepth 20000 in
theorem mco_206 : Cond.code (mY 206) (mC 206) (mL 206) (mR 206) ∈ lw_tbl := List.mem_append_right _ (List.mem_append_right _ (List.mem_append_right _ (List.mem_append_right _ (List.mem_append_right _ (List.mem_append_right _ (List.mem_append_right _ (List.mem_append_left _ (List.mem_of_getElem? (i := 21) rfl))))))))
set_option maxRecDepth 20000 in
theorem mco_207 : Cond.code (mY 207) (mC 207) (mL 207) (mR 207) ∈ lw_tbl := List.mem_append_right _ (List.mem_append_right _ (List.mem_append_right _ (List.mem_append_right _ (List.mem_append_right _ (List.mem_append_right _ (List.mem_append_right _ (List.mem_append_left _ (List.mem_of_getElem? (i := 17) rfl))))))))
set_option maxRecDepth 20000 in
theorem mco_208 : Cond.code (mY 208) (mC 208) (mL 208) (mR 208) ∈ lw_tbl := List.mem_append_right _ (List.mem_append_right _ (List.mem_append_right _ (List.mem_append_right _ (List.mem_append_right _ (List.mem_append_right _ (List.mem_append_right _ (List.mem_append_left _ (List.mem_of_getElem? (i := 33) rfl))))))))
set_option maxRecDepth 20000 in
theorem mco_209 : Cond.code (mY 209) (mC 209) (mL 209) (mR 209) ∈ lw_tbl := List.mem_append_right _ (List.mem_append_right _ (List.mem_append_right _ (List.mem_append_right _ (List.mem_append_right _ (List.mem_append_right _ (List.mem_append_right _ (List.mem_append_left _ (List.mem_of_getElem? (i := 48) rfl))))))))
set_option maxRecDepth 20000 in
theorem mco_210 : Cond.code (mY 210) (mC 210) (mL 210) (mR 210) ∈ lw_tbl := List.mem_append_right _ (List.mem_append_right _ (List.mem_append_right _ (List.mem_append_right _ (List.mem_append_right _ (List.mem_append_right _ (List.mem_append_right _ (List.mem_append_left _ (List.mem_of_getElem? (i := 44) rfl))))))))
set_option maxRecDepth 20000 in
theorem mco_211 : Cond.code (mY 211) (mC 211) (mL 211) (mR 211) ∈ lw_tbl := List.mem_append_right _ (List.mem_append_right _ (List.mem_append_right _ (List.mem_append_right _ (List.mem_append_right _ (List.mem_append_right _ (List.mem_append_right _ (List.mem_append_left _ (List.mem_of_getElem? (i := 52) rfl))))))))
set_option maxRecDepth 20000 in
theorem mco_212 : Cond.code (mY 212) (mC 212) (mL 212) (mR 212) ∈ lw_tbl := List.mem_append_right _ (List.mem_append_right _ (List.mem_append_right _ (List.mem_append_right _ (List.mem_append_right _ (List.mem_append_right _ (List.mem_append_right _ (List.mem_append_left _ (List.mem_of_getElem? (i := 60) rfl))))))))
set_option maxRecDepth 20000 in
theorem mco_213 : Cond.code (mY 213) (mC 213) (mL 213) (mR 213) ∈ lw_tbl := List.mem_append_right _ (List.mem_append_right _ (List.mem_append_right _ (List.mem_append_right _ (List.mem_append_right _ (List.mem_append_right _ (List.mem_append_right _ (List.mem_append_left _ (List.mem_of_getElem? (i := 70) rfl))))))))
set_option maxRecDepth 20000 in
theorem mco_214 : Cond.code (mY 214) (mC 214) (mL 214) (mR 214) ∈ lw_tbl := List.mem_append_right _ (List.mem_append_right _ (List.mem_append_right _ (List.mem_append_right _ (List.mem_append_right _ (List.mem_append_right _ (List.mem_append_right _ (List.mem_append_left _ (List.mem_of_getElem? (i := 67) rfl))))))))
set_option maxRecDepth 20000 in
theorem mco_215 : Cond.code (mY 215) (mC 215) (mL 215) (mR 215) ∈ lw_tbl := List.mem_append_right _ (List.mem_append_right _ (List.mem_append_right _ (List.mem_append_right _ (List.mem_append_right _ (List.mem_append_right _ (List.mem_append_right _ (List.mem_append_left _ (List.mem_of_getElem? (i := 64) rfl))))))))
set_option maxRecDepth 20000 in
theorem mco_216 : Cond.code (mY 216) (mC 216) (mL 216) (mR 216) ∈ lw_tbl := List.mem_append_right _ (List.mem_append_right _ (List.mem_append_right _ (List.mem_append_right _ (List.mem_append_right _ (List.mem_append_right _ (List.mem_append_right _ (List.mem_append_left _ (List.mem_of_getElem? (i := 78) rfl))))))))
set_option maxRecDepth 20000 in
theorem mco_217 : Cond.code (mY 217) (mC 217) (mL 217) (mR 217) ∈ lw_tbl := List.mem_append_right _ (List.mem_append_right _ (List.mem_append_right _ (List.mem_append_right _ (List.mem_append_right _ (List.mem_append_right _ (List.mem_append_right _ (List.mem_append_left _ (List.mem_of_getElem? (i := 74) rfl))))))))
set_option maxRecDepth 20000 in
theorem mco_218 : Cond.code (mY 218) (mC 218) (mL 218) (mR 218) ∈ lw_tbl := List.mem_append_right _ (List.mem_append_right _ (List.mem_append_right _ (List.mem_append_right _ (List.mem_append_right _ (List.mem_append_right _ (List.mem_append_right _ (List.mem_append_left _ (List.mem_of_getElem? (i := 86) rfl))))))))
set_option maxRecDepth 20000 in
theorem mco_219 : Cond.code (mY 219) (mC 219) (mL 219) (mR 219) ∈ lw_tbl := List.mem_append_right _ (List.mem_append_right _ (List.mem_append_right _ (List.mem_append_right _ (List.mem_append_right _ (List.mem_append_right _ (List.mem_append_right _ (List.mem_append_left _ (List.mem_of_getElem? (i := 82) rfl))))))))
set_option maxRecDepth 20000 in
theorem mco_220 : Cond.code (mY 220) (mC 220) (mL 220) (mR 220) ∈ lw_tbl := List.mem_append_right _ (List.mem_append_right _ (List.mem_append_right _ (List.mem_append_right _ (List.mem_append_right _ (List.mem_append_right _ (List.mem_append_right _ (List.mem_append_left _ (List.mem_of_getElem? (i := 91) rfl))))))))
set_option maxRecDepth 20000 in
theorem mco_221 : Cond.code (mY 221) (mC 221) (mL 221) (mR 221) ∈ lw_tbl := List.mem_append_right _ (List.mem_append_right _ (List.mem_append_right _ (List.mem_append_right _ (List.mem_append_right _ (List.mem_append_right _ (List.mem_append_right _ (List.mem_append_left _ (List.mem_of_getElem? (i := 95) rfl))))))))
set_option maxRecDepth 20000 in
theorem mco_222 : Cond.code (mY 222) (mC 222) (mL 222) (mR 222) ∈ lw_tbl := List.mem_append_right _ (List.mem_append_right _ (List.mem_append_right _ (List.mem_append_right _ (List.mem_append_right _ (List.mem_append_right _ (List.mem_append_right _ (List.mem_append_left _ (List.mem_of_getElem? (i := 99) rfl))))))))
set_option maxRecDepth 20000 in
theorem mco_223 : Cond.code (mY 223) (mC 223) (mL 223) (mR 223) ∈ lw_tbl := List.mem_append_right _ (List.mem_append_right _ (List.mem_append_right _ (List.mem_append_right _ (List.mem_append_right _ (List.mem_append_right _ (List.mem_append_right _ (List.mem_append_left _ (List.mem_of_getElem? (i := 107) rfl))))))))
set_option maxRecDepth 20000 in
theorem mco_224 : Cond.code (mY 224) (mC 224) (mL 224) (mR 224) ∈ lw_tbl := List.mem_append_right _ (List.mem_append_right _ (List.mem_append_right _ (List.mem_append_right _ (List.mem_append_right _ (List.mem_append_right _ (List.mem_append_right _ (List.mem_append_left _ (List.mem_of_getElem? (i := 111) rfl))))))))
set_option maxRecDepth 20000 in
theorem mco_225 : Cond.code (mY 225) (mC 225) (mL 225) (mR 225) ∈ lw_tbl := List.mem_append_right _ (List.mem_append_right _ (List.mem_append_right _ (List.mem_append_right _ (List.mem_append_right _ (List.mem_append_right _ (List.mem_append_right _ (List.mem_append_left _ (List.mem_of_getElem? (i := 119) rfl))))))))
set_option maxRecDepth 20000 in
theorem mco_226 : Cond.code (mY 226) (mC 226) (mL 226) (mR 226) ∈ lw_tbl := List.mem_append_right _ (List.mem_append_right _ (List.mem_append_right _ (List.mem_append_right _ (List.mem_append_right _ (List.mem_append_right _ (List.mem_append_right _ (List.mem_append_left _ (List.mem_of_getElem? (i := 115) rfl))))))))
set_option maxRecDepth 20000 in
theorem mco_227 : Cond.code (mY 227) (mC 227) (mL 227) (mR 227) ∈ lw_tbl := List.mem_append_right _ (List.mem_append_right _ (List.mem_append_right _ (List.mem_append_right _ (List.mem_append_right _ (List.mem_append_right _ (List.mem_append_right _ (List.mem_append_left _ (List.mem_of_getElem? (i := 127) rfl))))))))
set_option maxRecDepth 20000 in
theorem mco_228 : Cond.code (mY 228) (mC 228) (mL 228) (mR 228) ∈ lw_tbl := List.mem_append_right _ (List.mem_append_right _ (List.mem_append_right _ (List.mem_append_right _ (List.mem_append_right _ (List.mem_append_right _ (List.mem_append_right _ (List.mem_append_left _ (List.mem_of_getElem? (i := 123) rfl))))))))
set_option maxRecDepth 20000 in
theorem mco_229 : Cond.code (mY 229) (mC 229) (mL 229) (mR 229) ∈ lw_tbl := List.mem_append_right _ (List.mem_append_right _ (List.mem_append_right _ (List.mem_append_right _ (List.mem_append_right _ (List.mem_append_right _ (List.mem_append_right _ (List.mem_append_left _ (List.mem_of_getElem? (i := 135) rfl))))))))
set_option maxRecDepth 20000 in
theorem mco_230 : Cond.code (mY 230) (mC 230) (mL 230) (mR 230) ∈ lw_tbl := List.mem_append_right _ (List.mem_append_right _ (List.mem_append_right _ (List.mem_append_right _ (List.mem_append_right _ (List.mem_append_right _ (List.mem_append_right _ (List.mem_append_left _ (List.mem_of_getElem? (i := 131) rfl))))))))
set_option maxRecDepth 20000 in
theorem mco_231 : Cond.code (mY 231) (mC 231) (mL 231) (mR 231) ∈ lw_tbl := List.mem_append_right _ (List.mem_append_right _ (List.mem_append_right _ (List.mem_append_right _ (List.mem_append_right _ (List.mem_append_right _ (List.mem_append_right _ (List.mem_append_left _ (List.mem_of_getElem? (i := 103) rfl))))))))
set_option maxRecDepth 20000 in
theorem mco_232 : Cond.code (mY 232) (mC 232) (mL 232) (mR 232) ∈ lw_tbl := List.mem_append_right _ (List.mem_append_right _ (List.mem_append_right _ (List.mem_append_right _ (List.mem_append_right _ (List.mem_append_right _ (List.mem_append_right _ (List.mem_append_left _ (List.mem_of_getElem? (i := 139) rfl))))))))
set_option maxRecDepth 20000 in
theorem mco_233 : Cond.code (mY 233) (mC 233) (mL 233) (mR 233) ∈ lw_tbl := List.mem_append_right _ (List.mem_append_right _ (List.mem_append_right _ (List.mem_append_right _ (List.mem_append_right _ (List.mem_append_right _ (List.mem_append_right _ (List.mem_append_left _ (List.mem_of_getElem? (i := 147) rfl))))))))
set_option maxRecDepth 20000 in
theorem mco_234 : Cond.code (mY 234) (mC 234) (mL 234) (mR 234) ∈ lw_tbl := List.mem_append_right _ (List.mem_append_right _ (List.mem_append_right _ (List.mem_append_right _ (List.mem_append_right _ (List.mem_append_right _ (List.mem_append_right _ (List.mem_append_left _ (List.mem_of_getElem? (i := 143) rfl))))))))
set_option maxRecDepth 20000 in
theorem mco_235 : Cond.code (mY 235) (mC 235) (mL 235) (mR 235) ∈ lw_tbl := List.mem_append_right _ (List.mem_append_right _ (List.mem_append_right _ (List.mem_append_right _ (List.mem_append_right _ (List.mem_append_right _ (List.mem_append_right _ (List.mem_append_left _ (List.mem_of_getElem? (i := 151) rfl))))))))
set_option maxRecDepth 20000 in
theorem mco_236 : Cond.code (mY 236) (mC 236) (mL 236) (mR 236) ∈ lw_tbl := List.mem_append_right _ (List.mem_append_right _ (List.mem_append_right _ (List.mem_append_right _ (List.mem_append_right _ (List.mem_append_right _ (List.mem_append_right _ (List.mem_append_left _ (List.mem_of_getElem? (i := 159) rfl))))))))
set_option maxRecDepth 20000 in
theorem mco_237 : Cond.code (mY 237) (mC 237) (mL 237) (mR 237) ∈ lw_tbl := List.mem_append_right _ (List.mem_append_right _ (List.mem_append_right _ (List.mem_append_right _ (List.mem_append_right _ (List.mem_append_right _ (List.mem_append_right _ (List.mem_append_left _ (List.mem_of_getElem? (i := 155) rfl))))))))
set_option maxRecDepth 20000 in
theorem mco_238 : Cond.code (mY 238) (mC 238) (mL 238) (mR 238) ∈ lw_tbl := List.mem_append_right _ (List.mem_append_right _ (List.mem_append_right _ (List.mem_append_right _ (List.mem_append_right _ (List.mem_append_right _ (List.mem_append_right _ (List.mem_append_left _ (List.mem_of_getElem? (i := 167) rfl))))))))
set_option maxRecDepth 20000 in
theorem mco_239 : Cond.code (mY 239) (mC 239) (mL 239) (mR 239) ∈ lw_tbl := List.mem_append_right _ (List.mem_append_right _ (List.mem_append_right _ (List.mem_append_right _ (List.mem_append_right _ (List.mem_append_right _ (List.mem_append_right _ (List.mem_append_left _ (List.mem_of_getElem? (i := 163) rfl))))))))
set_option maxRecDepth 20000 in
theorem mco_240 : Cond.code (mY 240) (mC 240) (mL 240) (mR 240) ∈ lw_tbl := List.mem_append_right _ (List.mem_append_right _ (List.mem_append_right _ (List.mem_append_right _ (List.mem_append_right _ (List.mem_append_right _ (List.mem_append_right _ (List.mem_append_left _ (List.mem_of_getElem? (i := 179) rfl))))))))
set_option maxRecDepth 20000 in
theorem mco_241 : Cond.code (mY 241) (mC 241) (mL 241) (mR 241) ∈ lw_tbl := List.mem_append_right _ (List.mem_append_right _ (List.mem_append_right _ (List.mem_append_right _ (List.mem_append_right _ (List.mem_append_right _ (List.mem_append_right _ (List.mem_append_left _ (List.mem_of_getElem? (i := 183) rfl))))))))
set_option maxRecDepth 20000 in
theorem mco_242 : Cond.code (mY 242) (mC 242) (mL 242) (mR 242) ∈ lw_tbl := List.mem_append_right _ (List.mem_append_right _ (List.mem_append_right _ (List.mem_append_right _ (List.mem_append_right _ (List.mem_append_right _ (List.mem_append_right _ (List.mem_append_left _ (List.mem_of_getElem? (i := 175) rfl))))))))
set_option maxRecDepth 20000 in
theorem mco_243 : Cond.code (mY 243) (mC 243) (mL 243) (mR 243) ∈ lw_tbl := List.mem_append_right _ (List.mem_append_right _ (List.mem_append_right _ (List.mem_append_right _ (List.mem_append_right _ (List.mem_append_right _ (List.mem_append_right _ (List.mem_append_left _ (List.mem_of_getElem? (i := 171) rfl))))))))
set_option maxRecDepth 20000 in
theorem mco_244 : Cond.code (mY 244) (mC 244) (mL 244) (mR 244) ∈ lw_tbl := List.mem_append_right _ (List.mem_append_right _ (List.mem_append_right _ (List.mem_append_right _ (List.mem_append_right _ (List.mem_append_right _ (List.mem_append_right _ (List.mem_append_left _ (List.mem_of_getElem? (i := 191) rfl))))))))
set_option maxRecDepth 20000 in
theorem mco_245 : Cond.code (mY 245) (mC 245) (mL 245) (mR 245) ∈ lw_tbl := List.mem_append_right _ (List.mem_append_right _ (List.mem_append_right _ (List.mem_append_right _ (List.mem_append_right _ (List.mem_append_right _ (List.mem_append_right _ (List.mem_append_left _ (List.mem_of_getElem? (i := 195) rfl))))))))
set_option maxRecDepth 20000 in
theorem mco_246 : Cond.code (mY 246) (mC 246) (mL 246) (mR 246) ∈ lw_tbl := List.mem_append_right _ (List.mem_append_right _ (List.mem_append_right _ (List.mem_append_right _ (List.mem_append_right _ (List.mem_append_right _ (List.mem_append_right _ (List.mem_append_left _ (List.mem_of_getElem? (i := 199) rfl))))))))
set_option maxRecDepth 20000 in
theorem mco_247 : Cond.code (mY 247) (mC 247) (mL 247) (mR 247) ∈ lw_tbl := List.mem_append_right _ (List.mem_append_right _ (List.mem_append_right _ (List.mem_append_right _ (List.mem_append_right _ (List.mem_append_right _ (List.mem_append_right _ (List.mem_append_left _ (List.mem_of_getElem? (i := 203) rfl))))))))
set_option maxRecDepth 20000 in
theorem mco_248 : Cond.code (mY 248) (mC 248) (mL 248) (mR 248) ∈ lw_tbl := List.mem_append_right _ (List.mem_append_right _ (List.mem_append_right _ (List.mem_append_right _ (List.mem_append_right _ (List.mem_append_right _ (List.mem_append_right _ (List.mem_append_left _ (List.mem_of_getElem? (i := 187) rfl))))))))
set_option maxRecDepth 20000 in
theorem mco_249 : Cond.code (mY 249) (mC 249) (mL 249) (mR 249) ∈ lw_tbl := List.mem_append_right _ (List.mem_append_right _ (List.mem_append_right _ (List.mem_append_right _ (List.mem_append_right _ (List.mem_append_right _ (List.mem_append_right _ (List.mem_append_left _ (List.mem_of_getElem? (i := 211) rfl))))))))
set_option maxRecDepth 20000 in
theorem mco_250 : Cond.code (mY 250) (mC 250) (mL 250) (mR 250) ∈ lw_tbl := List.mem_append_right _ (List.mem_append_right _ (List.mem_append_right _ (List.mem_append_right _ (List.mem_append_right _ (List.mem_append_right _ (List.mem_append_right _ (List.mem_append_left _ (List.mem_of_getElem? (i := 207) rfl))))))))
set_option maxRecDepth 20000 in
theorem mco_251 : Cond.code (mY 251) (mC 251) (mL 251) (mR 251) ∈ lw_tbl := List.mem_append_right _ (List.mem_append_right _ (List.mem_append_right _ (List.mem_append_right _ (List.mem_append_right _ (List.mem_append_right _ (List.mem_append_right _ (List.mem_append_left _ (List.mem_of_getElem? (i := 223) rfl))))))))
set_option maxRecDepth 20000 in
theorem mco_252 : Cond.code (mY 252) (mC 252) (mL 252) (mR 252) ∈ lw_tbl := List.mem_append_right _ (List.mem_append_right _ (List.mem_append_right _ (List.mem_append_right _ (List.mem_append_right _ (List.mem_append_right _ (List.mem_append_right _ (List.mem_append_left _ (List.mem_of_getElem? (i := 235) rfl))))))))
set_option maxRecDepth 20000 in
theorem mco_253 : Cond.code (mY 253) (mC 253) (mL 253) (mR 253) ∈ lw_tbl := List.mem_append_right _ (List.mem_append_right _ (List.mem_append_right _ (List.mem_append_right _ (List.mem_append_right _ (List.mem_append_right _ (List.mem_append_right _ (List.mem_append_left _ (List.mem_of_getElem? (i := 239) rfl))))))))
set_option maxRecDepth 20000 in
theorem mco_254 : Cond.code (mY 254) (mC 254) (mL 254) (mR 254) ∈ lw_tbl := List.mem_append_right _ (List.mem_append_right _ (List.mem_append_right _ (List.mem_append_right _ (List.mem_append_right _ (List.mem_append_right _ (List.mem_append_right _ (List.mem_append_right _ (List.mem_of_getElem? (i := 3) rfl))))))))
set_option maxRecDepth 20000 in
theorem mco_255 : Cond.code (mY 255) (mC 255) (mL 255) (mR 255) ∈ lw_tbl := List.mem_append_right _ (List.mem_append_right _ (List.mem_append_right _ (List.mem_append_right _ (List.mem_append_right _ (List.mem_append_right _ (List.mem_append_right _ (List.mem_append_right _ (List.mem_of_getElem? (i := 7) rfl))))))))
set_option maxRecDepth 20000 in
theorem mco_256 : Cond.code (mY 256) (mC 256) (mL 256) (mR 256) ∈ lw_tbl := List.mem_append_right _ (List.mem_append_right _ (List.mem_append_right _ (List.mem_append_right _ (List.mem_append_right _ (List.mem_append_right _ (List.mem_append_right _ (List.mem_append_right _ (List.mem_of_getElem? (i := 11) rfl))))))))
set_option maxRecDepth 20000 in
theorem mco_257 : Cond.code (mY 257) (mC 257) (mL 257) (mR 257) ∈ lw_tbl := List.mem_append_right _ (List.mem_append_right _ (List.mem_append_right _ (List.mem_append_right _ (List.mem_append_right _ (List.mem_append_right _ (List.mem_append_right _ (List.mem_append_left _ (List.mem_of_getElem? (i := 231) rfl))))))))
set_option maxRecDepth 20000 in
theorem mco_258 : Cond.code (mY 258) (mC 258) (mL 258) (mR 258) ∈ lw_tbl := List.mem_append_right _ (List.mem_append_right _ (List.mem_append_right _ (List.mem_append_right _ (List.mem_append_right _ (List.mem_append_right _ (List.mem_append_right _ (List.mem_append_left _ (List.mem_of_getElem? (i := 227) rfl))))))))
set_option maxRecDepth 20000 in
theorem mco_259 : Cond.code (mY 259) (mC 259) (mL 259) (mR 259) ∈ lw_tbl := List.mem_append_right _ (List.mem_append_right _ (List.mem_append_right _ (List.mem_append_right _ (List.mem_append_right _ (List.mem_append_right _ (List.mem_append_right _ (List.mem_append_left _ (List.mem_of_getElem? (i := 219) rfl))))))))
set_option maxRecDepth 20000 in
theorem mco_260 : Cond.code (mY 260) (mC 260) (mL 260) (mR 260) ∈ lw_tbl := List.mem_append_right _ (List.mem_append_right _ (List.mem_append_right _ (List.mem_append_right _ (List.mem_append_right _ (List.mem_append_right _ (List.mem_append_right _ (List.mem_append_left _ (List.mem_of_getElem? (i := 215) rfl))))))))
set_option maxRecDepth 20000 in
theorem mco_261 : Cond.code (mY 261) (mC 261) (mL 261) (mR 261) ∈ lw_tbl := List.mem_append_right _ (List.mem_append_right _ (List.mem_append_right _ (List.mem_append_right _ (List.mem_append_right _ (List.mem_append_right _ (List.mem_append_right _ (List.mem_append_right _ (List.mem_of_getElem? (i := 19) rfl))))))))
set_option maxRecDepth 20000 in
theorem mco_262 : Cond.code (mY 262) (mC 262) (mL 262) (mR 262) ∈ lw_tbl := List.mem_append_right _ (List.mem_append_right _ (List.mem_append_right _ (List.mem_append_right _ (List.mem_append_right _ (List.mem_append_right _ (List.mem_append_right _ (List.mem_append_right _ (List.mem_of_getElem? (i := 15) rfl))))))))
set_option maxRecDepth 20000 in
theorem mco_263 : Cond.code (mY 263) (mC 263) (mL 263) (mR 263) ∈ lw_tbl := List.mem_append_right _ (List.mem_append_right _ (List.mem_append_right _ (List.mem_append_right _ (List.mem_append_right _ (List.mem_append_right _ (List.mem_append_right _ (List.mem_append_right _ (List.mem_of_getElem? (i := 27) rfl))))))))
set_option maxRecDepth 20000 in
theorem mco_264 : Cond.code (mY 264) (mC 264) (mL 264) (mR 264) ∈ lw_tbl := List.mem_append_right _ (List.mem_append_right _ (List.mem_append_right _ (List.mem_append_right _ (List.mem_append_right _ (List.mem_append_right _ (List.mem_append_right _ (List.mem_append_right _ (List.mem_of_getElem? (i := 23) rfl))))))))
set_option maxRecDepth 20000 in
theorem mco_265 : Cond.code (mY 265) (mC 265) (mL 265) (mR 265) ∈ lw_tbl := List.mem_append_right _ (List.mem_append_right _ (List.mem_append_right _ (List.mem_append_right _ (List.mem_append_right _ (List.mem_append_right _ (List.mem_append_right _ (List.mem_append_right _ (List.mem_of_getElem? (i := 35) rfl))))))))
set_option maxRecDepth 20000 in
theorem mco_266 : Cond.code (mY 266) (mC 266) (mL 266) (mR 266) ∈ lw_tbl := List.mem_append_right _ (List.mem_append_right _ (List.mem_append_right _ (List.mem_append_right _ (List.mem_append_right _ (List.mem_append_right _ (List.mem_append_right _ (List.mem_append_right _ (List.mem_of_getElem? (i := 31) rfl))))))))
set_option maxRecDepth 20000 in
theorem mco_267 : Cond.code (mY 267) (mC 267) (mL 267) (mR 267) ∈ lw_tbl := List.mem_append_right _ (List.mem_append_right _ (List.mem_append_right _ (List.mem_append_right _ (List.mem_append_right _ (List.mem_append_right _ (List.mem_append_right _ (List.mem_append_right _ (List.mem_of_getElem? (i := 47) rfl))))))))
set_option maxRecDepth 20000 in
theorem mco_268 : Cond.code (mY 268) (mC 268) (mL 268) (mR 268) ∈ lw_tbl := List.mem_append_right _ (List.mem_append_right _ (List.mem_append_right _ (List.mem_append_right _ (List.mem_append_right _ (List.mem_append_right _ (List.mem_append_right _ (List.mem_append_right _ (List.mem_of_getElem? (i := 43) rfl))))))))
set_option maxRecDepth 20000 in
theorem mco_269 : Cond.code (mY 269) (mC 269) (mL 269) (mR 269) ∈ lw_tbl := List.mem_append_right _ (List.mem_append_right _ (List.mem_append_right _ (List.mem_append_right _ (List.mem_append_right _ (List.mem_append_right _ (List.mem_append_right _ (List.mem_append_right _ (List.mem_of_getElem? (i := 55) rfl))))))))
set_option maxRecDepth 20000 in
theorem mco_270 : Cond.code (mY 270) (mC 270) (mL 270) (mR 270) ∈ lw_tbl := List.mem_append_right _ (List.mem_append_right _ (List.mem_append_right _ (List.mem_append_right _ (List.mem_append_right _ (List.mem_append_right _ (List.mem_append_right _ (List.mem_append_right _ (List.mem_of_getElem? (i := 51) rfl))))))))
set_option maxRecDepth 20000 in
theorem mco_271 : Cond.code (mY 271) (mC 271) (mL 271) (mR 271) ∈ lw_tbl := List.mem_append_right _ (List.mem_append_right _ (List.mem_append_right _ (List.mem_append_right _ (List.mem_append_right _ (List.mem_append_right _ (List.mem_append_right _ (List.mem_append_right _ (List.mem_of_getElem? (i := 59) rfl))))))))
set_option maxRecDepth 20000 in
theorem mco_272 : Cond.code (mY 272) (mC 272) (mL 272) (mR 272) ∈ lw_tbl := List.mem_append_right _ (List.mem_append_right _ (List.mem_append_right _ (List.mem_append_right _ (List.mem_append_right _ (List.mem_append_right _ (List.mem_append_right _ (List.mem_append_right _ (List.mem_of_getElem? (i := 39) rfl))))))))
set_option maxRecDepth 20000 in
theorem mco_273 : Cond.code (mY 273) (mC 273) (mL 273) (mR 273) ∈ lw_tbl := List.mem_append_right _ (List.mem_append_right _ (List.mem_append_right _ (List.mem_append_right _ (List.mem_append_right _ (List.mem_append_right _ (List.mem_append_right _ (List.mem_append_right _ (List.mem_of_getElem? (i := 63) rfl))))))))
set_option maxRecDepth 20000 in
theorem mco_274 : Cond.code (mY 274) (mC 274) (mL 274) (mR 274) ∈ lw_tbl := List.mem_append_right _ (List.mem_append_right _ (List.mem_append_right _ (List.mem_append_right _ (List.mem_append_right _ (List.mem_append_right _ (List.mem_append_right _ (List.mem_append_right _ (List.mem_of_getElem? (i := 75) rfl))))))))
set_option maxRecDepth 20000 in
theorem mco_275 : Cond.code (mY 275) (mC 275) (mL 275) (mR 275) ∈ lw_tbl := List.mem_append_right _ (List.mem_append_right _ (List.mem_append_right _ (List.mem_append_right _ (List.mem_append_right _ (List.mem_append_right _ (List.mem_append_right _ (List.mem_append_right _ (List.mem_of_getElem? (i := 71) rfl))))))))
set_option maxRecDepth 20000 in
theorem mco_276 : Cond.code (mY 276) (mC 276) (mL 276) (mR 276) ∈ lw_tbl := List.mem_append_right _ (List.mem_append_right _ (List.mem_append_right _ (List.mem_append_right _ (List.mem_append_right _ (List.mem_append_right _ (List.mem_append_right _ (List.mem_append_right _ (List.mem_of_getElem? (i := 67) rfl))))))))
set_option maxRecDepth 20000 in
theorem mco_277 : Cond.code (mY 277) (mC 277) (mL 277) (mR 277) ∈ lw_tbl := List.mem_append_right _ (List.mem_append_right _ (List.mem_append_right _ (List.mem_append_right _ (List.mem_append_right _ (List.mem_append_right _ (List.mem_append_right _ (List.mem_append_right _ (List.mem_of_getElem? (i := 87) rfl))))))))
set_option maxRecDepth 20000 in
theorem mco_278 : Cond.code (mY 278) (mC 278) (mL 278) (mR 278) ∈ lw_tbl := List.mem_append_right _ (List.mem_append_right _ (List.mem_append_right _ (List.mem_append_right _ (List.mem_append_right _ (List.mem_append_right _ (List.mem_append_right _ (List.mem_append_right _ (List.mem_of_getElem? (i := 83) rfl))))))))
set_option maxRecDepth 20000 in
theorem mco_279 : Cond.code (mY 279) (mC 279) (mL 279) (mR 279) ∈ lw_tbl := List.mem_append_right _ (List.mem_append_right _ (List.mem_append_right _ (List.mem_append_right _ (List.mem_append_right _ (List.mem_append_right _ (List.mem_append_right _ (List.mem_append_right _ (List.mem_of_getElem? (i := 79) rfl))))))))
set_option maxRecDepth 20000 in
theorem mco_280 : Cond.code (mY 280) (mC 280) (mL 280) (mR 280) ∈ lw_tbl := List.mem_append_right _ (List.mem_append_right _ (List.mem_append_right _ (List.mem_append_right _ (List.mem_append_right _ (List.mem_append_right _ (List.mem_append_right _ (List.mem_append_right _ (List.mem_of_getElem? (i := 92) rfl))))))))
set_option maxRecDepth 20000 in
theorem mco_281 : Cond.code (mY 281) (mC 281) (mL 281) (mR 281) ∈ lw_tbl := List.mem_append_right _ (List.mem_append_right _ (List.mem_append_right _ (List.mem_append_right _ (List.mem_append_right _ (List.mem_append_right _ (List.mem_append_right _ (List.mem_append_right _ (List.mem_of_getElem? (i := 96) rfl))))))))
set_option maxRecDepth 20000 in
theorem mco_282 : Cond.code (mY 282) (mC 282) (mL 282) (mR 282) ∈ lw_tbl := List.mem_append_right _ (List.mem_append_right _ (List.mem_append_right _ (List.mem_append_right _ (List.mem_append_right _ (List.mem_append_right _ (List.mem_append_right _ (List.mem_append_right _ (List.mem_of_getElem? (i := 100) rfl))))))))
set_option maxRecDepth 20000 in
theorem mco_283 : Cond.code (mY 283) (mC 283) (mL 283) (mR 283) ∈ lw_tbl := List.mem_append_right _ (List.mem_append_right _ (List.mem_append_right _ (List.mem_append_right _ (List.mem_append_left _ (List.mem_of_getElem? (i := 16) rfl)))))
theorem mk_co : ∀ k, k < 284 → Cond.code (mY k) (mC k) (mL k) (mR k) ∈ TB := by
  intro k hk
  refine List.mem_filter.mpr ⟨?_, rfl⟩
  match k, hk with
  | 0, _ => exact mco_0
  | 1, _ => exact mco_1
  | 2, _ => exact mco_2
  | 3, _ => exact mco_3
  | 4, _ => exact mco_4
  | 5, _ => exact mco_5
  | 6, _ => exact mco_6
  | 7, _ => exact mco_7
  | 8, _ => exact mco_8
  | 9, _ => exact mco_9
  | 10, _ => exact mco_10
  | 11, _ => exact mco_11
  | 12, _ => exact mco_12
  | 13, _ => exact mco_13
  | 14, _ => exact mco_14
  | 15, _ => exact mco_15
  | 16, _ => exact mco_16
  | 17, _ => exact mco_17
  | 18, _ => exact mco_18
  | 19, _ => exact mco_19
  | 20, _ => exact mco_20
  | 21, _ => exact mco_21
  | 22, _ => exact mco_22
  | 23, _ => exact mco_23
  | 24, _ => exact mco_24
  | 25, _ => exact mco_25
  | 26, _ => exact mco_26
  | 27, _ => exact mco_27
  | 28, _ => exact mco_28
  | 29, _ => exact mco_29
  | 30, _ => exact mco_30
  | 31, _ => exact mco_31
  | 32, _ => exact mco_32
  | 33, _ => exact mco_33
  | 34, _ => exact mco_34
  | 35, _ => exact mco_35
  | 36, _ => exact mco_36
  | 37, _ => exact mco_37
  | 38, _ => exact mco_38
  | 39, _ => exact mco_39
  | 40, _ => exact mco_40
  | 41, _ => exact mco_41
  | 42, _ => exact mco_42
  | 43, _ => exact mco_43
  | 44, _ => exact mco_44
  | 45, _ => exact mco_45
  | 46, _ => exact mco_46
  | 47, _ => exact mco_47
  | 48, _ => exact mco_48
  | 49, _ => exact mco_49
  | 50, _ => exact mco_50
  | 51, _ => exact mco_51
  | 52, _ => exact mco_52
  | 53, _ => exact mco_53
  | 54, _ => exact mco_54
  | 55, _ => exact mco_55
  | 56, _ => exact mco_56
  | 57, _ => exact mco_57
  | 58, _ => exact mco_58
  | 59, _ => exact mco_59
  | 60, _ => exact mco_60
  | 61, _ => exact mco_61
  | 62, _ => exact mco_62
  | 63, _ => exact mco_63
  | 64, _ => exact mco_64
  | 65, _ => exact mco_65
  | 66, _ => exact mco_66
  | 67, _ => exact mco_67
  | 68, _ => exact mco_68
  | 69, _ => exact mco_69
  | 70, _ => exact mco_70
  | 71, _ => exact mco_71
  | 72, _ => exact mco_72
  | 73, _ => exact mco_73
  | 74, _ => exact mco_74
  | 75, _ => exact mco_75
  | 76, _ => exact mco_76
  | 77, _ => exact mco_77
  | 78, _ => exact mco_78
  | 79, _ => exact mco_79
  | 80, _ => exact mco_80
  | 81, _ => exact mco_81
  | 82, _ => exact mco_82
  | 83, _ => exact mco_83
  | 84, _ => exact mco_84
  | 85, _ => exact mco_85
  | 86, _ => exact mco_86
  | 87, _ => exact mco_87
  | 88, _ => exact mco_88
  | 89, _ => exact mco_89
  | 90, _ => exact mco_90
  | 91, _ => exact mco_91
  | 92, _ => exact mco_92
  | 93, _ => exact mco_93
  | 94, _ => exact mco_94
  | 95, _ => exact mco_95
  | 96, _ => exact mco_96
  | 97, _ => exact mco_97
  | 98, _ => exact mco_98
  | 99, _ => exact mco_99
  | 100, _ => exact mco_100
  | 101, _ => exact mco_101
  | 102, _ => exact mco_102
  | 103, _ => exact mco_103
  | 104, _ => exact mco_104
  | 105, _ => exact mco_105
  | 106, _ => exact mco_106
  | 107, _ => exact mco_107
  | 108, _ => exact mco_108
  | 109, _ => exact mco_109
  | 110, _ => exact mco_110
  | 111, _ => exact mco_111
  | 112, _ => exact mco_112
  | 113, _ => exact mco_113
  | 114, _ => exact mco_114
  | 115, _ => exact mco_115
  | 116, _ => exact mco_116
  | 117, _ => exact mco_117
  | 118, _ => exact mco_118
  | 119, _ => exact mco_119
  | 120, _ => exact mco_120
  | 121, _ => exact mco_121
  | 122, _ => exact mco_122
  | 123, _ => exact mco_123
  | 124, _ => exact mco_124
  | 125, _ => exact mco_125
  | 126, _ => exact mco_126
  | 127, _ => exact mco_127
  | 128, _ => exact mco_128
  | 129, _ => exact mco_129
  | 130, _ => exact mco_130
  | 131, _ => exact mco_131
  | 132, _ => exact mco_132
  | 133, _ => exact mco_133
  | 134, _ => exact mco_134
  | 135, _ => exact mco_135
  | 136, _ => exact mco_136
  | 137, _ => exact mco_137
  | 138, _ => exact mco_138
  | 139, _ => exact mco_139
  | 140, _ => exact mco_140
  | 141, _ => exact mco_141
  | 142, _ => exact mco_142
  | 143, _ => exact mco_143
  | 144, _ => exact mco_144
  | 145, _ => exact mco_145
  | 146, _ => exact mco_146
  | 147, _ => exact mco_147
  | 148, _ => exact mco_148
  | 149, _ => exact mco_149
  | 150, _ => exact mco_150
  | 151, _ => exact mco_151
  | 152, _ => exact mco_152
  | 153, _ => exact mco_153
  | 154, _ => exact mco_154
  | 155, _ => exact mco_155
  | 156, _ => exact mco_156
  | 157, _ => exact mco_157
  | 158, _ => exact mco_158
  | 159, _ => exact mco_159
  | 160, _ => exact mco_160
  | 161, _ => exact mco_161
  | 162, _ => exact mco_162
  | 163, _ => exact mco_163
  | 164, _ => exact mco_164
  | 165, _ => exact mco_165
  | 166, _ => exact mco_166
  | 167, _ => exact mco_167
  | 168, _ => exact mco_168
  | 169, _ => exact mco_169
  | 170, _ => exact mco_170
  | 171, _ => exact mco_171
  | 172, _ => exact mco_172
  | 173, _ => exact mco_173
  | 174, _ => exact mco_174
  | 175, _ => exact mco_175
  | 176, _ => exact mco_176
  | 177, _ => exact mco_177
  | 178, _ => exact mco_178
  | 179, _ => exact mco_179
  | 180, _ => exact mco_180
  | 181, _ => exact mco_181
  | 182, _ => exact mco_182
  | 183, _ => exact mco_183
  | 184, _ => exact mco_184
  | 185, _ => exact mco_185
  | 186, _ => exact mco_186
  | 187, _ => exact mco_187
  | 188, _ => exact mco_188
  | 189, _ => exact mco_189
  | 190, _ => exact mco_190
  | 191, _ => exact mco_191
  | 192, _ => exact mco_192
  | 193, _ => exact mco_193
  | 194, _ => exact mco_194
  | 195, _ => exact mco_195
  | 196, _ => exact mco_196
  | 197, _ => exact mco_197
  | 198, _ => exact mco_198
  | 199, _ => exact mco_199
  | 200, _ => exact mco_200
  | 201, _ => exact mco_201
  | 202, _ => exact mco_202
  | 203, _ => exact mco_203
  | 204, _ => exact mco_204
  | 205, _ => exact mco_205
  | 206, _ => exact mco_206
  | 207, _ => exact mco_207
  | 208, _ => exact mco_208
  | 209, _ => exact mco_209
  | 210, _ => exact mco_210
  | 211, _ => exact mco_211
  | 212, _ => exact mco_212
  | 213, _ => exact mco_213
  | 214, _ => exact mco_214
  | 215, _ => exact mco_215
  | 216, _ => exact mco_216
  | 217, _ => exact mco_217
  | 218, _ => exact mco_218
  | 219, _ => exact mco_219
  | 220, _ => exact mco_220
  | 221, _ => exact mco_221
  | 222, _ => exact mco_222
  | 223, _ => exact mco_223
  | 224, _ => exact mco_224
  | 225, _ => exact mco_225
  | 226, _ => exact mco_226
  | 227, _ => exact mco_227
  | 228, _ => exact mco_228
  | 229, _ => exact mco_229
  | 230, _ => exact mco_230
  | 231, _ => exact mco_231
  | 232, _ => exact mco_232
  | 233, _ => exact mco_233
  | 234, _ => exact mco_234
  | 235, _ => exact mco_235
  | 236, _ => exact mco_236
  | 237, _ => exact mco_237
  | 238, _ => exact mco_238
  | 239, _ => exact mco_239
  | 240, _ => exact mco_240
  | 241, _ => exact mco_241
  | 242, _ => exact mco_242
  | 243, _ => exact mco_243
  | 244, _ => exact mco_244
  | 245, _ => exact mco_245
  | 246, _ => exact mco_246
  | 247, _ => exact mco_247
  | 248, _ => exact mco_248
  | 249, _ => exact mco_249
  | 250, _ => exact mco_250
  | 251, _ => exact mco_251
  | 252, _ => exact mco_252
  | 253, _ => exact mco_253
  | 254, _ => exact mco_254
  | 255, _ => exact mco_255
  | 256, _ => exact mco_256
  | 257, _ => exact mco_257
  | 258, _ => exact mco_258
  | 259, _ => exact mco_259
  | 260, _ => exact mco_260
  | 261, _ => exact mco_261
  | 262, _ => exact mco_262
  | 263, _ => exact mco_263
  | 264, _ => exact mco_264
  | 265, _ => exact mco_265
  | 266, _ => exact mco_266
  | 267, _ => exact mco_267
  | 268, _ => exact mco_268
  | 269, _ => exact mco_269
  | 270, _ => exact mco_270
  | 271, _ => exact mco_271
  | 272, _ => exact mco_272
  | 273, _ => exact mco_273
  | 274, _ => exact mco_274
  | 275, _ => exact mco_275
  | 276, _ => exact mco_276
  | 277, _ => exact mco_277
  | 278, _ => exact mco_278
  | 279, _ => exact mco_279
  | 280, _ => exact mco_280
  | 281, _ => exact mco_281
  | 282, _ => exact mco_282
  | 283, _ => exact mco_283
  | n + 284, h => exact absurd h (by omega)
theorem mk_in : pIn.map (fun i => lw_tbl[i]?) = (List.range 284).map (fun k => some (Cond.initialized (mY k).cls)) := by decide +kernel
theorem mk_me : pMe.map (fun i => lw_tbl[i]?) = (List.range 284).map (fun k => some (if mK k = 0 then Cond.static (mY k) else Cond.instanceMethod (mY k))) := by decide +kernel
theorem mk_se : (List.range 284).all (fun k => if mK k = 1 then decide (lw_tbl[pSe.getD k 0]? = some (Cond.selects (mY k).cls (mY k) (mY k))) else true) = true := by decide +kernel
theorem mk_fa : (List.range 284).all (fun k => decide ((mY k).cls ≠ "java/lang/invoke/MethodHandle") && (decide ((mY k).cls ≠ "java/lang/invoke/VarHandle") && (decide (decide (mK k = 2) = decide ((mY k).name = "<init>")) && (decide (cN (mO k) = (mY k).cls) && decide (mO k < 15))))) = true := by decide +kernel
theorem pn_0 : plainName "QuotaParish$Annals" = true := by decide
theorem pn_1 : plainName "QuotaParish$Bonds" = true := by decide
theorem pn_2 : plainName "QuotaParish$Buying" = true := by decide
theorem pn_3 : plainName "QuotaParish$Course" = true := by decide
theorem pn_4 : plainName "QuotaParish$Fitting" = true := by decide
theorem pn_5 : plainName "QuotaParish$Levy" = true := by decide
theorem pn_6 : plainName "QuotaParish$Outlook" = true := by decide
theorem pn_7 : plainName "QuotaParish$Pairs" = true := by decide
theorem pn_8 : plainName "QuotaParish$Parish" = true := by decide
theorem pn_9 : plainName "QuotaParish$Reader" = true := by decide
theorem pn_10 : plainName "QuotaParish$Told" = true := by decide
theorem pn_11 : plainName "QuotaParish" = true := by decide
theorem pn_12 : plainName "QuotaParishModel" = true := by decide
theorem pn_13 : plainName "java/lang/Integer" = true := by decide
theorem pn_14 : plainName "QuotaParishLaw" = true := by decide
theorem pn_all : ∀ o, o < 15 → plainName (cN o) = true := by
  intro o ho
  match o, ho with
  | 0, _ => exact pn_0
  | 1, _ => exact pn_1
  | 2, _ => exact pn_2
  | 3, _ => exact pn_3
  | 4, _ => exact pn_4
  | 5, _ => exact pn_5
  | 6, _ => exact pn_6
  | 7, _ => exact pn_7
  | 8, _ => exact pn_8
  | 9, _ => exact pn_9
  | 10, _ => exact pn_10
  | 11, _ => exact pn_11
  | 12, _ => exact pn_12
  | 13, _ => exact pn_13
  | 14, _ => exact pn_14
  | n + 15, h => exact absurd h (by omega)
theorem uw_0 : ([471, 473, 475, 477, 479, 481, 483] : List Nat).map (fun i => lw_tbl[i]?) = (u_ws (vC 0).1 (vC 0).2.1 (vC 0).2.2).map some := by decide +kernel
theorem uwg_0 : (u_ws (vC 0).1 (vC 0).2.1 (vC 0).2.2).all gdW = true := by decide +kernel
theorem uw_1 : ([424, 426, 428, 430, 432, 434, 436, 438] : List Nat).map (fun i => lw_tbl[i]?) = (u_ws (vC 1).1 (vC 1).2.1 (vC 1).2.2).map some := by decide +kernel
theorem uwg_1 : (u_ws (vC 1).1 (vC 1).2.1 (vC 1).2.2).all gdW = true := by decide +kernel
theorem uw_2 : ([384, 386, 388, 390, 392, 394, 396, 398, 400, 402] : List Nat).map (fun i => lw_tbl[i]?) = (u_ws (vC 2).1 (vC 2).2.1 (vC 2).2.2).map some := by decide +kernel
theorem uwg_2 : (u_ws (vC 2).1 (vC 2).2.1 (vC 2).2.2).all gdW = true := by decide +kernel
theorem uw_3 : ([501, 503, 505, 507, 509, 511] : List Nat).map (fun i => lw_tbl[i]?) = (u_ws (vC 3).1 (vC 3).2.1 (vC 3).2.2).map some := by decide +kernel
theorem uwg_3 : (u_ws (vC 3).1 (vC 3).2.1 (vC 3).2.2).all gdW = true := by decide +kernel
theorem uw_4 : ([350, 352, 354] : List Nat).map (fun i => lw_tbl[i]?) = (u_ws (vC 4).1 (vC 4).2.1 (vC 4).2.2).map some := by decide +kernel
theorem uwg_4 : (u_ws (vC 4).1 (vC 4).2.1 (vC 4).2.2).all gdW = true := by decide +kernel
theorem uw_5 : ([449, 451] : List Nat).map (fun i => lw_tbl[i]?) = (u_ws (vC 5).1 (vC 5).2.1 (vC 5).2.2).map some := by decide +kernel
theorem uwg_5 : (u_ws (vC 5).1 (vC 5).2.1 (vC 5).2.2).all gdW = true := by decide +kernel
theorem uw_6 : ([237, 239, 241] : List Nat).map (fun i => lw_tbl[i]?) = (u_ws (vC 6).1 (vC 6).2.1 (vC 6).2.2).map some := by decide +kernel
theorem uwg_6 : (u_ws (vC 6).1 (vC 6).2.1 (vC 6).2.2).all gdW = true := by decide +kernel
theorem uw_7 : ([197, 199, 201, 203, 205, 207, 209, 211, 213, 215, 217] : List Nat).map (fun i => lw_tbl[i]?) = (u_ws (vC 7).1 (vC 7).2.1 (vC 7).2.2).map some := by decide +kernel
theorem uwg_7 : (u_ws (vC 7).1 (vC 7).2.1 (vC 7).2.2).all gdW = true := by decide +kernel
theorem uw_8 : ([305, 307, 309, 311, 313, 315, 317, 319, 321, 323, 325, 327] : List Nat).map (fun i => lw_tbl[i]?) = (u_ws (vC 8).1 (vC 8).2.1 (vC 8).2.2).map some := by decide +kernel
theorem uwg_8 : (u_ws (vC 8).1 (vC 8).2.1 (vC 8).2.2).all gdW = true := by decide +kernel
theorem uw_9 : ([260, 262, 264, 266, 268, 270, 272, 274] : List Nat).map (fun i => lw_tbl[i]?) = (u_ws (vC 9).1 (vC 9).2.1 (vC 9).2.2).map some := by decide +kernel
theorem uwg_9 : (u_ws (vC 9).1 (vC 9).2.1 (vC 9).2.2).all gdW = true := by decide +kernel
theorem uw_10 : ([524, 526, 528, 530, 532, 534, 536, 538, 540] : List Nat).map (fun i => lw_tbl[i]?) = (u_ws (vC 10).1 (vC 10).2.1 (vC 10).2.2).map some := by decide +kernel
theorem uwg_10 : (u_ws (vC 10).1 (vC 10).2.1 (vC 10).2.2).all gdW = true := by decide +kernel
theorem uw_11 : ([1311, 1313, 1315, 1317, 1319, 1321, 1323, 1325, 1327, 1329, 1331, 1333, 1335, 1337, 1339, 1341, 1343, 1345, 1347, 1349, 1351, 1353, 1355, 1357, 1359, 1361, 1363, 1365, 1367, 1369, 1371, 1373, 1375, 1377, 1379, 1381, 1383, 1385, 1387, 1389, 1391, 1393, 1395, 1397, 1399, 1401, 1403] : List Nat).map (fun i => lw_tbl[i]?) = (u_ws (vC 11).1 (vC 11).2.1 (vC 11).2.2).map some := by decide +kernel
theorem uwg_11 : (u_ws (vC 11).1 (vC 11).2.1 (vC 11).2.2).all gdW = true := by decide +kernel
theorem uw_of {ps : List Nat} {ws : List Cond} (h : ps.map (fun i => lw_tbl[i]?) = ws.map some) (g : ws.all gdW = true) : ∀ w ∈ ws, w ∈ TB := by
  intro w hw
  have h1 : some w ∈ ws.map some := List.mem_map.mpr ⟨w, hw, rfl⟩
  rw [← h] at h1
  obtain ⟨i, -, hi⟩ := List.mem_map.mp h1
  exact TB_at i hi (List.all_eq_true.mp g w hw)
theorem uw_all : ∀ ci, ci < 12 → ∀ w ∈ u_ws (vC ci).1 (vC ci).2.1 (vC ci).2.2, w ∈ TB := by
  intro ci h
  match ci, h with
  | 0, _ => exact uw_of uw_0 uwg_0
  | 1, _ => exact uw_of uw_1 uwg_1
  | 2, _ => exact uw_of uw_2 uwg_2
  | 3, _ => exact uw_of uw_3 uwg_3
  | 4, _ => exact uw_of uw_4 uwg_4
  | 5, _ => exact uw_of uw_5 uwg_5
  | 6, _ => exact uw_of uw_6 uwg_6
  | 7, _ => exact uw_of uw_7 uwg_7
  | 8, _ => exact uw_of uw_8 uwg_8
  | 9, _ => exact uw_of uw_9 uwg_9
  | 10, _ => exact uw_of uw_10 uwg_10
  | 11, _ => exact uw_of uw_11 uwg_11
  | n + 12, h => exact absurd h (by omega)
def tyA (ci : Nat) : Nat → FieldType := [tyX0, tyX2, tyX3, tyX4, tyX5, tyX6, tyX7, tyX8, tyX9, tyX10, tyX11, tyX12].getD ci tyX0
theorem ty_all : ∀ ci, ci < 12 → ∀ k, k < (vC ci).2.2 → parseFieldDescriptor ((vC ci).2.1 k).2.2.1 = some (tyA ci k) := by
  intro ci h
  match ci, h with
  | 0, _ => exact tyX0_ok
  | 1, _ => exact tyX2_ok
  | 2, _ => exact tyX3_ok
  | 3, _ => exact tyX4_ok
  | 4, _ => exact tyX5_ok
  | 5, _ => exact tyX6_ok
  | 6, _ => exact tyX7_ok
  | 7, _ => exact tyX8_ok
  | 8, _ => exact tyX9_ok
  | 9, _ => exact tyX10_ok
  | 10, _ => exact tyX11_ok
  | 11, _ => exact tyX12_ok
  | n + 12, h => exact absurd h (by omega)
theorem nm_all : ∀ ci, ci < 12 → ∀ a, a < (vC ci).2.2 → ∀ b, b < (vC ci).2.2 → a ≠ b → ((vC ci).2.1 a).2.1 ≠ ((vC ci).2.1 b).2.1 := by
  intro ci h
  match ci, h with
  | 0, _ => exact nmX0
  | 1, _ => exact nmX2
  | 2, _ => exact nmX3
  | 3, _ => exact nmX4
  | 4, _ => exact nmX5
  | 5, _ => exact nmX6
  | 6, _ => exact nmX7
  | 7, _ => exact nmX8
  | 8, _ => exact nmX9
  | 9, _ => exact nmX10
  | 10, _ => exact nmX11
  | 11, _ => exact nmX12
  | n + 12, h => exact absurd h (by omega)
theorem vC_at : ∀ ci, ci < 12 → vwCl[ci]? = some (vC ci) := by
  intro ci h
  match ci, h with
  | 0, _ => rfl
  | 1, _ => rfl
  | 2, _ => rfl
  | 3, _ => rfl
  | 4, _ => rfl
  | 5, _ => rfl
  | 6, _ => rfl
  | 7, _ => rfl
  | 8, _ => rfl
  | 9, _ => rfl
  | 10, _ => rfl
  | 11, _ => rfl
  | n + 12, h => exact absurd h (by omega)
theorem cl_in : ([455, 406, 332, 487, 340, 442, 221, 145, 279, 136, 128, 1259] : List Nat).map (fun i => lw_tbl[i]?) = (List.range 12).map (fun ci => some (Cond.instantiable (vC ci).1 (vC ci).2.2)) := by decide +kernel
theorem cl_it : ([116, 114, 112, 117, 113, 115, 110, 109, 111, 108, 107, 118] : List Nat).map (fun i => lw_tbl[i]?) = (List.range 12).map (fun ci => some (Cond.initialized (vC ci).1)) := by decide +kernel
end
section
/-! CHECKS of the entries, method by method (printed by wip/whole/emit_checks.py) -/
theorem ck_0 : chkS (mt 0) lks_0 cd_0 0 cd_0 = true := by decide +kernel
theorem ck_1 : chkS (mt 1) lks_0 cd_1 0 cd_1 = true := by decide +kernel
theorem ck_2 : chkS (mt 2) lks_0 cd_2 0 cd_2 = true := by decide +kernel
theorem ck_3 : chkS (mt 3) lks_0 cd_3 0 cd_3 = true := by decide +kernel
theorem ck_4 : chkS (mt 4) lks_1 cd_4 0 cd_4 = true := by decide +kernel
theorem ck_5 : chkS (mt 5) lks_1 cd_5 0 cd_5 = true := by decide +kernel
theorem ck_6 : chkS (mt 6) lks_1 cd_6 0 cd_6 = true := by decide +kernel
theorem ck_7 : chkS (mt 7) lks_1 cd_7 0 cd_7 = true := by decide +kernel
theorem ck_8 : chkS (mt 8) lks_1 cd_8 0 cd_8 = true := by decide +kernel
theorem ck_9 : chkS (mt 9) lks_1 cd_9 0 cd_9 = true := by decide +kernel
theorem ck_10 : chkS (mt 10) lks_1 cd_10 0 cd_10 = true := by decide +kernel
theorem ck_11 : chkS (mt 11) lks_1 cd_11 0 cd_11 = true := by decide +kernel
theorem ck_12 : chkS (mt 12) lks_1 cd_12 0 cd_12 = true := by decide +kernel
theorem ck_13 : chkS (mt 13) lks_1 cd_13 0 cd_13 = true := by decide +kernel
theorem ck_14 : chkS (mt 14) lks_1 cd_14 0 cd_14 = true := by decide +kernel
theorem ck_15 : chkS (mt 15) lks_1 cd_15 0 cd_15 = true := by decide +kernel
theorem ck_16 : chkS (mt 16) lks_1 cd_16 0 cd_16 = true := by decide +kernel
theorem ck_17 : chkS (mt 17) lks_2 cd_17 0 cd_17 = true := by decide +kernel
theorem ck_18 : chkS (mt 18) lks_2 cd_18 0 cd_18 = true := by decide +kernel
theorem ck_19 : chkS (mt 19) lks_2 cd_19 0 cd_19 = true := by decide +kernel
theorem ck_20 : chkS (mt 20) lks_2 cd_20 0 cd_20 = true := by decide +kernel
theorem ck_21 : chkS (mt 21) lks_2 cd_21 0 cd_21 = true := by decide +kernel
theorem ck_22 : chkS (mt 22) lks_2 cd_22 0 cd_22 = true := by decide +kernel
theorem ck_23 : chkS (mt 23) lks_2 cd_23 0 cd_23 = true := by decide +kernel
theorem ck_24 : chkS (mt 24) lks_2 cd_24 0 cd_24 = true := by decide +kernel
theorem ck_25 : chkS (mt 25) lks_2 cd_25 0 cd_25 = true := by decide +kernel
theorem ck_26 : chkS (mt 26) lks_2 cd_26 0 cd_26 = true := by decide +kernel
theorem ck_27 : chkS (mt 27) lks_2 cd_27 0 cd_27 = true := by decide +kernel
theorem ck_28 : chkS (mt 28) lks_3 cd_28 0 cd_28 = true := by decide +kernel
theorem ck_29 : chkS (mt 29) lks_3 cd_29 0 cd_29 = true := by decide +kernel
theorem ck_30 : chkS (mt 30) lks_3 cd_30 0 cd_30 = true := by decide +kernel
theorem ck_31 : chkS (mt 31) lks_3 cd_31 0 cd_31 = true := by decide +kernel
theorem ck_32 : chkS (mt 32) lks_3 cd_32 0 cd_32 = true := by decide +kernel
theorem ck_33 : chkS (mt 33) lks_3 cd_33 0 cd_33 = true := by decide +kernel
theorem ck_34 : chkS (mt 34) lks_3 cd_34 0 cd_34 = true := by decide +kernel
theorem ck_35 : chkS (mt 35) lks_3 cd_35 0 cd_35 = true := by decide +kernel
theorem ck_36 : chkS (mt 36) lks_3 cd_36 0 cd_36 = true := by decide +kernel
theorem ck_37 : chkS (mt 37) lks_3 cd_37 0 cd_37 = true := by decide +kernel
theorem ck_38 : chkS (mt 38) lks_3 cd_38 0 cd_38 = true := by decide +kernel
theorem ck_39 : chkS (mt 39) lks_3 cd_39 0 cd_39 = true := by decide +kernel
theorem ck_40 : chkS (mt 40) lks_3 cd_40 0 cd_40 = true := by decide +kernel
theorem ck_41 : chkS (mt 41) lks_4 cd_41 0 cd_41 = true := by decide +kernel
theorem ck_42 : chkS (mt 42) lks_4 cd_42 0 cd_42 = true := by decide +kernel
theorem ck_43 : chkS (mt 43) lks_4 cd_43 0 cd_43 = true := by decide +kernel
theorem ck_44 : chkS (mt 44) lks_4 cd_44 0 cd_44 = true := by decide +kernel
theorem ck_45 : chkS (mt 45) lks_4 cd_45 0 cd_45 = true := by decide +kernel
theorem ck_46 : chkS (mt 46) lks_4 cd_46 0 cd_46 = true := by decide +kernel
theorem ck_47 : chkS (mt 47) lks_4 cd_47 0 cd_47 = true := by decide +kernel
theorem ck_48 : chkS (mt 48) lks_4 cd_48 0 cd_48 = true := by decide +kernel
theorem ck_49 : chkS (mt 49) lks_4 cd_49 0 cd_49 = true := by decide +kernel
theorem ck_50 : chkS (mt 50) lks_4 cd_50 0 cd_50 = true := by decide +kernel
theorem ck_51 : chkS (mt 51) lks_4 cd_51 0 cd_51 = true := by decide +kernel
theorem ck_52 : chkS (mt 52) lks_4 cd_52 0 cd_52 = true := by decide +kernel
theorem ck_53 : chkS (mt 53) lks_5 cd_53 0 cd_53 = true := by decide +kernel
theorem ck_54 : chkS (mt 54) lks_5 cd_54 0 cd_54 = true := by decide +kernel
theorem ck_55 : chkS (mt 55) lks_5 cd_55 0 cd_55 = true := by decide +kernel
theorem ck_56 : chkS (mt 56) lks_5 cd_56 0 cd_56 = true := by decide +kernel
theorem ck_57 : chkS (mt 57) lks_6 cd_57 0 cd_57 = true := by decide +kernel
theorem ck_58 : chkS (mt 58) lks_6 cd_58 0 cd_58 = true := by decide +kernel
theorem ck_59 : chkS (mt 59) lks_6 cd_59 0 cd_59 = true := by decide +kernel
theorem ck_60 : chkS (mt 60) lks_6 cd_60 0 cd_60 = true := by decide +kernel
theorem ck_61 : chkS (mt 61) lks_6 cd_61 0 cd_61 = true := by decide +kernel
theorem ck_62 : chkS (mt 62) lks_6 cd_62 0 cd_62 = true := by decide +kernel
theorem ck_63 : chkS (mt 63) lks_6 cd_63 0 cd_63 = true := by decide +kernel
theorem ck_64 : chkS (mt 64) lks_6 cd_64 0 cd_64 = true := by decide +kernel
theorem ck_65 : chkS (mt 65) lks_6 cd_65 0 cd_65 = true := by decide +kernel
theorem ck_66 : chkS (mt 66) lks_6 cd_66 0 cd_66 = true := by decide +kernel
theorem ck_67 : chkS (mt 67) lks_6 cd_67 0 cd_67 = true := by decide +kernel
theorem ck_68 : chkS (mt 68) lks_6 cd_68 0 cd_68 = true := by decide +kernel
theorem ck_69 : chkS (mt 69) lks_6 cd_69 0 cd_69 = true := by decide +kernel
theorem ck_70 : chkS (mt 70) lks_6 cd_70 0 cd_70 = true := by decide +kernel
theorem ck_71 : chkS (mt 71) lks_6 cd_71 0 cd_71 = true := by decide +kernel
theorem ck_72 : chkS (mt 72) lks_7 cd_72 0 cd_72 = true := by decide +kernel
theorem ck_73 : chkS (mt 73) lks_7 cd_73 0 cd_73 = true := by decide +kernel
theorem ck_74 : chkS (mt 74) lks_7 cd_74 0 cd_74 = true := by decide +kernel
theorem ck_75 : chkS (mt 75) lks_7 cd_75 0 cd_75 = true := by decide +kernel
theorem ck_76 : chkS (mt 76) lks_7 cd_76 0 cd_76 = true := by decide +kernel
theorem ck_77 : chkS (mt 77) lks_8 cd_77 0 cd_77 = true := by decide +kernel
theorem ck_78 : chkS (mt 78) lks_8 cd_78 0 cd_78 = true := by decide +kernel
theorem ck_79 : chkS (mt 79) lks_8 cd_79 0 cd_79 = true := by decide +kernel
theorem ck_80 : chkS (mt 80) lks_8 cd_80 0 cd_80 = true := by decide +kernel
end
section
/-! CHECKS of the entries, method by method (printed by wip/whole/emit_checks.py) -/
theorem ck_81 : chkS (mt 81) lks_8 cd_81 0 cd_81 = true := by decide +kernel
theorem ck_82 : chkS (mt 82) lks_8 cd_82 0 cd_82 = true := by decide +kernel
theorem ck_83 : chkS (mt 83) lks_8 cd_83 0 cd_83 = true := by decide +kernel
theorem ck_84 : chkS (mt 84) lks_8 cd_84 0 cd_84 = true := by decide +kernel
theorem ck_85 : chkS (mt 85) lks_8 cd_85 0 cd_85 = true := by decide +kernel
theorem ck_86 : chkS (mt 86) lks_8 cd_86 0 cd_86 = true := by decide +kernel
theorem ck_87 : chkS (mt 87) lks_8 cd_87 0 cd_87 = true := by decide +kernel
theorem ck_88 : chkS (mt 88) lks_8 cd_88 0 cd_88 = true := by decide +kernel
theorem ck_89 : chkS (mt 89) lks_8 cd_89 0 cd_89 = true := by decide +kernel
theorem ck_90 : chkS (mt 90) lks_8 cd_90 0 cd_90 = true := by decide +kernel
theorem ck_91 : chkS (mt 91) lks_9 cd_91 0 cd_91 = true := by decide +kernel
theorem ck_92 : chkS (mt 92) lks_9 cd_92 0 cd_92 = true := by decide +kernel
theorem ck_93 : chkS (mt 93) lks_9 cd_93 0 cd_93 = true := by decide +kernel
theorem ck_94 : chkS (mt 94) lks_9 cd_94 0 cd_94 = true := by decide +kernel
theorem ck_95 : chkS (mt 95) lks_9 cd_95 0 cd_95 = true := by decide +kernel
theorem ck_96 : chkS (mt 96) lks_9 cd_96 0 cd_96 = true := by decide +kernel
theorem ck_97 : chkS (mt 97) lks_9 cd_97 0 cd_97 = true := by decide +kernel
theorem ck_98 : chkS (mt 98) lks_9 cd_98 0 cd_98 = true := by decide +kernel
theorem ck_99 : chkS (mt 99) lks_9 cd_99 0 cd_99 = true := by decide +kernel
theorem ck_100 : chkS (mt 100) lks_9 cd_100 0 cd_100 = true := by decide +kernel
theorem ck_101 : chkS (mt 101) lks_9 cd_101 0 cd_101 = true := by decide +kernel
theorem ck_102 : chkS (mt 102) lks_9 cd_102 0 cd_102 = true := by decide +kernel
theorem ck_103 : chkS (mt 103) lks_9 cd_103 0 cd_103 = true := by decide +kernel
theorem ck_104 : chkS (mt 104) lks_9 cd_104 0 cd_104 = true := by decide +kernel
theorem ck_105 : chkS (mt 105) lks_9 cd_105 0 cd_105 = true := by decide +kernel
theorem ck_106 : chkS (mt 106) lks_9 cd_106 0 cd_106 = true := by decide +kernel
theorem ck_107 : chkS (mt 107) lks_9 cd_107 0 cd_107 = true := by decide +kernel
theorem ck_108 : chkS (mt 108) lks_9 cd_108 0 cd_108 = true := by decide +kernel
theorem ck_109 : chkS (mt 109) lks_9 cd_109 0 cd_109 = true := by decide +kernel
theorem ck_110 : chkS (mt 110) lks_9 cd_110 0 cd_110 = true := by decide +kernel
theorem ck_111 : chkS (mt 111) lks_10 cd_111 0 cd_111 = true := by decide +kernel
theorem ck_112 : chkS (mt 112) lks_10 cd_112 0 cd_112 = true := by decide +kernel
theorem ck_113 : chkS (mt 113) lks_10 cd_113 0 cd_113 = true := by decide +kernel
theorem ck_114 : chkS (mt 114) lks_10 cd_114 0 cd_114 = true := by decide +kernel
theorem ck_115 : chkS (mt 115) lks_10 cd_115 0 cd_115 = true := by decide +kernel
theorem ck_116 : chkS (mt 116) lks_10 cd_116 0 cd_116 = true := by decide +kernel
theorem ck_117 : chkS (mt 117) lks_10 cd_117 0 cd_117 = true := by decide +kernel
theorem ck_118 : chkS (mt 118) lks_10 cd_118 0 cd_118 = true := by decide +kernel
theorem ck_119 : chkS (mt 119) lks_11 cd_119 0 cd_119 = true := by decide +kernel
theorem ck_120 : chkS (mt 120) lks_11 cd_120 0 cd_120 = true := by decide +kernel
theorem ck_121 : chkS (mt 121) lks_11 cd_121 0 cd_121 = true := by decide +kernel
theorem ck_122 : chkS (mt 122) lks_11 cd_122 0 cd_122 = true := by decide +kernel
theorem ck_123 : chkS (mt 123) lks_11 cd_123 0 cd_123 = true := by decide +kernel
theorem ck_124 : chkS (mt 124) lks_11 cd_124 0 cd_124 = true := by decide +kernel
theorem ck_125 : chkS (mt 125) lks_11 cd_125 0 cd_125 = true := by decide +kernel
theorem ck_126 : chkS (mt 126) lks_11 cd_126 0 cd_126 = true := by decide +kernel
theorem ck_127 : chkS (mt 127) lks_11 cd_127 0 cd_127 = true := by decide +kernel
theorem ck_128 : chkS (mt 128) lks_11 cd_128 0 cd_128 = true := by decide +kernel
theorem ck_129 : chkS (mt 129) lks_11 cd_129 0 cd_129 = true := by decide +kernel
theorem ck_130 : chkS (mt 130) lks_11 cd_130 0 cd_130 = true := by decide +kernel
theorem ck_131 : chkS (mt 131) lks_11 cd_131 0 cd_131 = true := by decide +kernel
theorem ck_132 : chkS (mt 132) lks_11 cd_132 0 cd_132 = true := by decide +kernel
theorem ck_133 : chkS (mt 133) lks_11 cd_133 0 cd_133 = true := by decide +kernel
theorem ck_134 : chkS (mt 134) lks_11 cd_134 0 cd_134 = true := by decide +kernel
theorem ck_135 : chkS (mt 135) lks_11 cd_135 0 cd_135 = true := by decide +kernel
theorem ck_136 : chkS (mt 136) lks_11 cd_136 0 cd_136 = true := by decide +kernel
theorem ck_137 : chkS (mt 137) lks_11 cd_137 0 cd_137 = true := by decide +kernel
theorem ck_138 : chkS (mt 138) lks_11 cd_138 0 cd_138 = true := by decide +kernel
theorem ck_139 : chkS (mt 139) lks_11 cd_139 0 cd_139 = true := by decide +kernel
theorem ck_140 : chkS (mt 140) lks_11 cd_140 0 cd_140 = true := by decide +kernel
theorem ck_141 : chkS (mt 141) lks_11 cd_141 0 cd_141 = true := by decide +kernel
theorem ck_142 : chkS (mt 142) lks_11 cd_142 0 cd_142 = true := by decide +kernel
theorem ck_143 : chkS (mt 143) lks_11 cd_143 0 cd_143 = true := by decide +kernel
theorem ck_144 : chkS (mt 144) lks_11 cd_144 0 cd_144 = true := by decide +kernel
theorem ck_145 : chkS (mt 145) lks_11 cd_145 0 cd_145 = true := by decide +kernel
theorem ck_146 : chkS (mt 146) lks_11 cd_146 0 cd_146 = true := by decide +kernel
theorem ck_147 : chkS (mt 147) lks_11 cd_147 0 cd_147 = true := by decide +kernel
theorem ck_148 : chkS (mt 148) lks_11 cd_148 0 cd_148 = true := by decide +kernel
theorem ck_149 : chkS (mt 149) lks_11 cd_149 0 cd_149 = true := by decide +kernel
theorem ck_150 : chkS (mt 150) lks_11 cd_150 0 cd_150 = true := by decide +kernel
theorem ck_151 : chkS (mt 151) lks_11 cd_151 0 cd_151 = true := by decide +kernel
theorem ck_152 : chkS (mt 152) lks_11 cd_152 0 cd_152 = true := by decide +kernel
theorem ck_153 : chkS (mt 153) lks_11 cd_153 0 cd_153 = true := by decide +kernel
theorem ck_154 : chkS (mt 154) lks_11 cd_154 0 cd_154 = true := by decide +kernel
theorem ck_155 : chkS (mt 155) lks_11 cd_155 0 cd_155 = true := by decide +kernel
theorem ck_156 : chkS (mt 156) lks_11 cd_156 0 cd_156 = true := by decide +kernel
end
section
/-! CHECKS of the entries, method by method (printed by wip/whole/emit_checks.py) -/
theorem ck_157 : chkS (mt 157) lks_11 cd_157 0 cd_157 = true := by decide +kernel
theorem ck_158 : chkS (mt 158) lks_11 cd_158 0 cd_158 = true := by decide +kernel
theorem ck_159 : chkS (mt 159) lks_11 cd_159 0 cd_159 = true := by decide +kernel
theorem ck_160 : chkS (mt 160) lks_12 cd_160 0 cd_160 = true := by decide +kernel
theorem ck_161 : chkS (mt 161) lks_12 cd_161 0 cd_161 = true := by decide +kernel
theorem ck_162 : chkS (mt 162) lks_12 cd_162 0 cd_162 = true := by decide +kernel
theorem ck_163 : chkS (mt 163) lks_12 cd_163 0 cd_163 = true := by decide +kernel
theorem ck_164 : chkS (mt 164) lks_12 cd_164 0 cd_164 = true := by decide +kernel
theorem ck_165 : chkS (mt 165) lks_12 cd_165 0 cd_165 = true := by decide +kernel
theorem ck_166 : chkS (mt 166) lks_12 cd_166 0 cd_166 = true := by decide +kernel
theorem ck_167 : chkS (mt 167) lks_12 cd_167 0 cd_167 = true := by decide +kernel
theorem ck_168 : chkS (mt 168) lks_12 cd_168 0 cd_168 = true := by decide +kernel
theorem ck_169 : chkS (mt 169) lks_12 cd_169 0 cd_169 = true := by decide +kernel
theorem ck_170 : chkS (mt 170) lks_12 cd_170 0 cd_170 = true := by decide +kernel
theorem ck_171 : chkS (mt 171) lks_12 cd_171 0 cd_171 = true := by decide +kernel
theorem ck_172 : chkS (mt 172) lks_12 cd_172 0 cd_172 = true := by decide +kernel
theorem ck_173 : chkS (mt 173) lks_12 cd_173 0 cd_173 = true := by decide +kernel
theorem ck_174 : chkS (mt 174) lks_12 cd_174 0 cd_174 = true := by decide +kernel
theorem ck_175 : chkS (mt 175) lks_12 cd_175 0 cd_175 = true := by decide +kernel
theorem ck_176 : chkS (mt 176) lks_12 cd_176 0 cd_176 = true := by decide +kernel
theorem ck_177 : chkS (mt 177) lks_12 cd_177 0 cd_177 = true := by decide +kernel
theorem ck_178 : chkS (mt 178) lks_12 cd_178 0 cd_178 = true := by decide +kernel
theorem ck_179 : chkS (mt 179) lks_12 cd_179 0 cd_179 = true := by decide +kernel
theorem ck_180 : chkS (mt 180) lks_12 cd_180 0 cd_180 = true := by decide +kernel
theorem ck_181 : chkS (mt 181) lks_12 cd_181 0 cd_181 = true := by decide +kernel
theorem ck_182 : chkS (mt 182) lks_12 cd_182 0 cd_182 = true := by decide +kernel
theorem ck_183 : chkS (mt 183) lks_12 cd_183 0 cd_183 = true := by decide +kernel
theorem ck_184 : chkS (mt 184) lks_12 cd_184 0 cd_184 = true := by decide +kernel
theorem ck_185 : chkS (mt 185) lks_12 cd_185 0 cd_185 = true := by decide +kernel
theorem ck_186 : chkS (mt 186) lks_12 cd_186 0 cd_186 = true := by decide +kernel
theorem ck_187 : chkS (mt 187) lks_12 cd_187 0 cd_187 = true := by decide +kernel
theorem ck_188 : chkS (mt 188) lks_12 cd_188 0 cd_188 = true := by decide +kernel
theorem ck_189 : chkS (mt 189) lks_12 cd_189 0 cd_189 = true := by decide +kernel
theorem ck_190 : chkS (mt 190) lks_12 cd_190 0 cd_190 = true := by decide +kernel
theorem ck_191 : chkS (mt 191) lks_12 cd_191 0 cd_191 = true := by decide +kernel
theorem ck_192 : chkS (mt 192) lks_12 cd_192 0 cd_192 = true := by decide +kernel
theorem ck_193 : chkS (mt 193) lks_12 cd_193 0 cd_193 = true := by decide +kernel
theorem ck_194 : chkS (mt 194) lks_12 cd_194 0 cd_194 = true := by decide +kernel
theorem ck_195 : chkS (mt 195) lks_12 cd_195 0 cd_195 = true := by decide +kernel
theorem ck_196 : chkS (mt 196) lks_12 cd_196 0 cd_196 = true := by decide +kernel
theorem ck_197 : chkS (mt 197) lks_12 cd_197 0 cd_197 = true := by decide +kernel
theorem ck_198 : chkS (mt 198) lks_12 cd_198 0 cd_198 = true := by decide +kernel
theorem ck_199 : chkS (mt 199) lks_12 cd_199 0 cd_199 = true := by decide +kernel
theorem ck_200 : chkS (mt 200) lks_12 cd_200 0 cd_200 = true := by decide +kernel
theorem ck_201 : chkS (mt 201) lks_12 cd_201 0 cd_201 = true := by decide +kernel
theorem ck_202 : chkS (mt 202) lks_12 cd_202 0 cd_202 = true := by decide +kernel
theorem ck_203 : chkS (mt 203) lks_12 cd_203 0 cd_203 = true := by decide +kernel
theorem ck_204 : chkS (mt 204) lks_12 cd_204 0 cd_204 = true := by decide +kernel
theorem ck_205 : chkS (mt 205) lks_12 cd_205 0 cd_205 = true := by decide +kernel
theorem ck_206 : chkS (mt 206) lks_12 cd_206 0 cd_206 = true := by decide +kernel
theorem ck_207 : chkS (mt 207) lks_12 cd_207 0 cd_207 = true := by decide +kernel
theorem ck_208 : chkS (mt 208) lks_12 cd_208 0 cd_208 = true := by decide +kernel
theorem ck_209 : chkS (mt 209) lks_12 cd_209 0 cd_209 = true := by decide +kernel
theorem ck_210 : chkS (mt 210) lks_12 cd_210 0 cd_210 = true := by decide +kernel
theorem ck_211 : chkS (mt 211) lks_12 cd_211 0 cd_211 = true := by decide +kernel
theorem ck_212 : chkS (mt 212) lks_12 cd_212 0 cd_212 = true := by decide +kernel
theorem ck_213 : chkS (mt 213) lks_12 cd_213 0 cd_213 = true := by decide +kernel
theorem ck_214 : chkS (mt 214) lks_12 cd_214 0 cd_214 = true := by decide +kernel
theorem ck_215 : chkS (mt 215) lks_12 cd_215 0 cd_215 = true := by decide +kernel
theorem ck_216 : chkS (mt 216) lks_12 cd_216 0 cd_216 = true := by decide +kernel
theorem ck_217 : chkS (mt 217) lks_12 cd_217 0 cd_217 = true := by decide +kernel
theorem ck_218 : chkS (mt 218) lks_12 cd_218 0 cd_218 = true := by decide +kernel
theorem ck_219 : chkS (mt 219) lks_12 cd_219 0 cd_219 = true := by decide +kernel
theorem ck_220 : chkS (mt 220) lks_12 cd_220 0 cd_220 = true := by decide +kernel
end
section
/-! CHECKS of the entries, method by method (printed by wip/whole/emit_checks.py) -/
theorem ck_221 : chkS (mt 221) lks_12 cd_221 0 cd_221 = true := by decide +kernel
theorem ck_222 : chkS (mt 222) lks_12 cd_222 0 cd_222 = true := by decide +kernel
theorem ck_223 : chkS (mt 223) lks_12 cd_223 0 cd_223 = true := by decide +kernel
theorem ck_224 : chkS (mt 224) lks_12 cd_224 0 cd_224 = true := by decide +kernel
theorem ck_225 : chkS (mt 225) lks_12 cd_225 0 cd_225 = true := by decide +kernel
theorem ck_226 : chkS (mt 226) lks_12 cd_226 0 cd_226 = true := by decide +kernel
theorem ck_227 : chkS (mt 227) lks_12 cd_227 0 cd_227 = true := by decide +kernel
theorem ck_228 : chkS (mt 228) lks_12 cd_228 0 cd_228 = true := by decide +kernel
theorem ck_229 : chkS (mt 229) lks_12 cd_229 0 cd_229 = true := by decide +kernel
theorem ck_230 : chkS (mt 230) lks_12 cd_230 0 cd_230 = true := by decide +kernel
theorem ck_231 : chkS (mt 231) lks_12 cd_231 0 cd_231 = true := by decide +kernel
theorem ck_232 : chkS (mt 232) lks_12 cd_232 0 cd_232 = true := by decide +kernel
theorem ck_233 : chkS (mt 233) lks_12 cd_233 0 cd_233 = true := by decide +kernel
theorem ck_234 : chkS (mt 234) lks_12 cd_234 0 cd_234 = true := by decide +kernel
theorem ck_235 : chkS (mt 235) lks_12 cd_235 0 cd_235 = true := by decide +kernel
theorem ck_236 : chkS (mt 236) lks_12 cd_236 0 cd_236 = true := by decide +kernel
theorem ck_237 : chkS (mt 237) lks_12 cd_237 0 cd_237 = true := by decide +kernel
theorem ck_238 : chkS (mt 238) lks_12 cd_238 0 cd_238 = true := by decide +kernel
theorem ck_239 : chkS (mt 239) lks_12 cd_239 0 cd_239 = true := by decide +kernel
theorem ck_240 : chkS (mt 240) lks_12 cd_240 0 cd_240 = true := by decide +kernel
theorem ck_241 : chkS (mt 241) lks_12 cd_241 0 cd_241 = true := by decide +kernel
theorem ck_242 : chkS (mt 242) lks_12 cd_242 0 cd_242 = true := by decide +kernel
theorem ck_243 : chkS (mt 243) lks_12 cd_243 0 cd_243 = true := by decide +kernel
theorem ck_244 : chkS (mt 244) lks_12 cd_244 0 cd_244 = true := by decide +kernel
theorem ck_245 : chkS (mt 245) lks_12 cd_245 0 cd_245 = true := by decide +kernel
theorem ck_246 : chkS (mt 246) lks_12 cd_246 0 cd_246 = true := by decide +kernel
theorem ck_247 : chkS (mt 247) lks_12 cd_247 0 cd_247 = true := by decide +kernel
theorem ck_248 : chkS (mt 248) lks_12 cd_248 0 cd_248 = true := by decide +kernel
theorem ck_249 : chkS (mt 249) lks_12 cd_249 0 cd_249 = true := by decide +kernel
theorem ck_250 : chkS (mt 250) lks_12 cd_250 0 cd_250 = true := by decide +kernel
theorem ck_251 : chkS (mt 251) lks_12 cd_251 0 cd_251 = true := by decide +kernel
theorem ck_252 : chkS (mt 252) lks_12 cd_252 0 cd_252 = true := by decide +kernel
theorem ck_253 : chkS (mt 253) lks_12 cd_253 0 cd_253 = true := by decide +kernel
theorem ck_254 : chkS (mt 254) lks_12 cd_254 0 cd_254 = true := by decide +kernel
theorem ck_255 : chkS (mt 255) lks_12 cd_255 0 cd_255 = true := by decide +kernel
theorem ck_256 : chkS (mt 256) lks_12 cd_256 0 cd_256 = true := by decide +kernel
theorem ck_257 : chkS (mt 257) lks_12 cd_257 0 cd_257 = true := by decide +kernel
theorem ck_258 : chkS (mt 258) lks_12 cd_258 0 cd_258 = true := by decide +kernel
theorem ck_259 : chkS (mt 259) lks_12 cd_259 0 cd_259 = true := by decide +kernel
theorem ck_260 : chkS (mt 260) lks_12 cd_260 0 cd_260 = true := by decide +kernel
theorem ck_261 : chkS (mt 261) lks_12 cd_261 0 cd_261 = true := by decide +kernel
theorem ck_262 : chkS (mt 262) lks_12 cd_262 0 cd_262 = true := by decide +kernel
theorem ck_263 : chkS (mt 263) lks_12 cd_263 0 cd_263 = true := by decide +kernel
theorem ck_264 : chkS (mt 264) lks_12 cd_264 0 cd_264 = true := by decide +kernel
theorem ck_265 : chkS (mt 265) lks_12 cd_265 0 cd_265 = true := by decide +kernel
theorem ck_266 : chkS (mt 266) lks_12 cd_266 0 cd_266 = true := by decide +kernel
theorem ck_267 : chkS (mt 267) lks_12 cd_267 0 cd_267 = true := by decide +kernel
theorem ck_268 : chkS (mt 268) lks_12 cd_268 0 cd_268 = true := by decide +kernel
theorem ck_269 : chkS (mt 269) lks_12 cd_269 0 cd_269 = true := by decide +kernel
theorem ck_270 : chkS (mt 270) lks_12 cd_270 0 cd_270 = true := by decide +kernel
theorem ck_271 : chkS (mt 271) lks_12 cd_271 0 cd_271 = true := by decide +kernel
theorem ck_272 : chkS (mt 272) lks_12 cd_272 0 cd_272 = true := by decide +kernel
theorem ck_273 : chkS (mt 273) lks_12 cd_273 0 cd_273 = true := by decide +kernel
theorem ck_274 : chkS (mt 274) lks_12 cd_274 0 cd_274 = true := by decide +kernel
theorem ck_275 : chkS (mt 275) lks_12 cd_275 0 cd_275 = true := by decide +kernel
theorem ck_276 : chkS (mt 276) lks_12 cd_276 0 cd_276 = true := by decide +kernel
theorem ck_277 : chkS (mt 277) lks_12 cd_277 0 cd_277 = true := by decide +kernel
theorem ck_278 : chkS (mt 278) lks_12 cd_278 0 cd_278 = true := by decide +kernel
theorem ck_279 : chkS (mt 279) lks_12 cd_279 0 cd_279 = true := by decide +kernel
theorem ck_280 : chkS (mt 280) lks_12 cd_280 0 cd_280 = true := by decide +kernel
theorem ck_281 : chkS (mt 281) lks_12 cd_281 0 cd_281 = true := by decide +kernel
theorem ck_282 : chkS (mt 282) lks_12 cd_282 0 cd_282 = true := by decide +kernel
theorem ck_283 : chkS (mt 283) lks_13 cd_283 0 cd_283 = true := by decide +kernel
end
section
/-! CHECKS of the law's entries -/
theorem ckL_0_0 : chkS (mt 284) lks_14 cd_284 0 ((cd_284_0.drop 0).take 50) = true := by decide +kernel
theorem ckL_0_1 : chkS (mt 284) lks_14 cd_284 50 ((cd_284_0.drop 50).take 50) = true := by decide +kernel
theorem ckL_0_2 : chkS (mt 284) lks_14 cd_284 100 ((cd_284_0.drop 100).take 50) = true := by decide +kernel
theorem ckL_0_3 : chkS (mt 284) lks_14 cd_284 150 ((cd_284_0.drop 150).take 50) = true := by decide +kernel
theorem ckL_1_0 : chkS (mt 284) lks_14 cd_284 200 ((cd_284_1.drop 0).take 50) = true := by decide +kernel
theorem ckL_1_1 : chkS (mt 284) lks_14 cd_284 250 ((cd_284_1.drop 50).take 50) = true := by decide +kernel
theorem ckL_1_2 : chkS (mt 284) lks_14 cd_284 300 ((cd_284_1.drop 100).take 50) = true := by decide +kernel
theorem ckL_1_3 : chkS (mt 284) lks_14 cd_284 350 ((cd_284_1.drop 150).take 50) = true := by decide +kernel
theorem ckL_2_0 : chkS (mt 284) lks_14 cd_284 400 ((cd_284_2.drop 0).take 50) = true := by decide +kernel
theorem ckL_2_1 : chkS (mt 284) lks_14 cd_284 450 ((cd_284_2.drop 50).take 50) = true := by decide +kernel
theorem ckL_2_2 : chkS (mt 284) lks_14 cd_284 500 ((cd_284_2.drop 100).take 50) = true := by decide +kernel
theorem ckL_2_3 : chkS (mt 284) lks_14 cd_284 550 ((cd_284_2.drop 150).take 50) = true := by decide +kernel
theorem ckL_3_0 : chkS (mt 284) lks_14 cd_284 600 ((cd_284_3.drop 0).take 50) = true := by decide +kernel
end
section
/-! CHECKS of the law's entries -/
theorem ckL_3_1 : chkS (mt 284) lks_14 cd_284 650 ((cd_284_3.drop 50).take 50) = true := by decide +kernel
theorem ckL_3_2 : chkS (mt 284) lks_14 cd_284 700 ((cd_284_3.drop 100).take 50) = true := by decide +kernel
theorem ckL_3_3 : chkS (mt 284) lks_14 cd_284 750 ((cd_284_3.drop 150).take 50) = true := by decide +kernel
theorem ckL_4_0 : chkS (mt 284) lks_14 cd_284 800 ((cd_284_4.drop 0).take 50) = true := by decide +kernel
theorem ckL_4_1 : chkS (mt 284) lks_14 cd_284 850 ((cd_284_4.drop 50).take 50) = true := by decide +kernel
theorem ckL_4_2 : chkS (mt 284) lks_14 cd_284 900 ((cd_284_4.drop 100).take 50) = true := by decide +kernel
theorem ckL_4_3 : chkS (mt 284) lks_14 cd_284 950 ((cd_284_4.drop 150).take 50) = true := by decide +kernel
theorem ckL_5_0 : chkS (mt 284) lks_14 cd_284 1000 ((cd_284_5.drop 0).take 50) = true := by decide +kernel
theorem ckL_5_1 : chkS (mt 284) lks_14 cd_284 1050 ((cd_284_5.drop 50).take 50) = true := by decide +kernel
theorem ckL_5_2 : chkS (mt 284) lks_14 cd_284 1100 ((cd_284_5.drop 100).take 50) = true := by decide +kernel
theorem ckL_5_3 : chkS (mt 284) lks_14 cd_284 1150 ((cd_284_5.drop 150).take 50) = true := by decide +kernel
theorem ckL_6_0 : chkS (mt 284) lks_14 cd_284 1200 ((cd_284_6.drop 0).take 50) = true := by decide +kernel
theorem ckL_6_1 : chkS (mt 284) lks_14 cd_284 1250 ((cd_284_6.drop 50).take 50) = true := by decide +kernel
end
section
/-! ALL ENTRIES ARE CHECKED -/
theorem chk_td {t : MT} {lk : List (Nat × Nat × Nat × Nat)} {cdl l : List PEn} {n k : Nat} (hk : k ≤ l.length) (h1 : chkS t lk cdl n (l.take k) = true) (h2 : chkS t lk cdl (n + k) (l.drop k) = true) : chkS t lk cdl n l = true := by
  rw [← List.take_append_drop k l]
  refine chkS_app _ _ _ h1 ?_
  rw [List.length_take, Nat.min_eq_left hk]
  exact h2
theorem ckL_0 : chkS (mt 284) lks_14 cd_284 0 cd_284_0 = true := by
  refine chk_td (k := 50) (by decide +kernel) (by have := ckL_0_0; rwa [List.drop_zero] at this) ?_
  refine chk_td (k := 50) (by decide +kernel) ckL_0_1 ?_
  rw [List.drop_drop]
  refine chk_td (k := 50) (by decide +kernel) ckL_0_2 ?_
  rw [List.drop_drop]
  have h := ckL_0_3
  rw [List.take_of_length_le (by decide +kernel)] at h
  skip
  exact h
theorem ckL_1 : chkS (mt 284) lks_14 cd_284 200 cd_284_1 = true := by
  refine chk_td (k := 50) (by decide +kernel) (by have := ckL_1_0; rwa [List.drop_zero] at this) ?_
  refine chk_td (k := 50) (by decide +kernel) ckL_1_1 ?_
  rw [List.drop_drop]
  refine chk_td (k := 50) (by decide +kernel) ckL_1_2 ?_
  rw [List.drop_drop]
  have h := ckL_1_3
  rw [List.take_of_length_le (by decide +kernel)] at h
  skip
  exact h
theorem ckL_2 : chkS (mt 284) lks_14 cd_284 400 cd_284_2 = true := by
  refine chk_td (k := 50) (by decide +kernel) (by have := ckL_2_0; rwa [List.drop_zero] at this) ?_
  refine chk_td (k := 50) (by decide +kernel) ckL_2_1 ?_
  rw [List.drop_drop]
  refine chk_td (k := 50) (by decide +kernel) ckL_2_2 ?_
  rw [List.drop_drop]
  have h := ckL_2_3
  rw [List.take_of_length_le (by decide +kernel)] at h
  skip
  exact h
theorem ckL_3 : chkS (mt 284) lks_14 cd_284 600 cd_284_3 = true := by
  refine chk_td (k := 50) (by decide +kernel) (by have := ckL_3_0; rwa [List.drop_zero] at this) ?_
  refine chk_td (k := 50) (by decide +kernel) ckL_3_1 ?_
  rw [List.drop_drop]
  refine chk_td (k := 50) (by decide +kernel) ckL_3_2 ?_
  rw [List.drop_drop]
  have h := ckL_3_3
  rw [List.take_of_length_le (by decide +kernel)] at h
  skip
  exact h
theorem ckL_4 : chkS (mt 284) lks_14 cd_284 800 cd_284_4 = true := by
  refine chk_td (k := 50) (by decide +kernel) (by have := ckL_4_0; rwa [List.drop_zero] at this) ?_
  refine chk_td (k := 50) (by decide +kernel) ckL_4_1 ?_
  rw [List.drop_drop]
  refine chk_td (k := 50) (by decide +kernel) ckL_4_2 ?_
  rw [List.drop_drop]
  have h := ckL_4_3
  rw [List.take_of_length_le (by decide +kernel)] at h
  skip
  exact h
theorem ckL_5 : chkS (mt 284) lks_14 cd_284 1000 cd_284_5 = true := by
  refine chk_td (k := 50) (by decide +kernel) (by have := ckL_5_0; rwa [List.drop_zero] at this) ?_
  refine chk_td (k := 50) (by decide +kernel) ckL_5_1 ?_
  rw [List.drop_drop]
  refine chk_td (k := 50) (by decide +kernel) ckL_5_2 ?_
  rw [List.drop_drop]
  have h := ckL_5_3
  rw [List.take_of_length_le (by decide +kernel)] at h
  skip
  exact h
theorem ckL_6 : chkS (mt 284) lks_14 cd_284 1200 cd_284_6 = true := by
  refine chk_td (k := 50) (by decide +kernel) (by have := ckL_6_0; rwa [List.drop_zero] at this) ?_
  have h := ckL_6_1
  rw [List.take_of_length_le (by decide +kernel)] at h
  skip
  exact h
theorem ck_284 : chkS (mt 284) lks_14 cd_284 0 cd_284 = true := by
  show chkS _ _ _ 0 (cd_284_0 ++ (cd_284_1 ++ (cd_284_2 ++ (cd_284_3 ++ (cd_284_4 ++ (cd_284_5 ++ (cd_284_6))))))) = true
  refine chkS_app _ _ _ ckL_0 ?_
  rw [show 0 + cd_284_0.length = 200 by decide +kernel]
  refine chkS_app _ _ _ ckL_1 ?_
  rw [show 200 + cd_284_1.length = 400 by decide +kernel]
  refine chkS_app _ _ _ ckL_2 ?_
  rw [show 400 + cd_284_2.length = 600 by decide +kernel]
  refine chkS_app _ _ _ ckL_3 ?_
  rw [show 600 + cd_284_3.length = 800 by decide +kernel]
  refine chkS_app _ _ _ ckL_4 ?_
  rw [show 800 + cd_284_4.length = 1000 by decide +kernel]
  refine chkS_app _ _ _ ckL_5 ?_
  rw [show 1000 + cd_284_5.length = 1200 by decide +kernel]
  exact ckL_6
theorem ok_all : ∀ k, k < 285 → okM (mt k) (lks (mO k)) (cds k) := by
  intro k hk
  match k, hk with
  | 0, _ => exact okM_of ck_0
  | 1, _ => exact okM_of ck_1
  | 2, _ => exact okM_of ck_2
  | 3, _ => exact okM_of ck_3
  | 4, _ => exact okM_of ck_4
  | 5, _ => exact okM_of ck_5
  | 6, _ => exact okM_of ck_6
  | 7, _ => exact okM_of ck_7
  | 8, _ => exact okM_of ck_8
  | 9, _ => exact okM_of ck_9
  | 10, _ => exact okM_of ck_10
  | 11, _ => exact okM_of ck_11
  | 12, _ => exact okM_of ck_12
  | 13, _ => exact okM_of ck_13
  | 14, _ => exact okM_of ck_14
  | 15, _ => exact okM_of ck_15
  | 16, _ => exact okM_of ck_16
  | 17, _ => exact okM_of ck_17
  | 18, _ => exact okM_of ck_18
  | 19, _ => exact okM_of ck_19
  | 20, _ => exact okM_of ck_20
  | 21, _ => exact okM_of ck_21
  | 22, _ => exact okM_of ck_22
  | 23, _ => exact okM_of ck_23
  | 24, _ => exact okM_of ck_24
  | 25, _ => exact okM_of ck_25
  | 26, _ => exact okM_of ck_26
  | 27, _ => exact okM_of ck_27
  | 28, _ => exact okM_of ck_28
  | 29, _ => exact okM_of ck_29
  | 30, _ => exact okM_of ck_30
  | 31, _ => exact okM_of ck_31
  | 32, _ => exact okM_of ck_32
  | 33, _ => exact okM_of ck_33
  | 34, _ => exact okM_of ck_34
  | 35, _ => exact okM_of ck_35
  | 36, _ => exact okM_of ck_36
  | 37, _ => exact okM_of ck_37
  | 38, _ => exact okM_of ck_38
  | 39, _ => exact okM_of ck_39
  | 40, _ => exact okM_of ck_40
  | 41, _ => exact okM_of ck_41
  | 42, _ => exact okM_of ck_42
  | 43, _ => exact okM_of ck_43
  | 44, _ => exact okM_of ck_44
  | 45, _ => exact okM_of ck_45
  | 46, _ => exact okM_of ck_46
  | 47, _ => exact okM_of ck_47
  | 48, _ => exact okM_of ck_48
  | 49, _ => exact okM_of ck_49
  | 50, _ => exact okM_of ck_50
  | 51, _ => exact okM_of ck_51
  | 52, _ => exact okM_of ck_52
  | 53, _ => exact okM_of ck_53
  | 54, _ => exact okM_of ck_54
  | 55, _ => exact okM_of ck_55
  | 56, _ => exact okM_of ck_56
  | 57, _ => exact okM_of ck_57
  | 58, _ => exact okM_of ck_58
  | 59, _ => exact okM_of ck_59
  | 60, _ => exact okM_of ck_60
  | 61, _ => exact okM_of ck_61
  | 62, _ => exact okM_of ck_62
  | 63, _ => exact okM_of ck_63
  | 64, _ => exact okM_of ck_64
  | 65, _ => exact okM_of ck_65
  | 66, _ => exact okM_of ck_66
  | 67, _ => exact okM_of ck_67
  | 68, _ => exact okM_of ck_68
  | 69, _ => exact okM_of ck_69
  | 70, _ => exact okM_of ck_70
  | 71, _ => exact okM_of ck_71
  | 72, _ => exact okM_of ck_72
  | 73, _ => exact okM_of ck_73
  | 74, _ => exact okM_of ck_74
  | 75, _ => exact okM_of ck_75
  | 76, _ => exact okM_of ck_76
  | 77, _ => exact okM_of ck_77
  | 78, _ => exact okM_of ck_78
  | 79, _ => exact okM_of ck_79
  | 80, _ => exact okM_of ck_80
  | 81, _ => exact okM_of ck_81
  | 82, _ => exact okM_of ck_82
  | 83, _ => exact okM_of ck_83
  | 84, _ => exact okM_of ck_84
  | 85, _ => exact okM_of ck_85
  | 86, _ => exact okM_of ck_86
  | 87, _ => exact okM_of ck_87
  | 88, _ => exact okM_of ck_88
  | 89, _ => exact okM_of ck_89
  | 90, _ => exact okM_of ck_90
  | 91, _ => exact okM_of ck_91
  | 92, _ => exact okM_of ck_92
  | 93, _ => exact okM_of ck_93
  | 94, _ => exact okM_of ck_94
  | 95, _ => exact okM_of ck_95
  | 96, _ => exact okM_of ck_96
  | 97, _ => exact okM_of ck_97
  | 98, _ => exact okM_of ck_98
  | 99, _ => exact okM_of ck_99
  | 100, _ => exact okM_of ck_100
  | 101, _ => exact okM_of ck_101
  | 102, _ => exact okM_of ck_102
  | 103, _ => exact okM_of ck_103
  | 104, _ => exact okM_of ck_104
  | 105, _ => exact okM_of ck_105
  | 106, _ => exact okM_of ck_106
  | 107, _ => exact okM_of ck_107
  | 108, _ => exact okM_of ck_108
  | 109, _ => exact okM_of ck_109
  | 110, _ => exact okM_of ck_110
  | 111, _ => exact okM_of ck_111
  | 112, _ => exact okM_of ck_112
  | 113, _ => exact okM_of ck_113
  | 114, _ => exact okM_of ck_114
  | 115, _ => exact okM_of ck_115
  | 116, _ => exact okM_of ck_116
  | 117, _ => exact okM_of ck_117
  | 118, _ => exact okM_of ck_118
  | 119, _ => exact okM_of ck_119
  | 120, _ => exact okM_of ck_120
  | 121, _ => exact okM_of ck_121
  | 122, _ => exact okM_of ck_122
  | 123, _ => exact okM_of ck_123
  | 124, _ => exact okM_of ck_124
  | 125, _ => exact okM_of ck_125
  | 126, _ => exact okM_of ck_126
  | 127, _ => exact okM_of ck_127
  | 128, _ => exact okM_of ck_128
  | 129, _ => exact okM_of ck_129
  | 130, _ => exact okM_of ck_130
  | 131, _ => exact okM_of ck_131
  | 132, _ => exact okM_of ck_132
  | 133, _ => exact okM_of ck_133
  | 134, _ => exact okM_of ck_134
  | 135, _ => exact okM_of ck_135
  | 136, _ => exact okM_of ck_136
  | 137, _ => exact okM_of ck_137
  | 138, _ => exact okM_of ck_138
  | 139, _ => exact okM_of ck_139
  | 140, _ => exact okM_of ck_140
  | 141, _ => exact okM_of ck_141
  | 142, _ => exact okM_of ck_142
  | 143, _ => exact okM_of ck_143
  | 144, _ => exact okM_of ck_144
  | 145, _ => exact okM_of ck_145
  | 146, _ => exact okM_of ck_146
  | 147, _ => exact okM_of ck_147
  | 148, _ => exact okM_of ck_148
  | 149, _ => exact okM_of ck_149
  | 150, _ => exact okM_of ck_150
  | 151, _ => exact okM_of ck_151
  | 152, _ => exact okM_of ck_152
  | 153, _ => exact okM_of ck_153
  | 154, _ => exact okM_of ck_154
  | 155, _ => exact okM_of ck_155
  | 156, _ => exact okM_of ck_156
  | 157, _ => exact okM_of ck_157
  | 158, _ => exact okM_of ck_158
  | 159, _ => exact okM_of ck_159
  | 160, _ => exact okM_of ck_160
  | 161, _ => exact okM_of ck_161
  | 162, _ => exact okM_of ck_162
  | 163, _ => exact okM_of ck_163
  | 164, _ => exact okM_of ck_164
  | 165, _ => exact okM_of ck_165
  | 166, _ => exact okM_of ck_166
  | 167, _ => exact okM_of ck_167
  | 168, _ => exact okM_of ck_168
  | 169, _ => exact okM_of ck_169
  | 170, _ => exact okM_of ck_170
  | 171, _ => exact okM_of ck_171
  | 172, _ => exact okM_of ck_172
  | 173, _ => exact okM_of ck_173
  | 174, _ => exact okM_of ck_174
  | 175, _ => exact okM_of ck_175
  | 176, _ => exact okM_of ck_176
  | 177, _ => exact okM_of ck_177
  | 178, _ => exact okM_of ck_178
  | 179, _ => exact okM_of ck_179
  | 180, _ => exact okM_of ck_180
  | 181, _ => exact okM_of ck_181
  | 182, _ => exact okM_of ck_182
  | 183, _ => exact okM_of ck_183
  | 184, _ => exact okM_of ck_184
  | 185, _ => exact okM_of ck_185
  | 186, _ => exact okM_of ck_186
  | 187, _ => exact okM_of ck_187
  | 188, _ => exact okM_of ck_188
  | 189, _ => exact okM_of ck_189
  | 190, _ => exact okM_of ck_190
  | 191, _ => exact okM_of ck_191
  | 192, _ => exact okM_of ck_192
  | 193, _ => exact okM_of ck_193
  | 194, _ => exact okM_of ck_194
  | 195, _ => exact okM_of ck_195
  | 196, _ => exact okM_of ck_196
  | 197, _ => exact okM_of ck_197
  | 198, _ => exact okM_of ck_198
  | 199, _ => exact okM_of ck_199
  | 200, _ => exact okM_of ck_200
  | 201, _ => exact okM_of ck_201
  | 202, _ => exact okM_of ck_202
  | 203, _ => exact okM_of ck_203
  | 204, _ => exact okM_of ck_204
  | 205, _ => exact okM_of ck_205
  | 206, _ => exact okM_of ck_206
  | 207, _ => exact okM_of ck_207
  | 208, _ => exact okM_of ck_208
  | 209, _ => exact okM_of ck_209
  | 210, _ => exact okM_of ck_210
  | 211, _ => exact okM_of ck_211
  | 212, _ => exact okM_of ck_212
  | 213, _ => exact okM_of ck_213
  | 214, _ => exact okM_of ck_214
  | 215, _ => exact okM_of ck_215
  | 216, _ => exact okM_of ck_216
  | 217, _ => exact okM_of ck_217
  | 218, _ => exact okM_of ck_218
  | 219, _ => exact okM_of ck_219
  | 220, _ => exact okM_of ck_220
  | 221, _ => exact okM_of ck_221
  | 222, _ => exact okM_of ck_222
  | 223, _ => exact okM_of ck_223
  | 224, _ => exact okM_of ck_224
  | 225, _ => exact okM_of ck_225
  | 226, _ => exact okM_of ck_226
  | 227, _ => exact okM_of ck_227
  | 228, _ => exact okM_of ck_228
  | 229, _ => exact okM_of ck_229
  | 230, _ => exact okM_of ck_230
  | 231, _ => exact okM_of ck_231
  | 232, _ => exact okM_of ck_232
  | 233, _ => exact okM_of ck_233
  | 234, _ => exact okM_of ck_234
  | 235, _ => exact okM_of ck_235
  | 236, _ => exact okM_of ck_236
  | 237, _ => exact okM_of ck_237
  | 238, _ => exact okM_of ck_238
  | 239, _ => exact okM_of ck_239
  | 240, _ => exact okM_of ck_240
  | 241, _ => exact okM_of ck_241
  | 242, _ => exact okM_of ck_242
  | 243, _ => exact okM_of ck_243
  | 244, _ => exact okM_of ck_244
  | 245, _ => exact okM_of ck_245
  | 246, _ => exact okM_of ck_246
  | 247, _ => exact okM_of ck_247
  | 248, _ => exact okM_of ck_248
  | 249, _ => exact okM_of ck_249
  | 250, _ => exact okM_of ck_250
  | 251, _ => exact okM_of ck_251
  | 252, _ => exact okM_of ck_252
  | 253, _ => exact okM_of ck_253
  | 254, _ => exact okM_of ck_254
  | 255, _ => exact okM_of ck_255
  | 256, _ => exact okM_of ck_256
  | 257, _ => exact okM_of ck_257
  | 258, _ => exact okM_of ck_258
  | 259, _ => exact okM_of ck_259
  | 260, _ => exact okM_of ck_260
  | 261, _ => exact okM_of ck_261
  | 262, _ => exact okM_of ck_262
  | 263, _ => exact okM_of ck_263
  | 264, _ => exact okM_of ck_264
  | 265, _ => exact okM_of ck_265
  | 266, _ => exact okM_of ck_266
  | 267, _ => exact okM_of ck_267
  | 268, _ => exact okM_of ck_268
  | 269, _ => exact okM_of ck_269
  | 270, _ => exact okM_of ck_270
  | 271, _ => exact okM_of ck_271
  | 272, _ => exact okM_of ck_272
  | 273, _ => exact okM_of ck_273
  | 274, _ => exact okM_of ck_274
  | 275, _ => exact okM_of ck_275
  | 276, _ => exact okM_of ck_276
  | 277, _ => exact okM_of ck_277
  | 278, _ => exact okM_of ck_278
  | 279, _ => exact okM_of ck_279
  | 280, _ => exact okM_of ck_280
  | 281, _ => exact okM_of ck_281
  | 282, _ => exact okM_of ck_282
  | 283, _ => exact okM_of ck_283
  | 284, _ => exact okM_of ck_284
  | n + 285, h => exact absurd h (by omega)
end
section
/-! FROM THE PURE HEAP TO THE MACHINE'S: places become addresses -/
def adr (base : Nat) (ext : Nat → Nat) (i : Nat) : Nat := if i < PK then base + i else ext (i - PK)
def cV (base : Nat) (ext : Nat → Nat) (v : PV) : Value := match v with
  | .inl x => .int (Int32.ofInt x)
  | .inr (.inl x) => .long (Int64.ofInt x)
  | .inr (.inr none) => .null
  | .inr (.inr (some i)) => .ref (adr base ext i)
def cE (base : Nat) (ext : Nat → Nat) (cid : FieldType → ClassId) (e : PE) : va_E := match e with
  | .inl (t, n, .inl f) => .inl (cid t, n, .inl fun j => Int32.ofInt (f j))
  | .inl (t, n, .inr (.inl f)) => .inl (cid t, n, .inr (.inl fun j => Int64.ofInt (f j)))
  | .inl (t, n, .inr (.inr f)) => .inl (cid t, n, .inr (.inr (.inr (.inr fun j => (f j).map (adr base ext)))))
  | .inr (ci, fs) => .inr (ci, fs.map (cV base ext))
def cW (base : Nat) (ext : Nat → Nat) (cid : FieldType → ClassId) (h : PHp) : va_W := h.mapIdx fun i e => (base + i, cE base ext cid e)
theorem cV_rf (base : Nat) (ext : Nat → Nat) (r : Option Nat) : va_rf (r.map (adr base ext)) = cV base ext (vR r) := by cases r <;> rfl
theorem cW_len {base : Nat} {ext : Nat → Nat} {cid : FieldType → ClassId} {h : PHp} : (cW base ext cid h).length = h.length := by simp [cW]
theorem cW_at {base : Nat} {ext : Nat → Nat} {cid : FieldType → ClassId} {h : PHp} (k : Nat) : (cW base ext cid h)[k]? = (h[k]?).map fun e => (base + k, cE base ext cid e) := by simp [cW]
theorem cW_get {base : Nat} {ext : Nat → Nat} {cid : FieldType → ClassId} {h : PHp} {k : Nat} {e : PE} (he : h[k]? = some e) : (cW base ext cid h)[k]? = some (base + k, cE base ext cid e) := by rw [cW_at, he]; rfl
theorem cW_set {base : Nat} {ext : Nat → Nat} {cid : FieldType → ClassId} {h : PHp} {k : Nat} {e : PE} : (cW base ext cid h).set k (base + k, cE base ext cid e) = cW base ext cid (h.set k e) := by
  apply List.ext_getElem?
  intro j
  rw [cW_at, List.getElem?_set, List.getElem?_set, cW_len, cW_at]
  by_cases hj : k = j
  · subst hj
    by_cases hl : k < h.length <;> simp [hl]
  · simp [hj]
theorem cW_push {base : Nat} {ext : Nat → Nat} {cid : FieldType → ClassId} {h : PHp} {e : PE} : cW base ext cid h ++ [(base + h.length, cE base ext cid e)] = cW base ext cid (h ++ [e]) := by
  apply List.ext_getElem?
  intro j
  rw [cW_at, List.getElem?_append, List.getElem?_append, cW_len, cW_at]
  by_cases hj : j < h.length
  · simp [hj]
  · simp only [hj, if_false]
    by_cases hz : j = h.length
    · subst hz; simp
    · have : 0 < j - h.length := by omega
      rw [List.getElem?_eq_none (by simp; omega), List.getElem?_eq_none (by simp; omega)]; rfl
theorem cW_D {base : Nat} {ext : Nat → Nat} {cid : FieldType → ClassId} {h : PHp} : va_D (fun q => base ≤ q) (cW base ext cid h) := by
  constructor
  · intro i j p q hi hj hpq
    rw [cW_at] at hi hj
    obtain ⟨a, -, ha⟩ := Option.map_eq_some_iff.mp hi
    obtain ⟨b, -, hb⟩ := Option.map_eq_some_iff.mp hj
    rw [← ha, ← hb] at hpq
    dsimp only at hpq
    omega
  · intro k q hk
    rw [cW_at] at hk
    obtain ⟨a, -, ha⟩ := Option.map_eq_some_iff.mp hk
    rw [← ha]
    exact Nat.le_add_right _ _
/-! locals -/
def lvL (base : Nat) (ext : Nat → Nat) (L : PL) : List (Nat × Value) := L.zipIdx.filterMap fun p => p.1.map fun v => (p.2, cV base ext v)
theorem lvL_mem {base : Nat} {ext : Nat → Nat} {L : PL} {j : Nat} {w : Value} : (j, w) ∈ lvL base ext L ↔ ∃ v, L[j]? = some (some v) ∧ w = cV base ext v := by
  unfold lvL
  rw [List.mem_filterMap]
  constructor
  · rintro ⟨⟨a, i⟩, h1, h2⟩
    rw [List.mk_mem_zipIdx_iff_getElem?] at h1
    cases a with
    | none => cases h2
    | some v =>
      simp only [Option.map_some, Option.some.injEq, Prod.mk.injEq] at h2
      obtain ⟨rfl, rfl⟩ := h2
      exact ⟨v, h1, rfl⟩
  · rintro ⟨v, h1, rfl⟩
    exact ⟨(some v, j), List.mk_mem_zipIdx_iff_getElem?.mpr h1, rfl⟩
def LR (base : Nat) (ext : Nat → Nat) (ls : Array Slot) (n : Nat) (L : PL) : Prop := L.length = n ∧ lv_has ls n (lvL base ext L)
theorem LR.at {base : Nat} {ext : Nat → Nat} {ls : Array Slot} {n : Nat} {L : PL} (h : LR base ext ls n L) {j : Nat} {v : PV} (hj : lget L j = some v) : ls[j]? = some (.val (cV base ext v)) := by
  have : L[j]? = some (some v) := by
    unfold lget at hj
    split at hj
    · next w hw => cases hj; exact hw
    · cases hj
  exact h.2.2.2 (j, cV base ext v) (lvL_mem.mpr ⟨v, this, rfl⟩)
theorem lclr_len {L : PL} {i : Nat} : (lclr L i).length = L.length := by
  cases i with
  | zero => rfl
  | succ j => simp only [lclr]; split <;> simp
theorem lclr_at {L : PL} {i j : Nat} {w : PV} (h : (lclr L i)[j]? = some (some w)) : L[j]? = some (some w) ∧ ¬ (j + 1 = i ∧ isLg L[j]? = true) := by
  cases i with
  | zero => exact ⟨h, by omega⟩
  | succ k =>
    simp only [lclr] at h
    split at h
    · next hl =>
      rw [List.getElem?_set] at h
      split at h
      · split at h <;> cases h
      · next hne => exact ⟨h, fun q => hne (by omega)⟩
    · next hl =>
      refine ⟨h, fun q => hl ?_⟩
      have e : j = k := by omega
      subst e
      exact q.2
theorem isLg_cat {base : Nat} {ext : Nat → Nat} {w : PV} (h : (cV base ext w).category = 2) : isLg (some (some w)) = true := by
  match w with
  | .inl x => cases h
  | .inr (.inl x) => rfl
  | .inr (.inr none) => cases h
  | .inr (.inr (some x)) => cases h
theorem LR.st1 {base : Nat} {ext : Nat → Nat} {ls ls' : Array Slot} {n : Nat} {L : PL} {i : Nat} {v : PV} (h : LR base ext ls n L) (hi : i < n) (h2 : lv_has ls' n ((i, cV base ext v) :: (lvL base ext L).filter (fun q => !(q.1 == i) && !(q.1 + 1 == i && q.2.category == 2)))) : LR base ext ls' n (lput L i v) := by
  refine ⟨by rw [lput, List.length_set, lclr_len]; exact h.1, h2.1, h2.2.1, ?_⟩
  rintro ⟨j, w⟩ hq
  obtain ⟨u, hu, rfl⟩ := lvL_mem.mp hq
  apply h2.2.2
  rw [lput, List.getElem?_set] at hu
  split at hu
  · next e =>
    subst e
    split at hu
    · cases hu; exact List.mem_cons_self
    · cases hu
  · next e =>
    obtain ⟨a1, a2⟩ := lclr_at hu
    refine List.mem_cons_of_mem _ (List.mem_filter.mpr ⟨lvL_mem.mpr ⟨u, a1, rfl⟩, ?_⟩)
    simp only [Bool.and_eq_true, Bool.not_eq_true', beq_eq_false_iff_ne, ne_eq, Bool.and_eq_false_iff]
    refine ⟨fun q => e q.symm, ?_⟩
    by_cases hji : j + 1 = i
    · right
      intro hc
      exact a2 ⟨hji, by rw [a1]; exact isLg_cat hc⟩
    · exact Or.inl hji
theorem LR.st2 {base : Nat} {ext : Nat → Nat} {ls ls' : Array Slot} {n : Nat} {L : PL} {i : Nat} {v : PV} (h : LR base ext ls n L) (hi : i + 1 < n) (h2 : lv_has ls' n ((i, cV base ext v) :: (lvL base ext L).filter (fun q => !(q.1 == i) && (!(q.1 == i + 1) && !(q.1 + 1 == i && q.2.category == 2))))) : LR base ext ls' n (lput2 L i v) := by
  refine ⟨by rw [lput2, List.length_set, List.length_set, lclr_len]; exact h.1, h2.1, h2.2.1, ?_⟩
  rintro ⟨j, w⟩ hq
  obtain ⟨u, hu, rfl⟩ := lvL_mem.mp hq
  apply h2.2.2
  rw [lput2, List.getElem?_set] at hu
  split at hu
  · split at hu <;> cases hu
  · next e2 =>
    rw [List.getElem?_set] at hu
    split at hu
    · next e =>
      subst e
      split at hu
      · cases hu; exact List.mem_cons_self
      · cases hu
    · next e =>
      obtain ⟨a1, a2⟩ := lclr_at hu
      refine List.mem_cons_of_mem _ (List.mem_filter.mpr ⟨lvL_mem.mpr ⟨u, a1, rfl⟩, ?_⟩)
      simp only [Bool.and_eq_true, Bool.not_eq_true', beq_eq_false_iff_ne, ne_eq, Bool.and_eq_false_iff]
      refine ⟨fun q => e q.symm, fun q => e2 q.symm, ?_⟩
      by_cases hji : j + 1 = i
      · right
        intro hc
        exact a2 ⟨hji, by rw [a1]; exact isLg_cat hc⟩
      · exact Or.inl hji
/-! numbers -/
theorem o_add (a b : Int) : Int32.ofInt a + Int32.ofInt b = Int32.ofInt (a + b) := (Int32.ofInt_add a b).symm
theorem o_sub (a b : Int) : Int32.ofInt a - Int32.ofInt b = Int32.ofInt (a - b) := (Int32.ofInt_sub a b).symm
theorem o_mul (a b : Int) : Int32.ofInt a * Int32.ofInt b = Int32.ofInt (a * b) := (Int32.ofInt_mul a b).symm
theorem o_neg (a : Int) : -Int32.ofInt a = Int32.ofInt (-a) := (Int32.ofInt_neg a).symm
theorem o_laddn (a b : Int) : Int64.ofInt a + Int64.ofInt b = Int64.ofInt (a + b) := (Int64.ofInt_add a b).symm
theorem o_lsub (a b : Int) : Int64.ofInt a - Int64.ofInt b = Int64.ofInt (a - b) := (Int64.ofInt_sub a b).symm
theorem o_lmul (a b : Int) : Int64.ofInt a * Int64.ofInt b = Int64.ofInt (a * b) := (Int64.ofInt_mul a b).symm
theorem o_t (x : Int32) : Int32.ofInt x.toInt = x := Int32.ofInt_toInt x
theorem o_tl (x : Int64) : Int64.ofInt x.toInt = x := Int64.ofInt_toInt x
theorem o_i2l (a : Int) : (Int32.ofInt a).toInt64 = Int64.ofInt (iI2l a) := by
  unfold iI2l
  rw [← Int64.ofInt_toInt (Int32.ofInt a).toInt64, Int32.toInt_toInt64]
end
section
/-! WHAT A FRAME KNOWS: the tables, the classes, what lies outside and is only read -/
def sLen : List Nat := [5, 5, 6, 5, 3, 4, 4, 3, 4, 3, 4]
def sByt : List (List Int32) := [[113, 117, 111, 116, 97], [112, 114, 105, 99, 101], [111, 102, 102, 105, 99, 101], [104, 111, 117, 115, 101], [116, 105, 101], [112, 97, 99, 116], [121, 101, 97, 114], [98, 117, 121], [108, 111, 115, 101], [99, 117, 116], [112, 97, 105, 100]]
def tysL (cid : FieldType → ClassId) : List (ClassId × FieldType) := [(cid .int, .int), (cid .boolean, .boolean), (cid .long, .long), (cid (.object (vC 6).1), .object (vC 6).1), (cid (.object (vC 7).1), .object (vC 7).1), (cid (.object (vC 9).1), .object (vC 9).1)]
def EX (base : Nat) (ext adV : Nat → Nat) (X : PX) (U : State) : Prop :=
  (∀ (o ix k b : Nat), (2, ix, k, b) ∈ lks o → va_Nw (.methodLinkNest (cN o) ix (mY k) "QuotaParish") U) ∧
  (∀ (o ix j b : Nat), (6, ix, j, b) ∈ lks o → vk_R (cN o) ix (stN.getD j "") (ext j) U) ∧
  vk_S 11 sLen sByt ext adV (fun q => base ≤ q) U U.heap ∧
  (∀ j : Nat, j < 3 → va_Z "QuotaParish$Reader" (srN.getD j "") "[I" (.ref (ext (11 + j))) (fun q => base ≤ q) U U.heap) ∧
  (∀ j : Nat, 11 ≤ j → j < 15 → va_T .int (ext j) (X j).1 (fun i => .int (Int32.ofInt ((X j).2 i))) (fun q => base ≤ q) U U.heap ∧ (X j).1 < 2147483648) ∧
  (∀ ci : Nat, ci = 6 ∨ ci = 7 ∨ ci = 9 → va_AO (vC ci).1 U) ∧
  (∀ j : Nat, j < 11 → (X j).1 = sLen.getD j 0 ∧ ∀ i : Nat, Int32.ofInt ((X j).2 i) = (sByt.getD j []).getD i 0) ∧
  va_Z "java/lang/String" "COMPACT_STRINGS" "Z" (.int 1) (fun q => base ≤ q) U U.heap ∧
  va_Zq "jdk/internal/util/Preconditions" "SIOOBE_FORMATTER" "Ljava/util/function/BiFunction;" (fun q => base ≤ q) U U.heap
theorem Zq.go {C n d : String} {A : Nat → Prop} {s U : State} (h : va_Zq C n d A s s.heap) (ha : s.vm.Alike U.vm) (hk : ∀ a : Nat, a < s.heap.size → ¬ A a → U.heap[a]? = s.heap[a]?) : va_Zq C n d A U U.heap := by
  rcases h with h | ⟨t, h⟩
  · exact Or.inl ((h.kept hk).moved ha)
  · exact Or.inr ⟨t, (h.kept hk).moved ha⟩
theorem EX.go {base : Nat} {ext adV : Nat → Nat} {X : PX} {s U : State} (h : EX base ext adV X s) (hW : s.WarmedH U.vm) (hk : ∀ a : Nat, a < s.heap.size → ¬ base ≤ a → U.heap[a]? = s.heap[a]?) : EX base ext adV X U := by
  obtain ⟨h1, h2, h3, h4, h5, h6, h7, h8, h9⟩ := h
  have ha := hW.alike
  exact ⟨fun o ix k b ht => va_Nw.warmM hW (h1 o ix k b ht), fun o ix j b ht => vk_R.warm hW (h2 o ix j b ht), (h3.kept hk).moved ha, fun j hj => ((h4 j hj).kept hk).moved ha, fun j a b => ⟨((h5 j a b).1.kept hk).moved ha, (h5 j a b).2⟩, fun ci hc => (h6 ci hc).moved ha, h7, (h8.kept hk).moved ha, Zq.go (s := s) (U := U) h9 ha hk⟩
theorem EX.calling {base : Nat} {ext adV : Nat → Nat} {X : PX} {U : State} (h : EX base ext adV X U) (g : JFrame) (mk : MethodId) (a : Array Value) : EX base ext adV X (U.calling g mk a) := by
  obtain ⟨h1, h2, h3, h4, h5, h6, h7, h8, h9⟩ := h
  have ha : U.vm.Alike (U.calling g mk a).vm := Vm.Alike.refl U.vm
  exact ⟨fun o ix k b ht => va_Nw.same rfl rfl (h1 o ix k b ht), fun o ix j b ht => vk_R.same rfl (h2 o ix j b ht), h3.moved ha, fun j hj => (h4 j hj).moved ha, fun j a b => ⟨(h5 j a b).1.moved ha, (h5 j a b).2⟩, fun ci hc => (h6 ci hc).moved ha, h7, h8.moved ha, Zq.go (s := U) (U := U.calling g mk a) h9 ha (fun _ _ _ => rfl)⟩
def PreP (base : Nat) (ext adV : Nat → Nat) (cid : FieldType → ClassId) (D : va_G) (X : PX) (h : PHp) (U : State) : Prop :=
  va_P D vwCl (cW base ext cid h) U.heap ∧ U.heap.size = base + h.length ∧ va_K D vwCl (tysL cid) U ∧ EX base ext adV X U
def PosP (base : Nat) (ext : Nat → Nat) (cid : FieldType → ClassId) (D : va_G) (n : Nat) (h : PHp) (t : State) : Prop :=
  va_P D vwCl (cW base ext cid h) t.heap ∧ t.heap.size = base + h.length ∧ h.length = n
def Qg (v : Option Value) (B : State → Prop) (A : Nat → Prop) : Array Value → State → Outcome → State → Prop := fun _ st oc t => (oc = .returned v ∧ B t) ∧ va_F A st t
/-- a method's contract: from these arguments and this heap it comes to this answer and that heap -/
def MetP (base : Nat) (ext adV : Nat → Nat) (cid : FieldType → ClassId) (D : va_G) (X : PX) (l : Launch) (y : MethodName) (ws : List Cond) (rm : Room) (mc ms : Nat) (as : List PV) (h : PHp) (v : Option PV) (h2 : PHp) : Prop :=
  Met l y ws rm (va_Pc (as.map (cV base ext)) (PreP base ext adV cid D X h)) (Qg (v.map (cV base ext)) (PosP base ext cid D (h.length + mc) h2) (fun q => base ≤ q)) mc ms (fun q => base ≤ q)
theorem PreP.blind {base : Nat} {ext adV : Nat → Nat} {cid : FieldType → ClassId} {D : va_G} {X : PX} {h : PHp} {as : List PV} : FrameBlind (va_Pc (as.map (cV base ext)) (PreP base ext adV cid D X h)) := by
  intro a U g mk q
  obtain ⟨q0, q1, q2, q3, q4⟩ := q
  exact ⟨q0, q1, q2, va_K.moved (u := U) (U := U.calling g mk a) (Vm.Alike.refl U.vm) q3, q4.calling g mk a⟩
section CALLG
variable {p : Program} {l : Launch} {e : Env} {R : Room} {s : State} {m : MethodId} {args : Array Value} {below : List Frame} {meth : Method} {c : Code} {H : Heap} {locs : List Loc} {cells slots : Nat} {Q : State → Prop}
variable {pc : Nat} {ls : Array Slot} {rest st0 : List Value} {a : Array Value} {A0 : Nat → Prop} {H0 : Heap} {mc ms : Nat}
theorem va_callg {v : Option Value} {B : State → Prop} (hr : va_Run p l e R s m args below meth c H locs cells slots mc ms (F0 m pc ls st0) rest (Qg v B A0 a) A0) (hS : va_S A0 H0 H locs)
    (kk : ∀ (H1 : Heap) (locs1 : List Loc), (∃ t : State, t.heap = H1 ∧ B t) → va_S A0 H0 H1 locs1 → W p l e R s m args below meth c H1 locs1 (cells + mc) (slots + ms) Q (F0 m (pc + 3) ls (v.toList ++ rest))) : W p l e R s m args below meth c H locs cells slots Q (F0 m pc ls st0) := by
  intro T hT X
  obtain ⟨v2, st₀, t, T', L, h0, X', hL, e1, e2, ⟨⟨hv, hb⟩, hz, hk⟩, st⟩ := hr T hT X
  cases hv
  rw [h0] at hz hk
  obtain ⟨t2, a1, b1⟩ := kk T'.heap (locs ++ L) ⟨t, e1.symm, hb⟩
    ⟨Nat.le_trans hS.1 (by rw [e1]; exact hz), fun q h1 h2 => by rw [e1, hk q (Nat.lt_of_lt_of_le h1 hS.1) h2]; exact hS.2.1 q h1 h2, fun q hq => by
      rcases List.mem_append.mp hq with h | h
      · exact hS.2.2 q h
      · exact hL q h⟩ T' rfl X'
  exact ⟨t2, st t2 a1, b1⟩
/-- how large the heap can be -/
theorem W.sz {g : JFrame} (k : H.size ≤ s.heap.size + cells → W p l e R s m args below meth c H locs cells slots Q g) : W p l e R s m args below meth c H locs cells slots Q g := by
  intro T hT X
  refine k ?_ T hT X
  have := X.same.2.2.1
  rw [← hT]
  exact this
end CALLG
def mRm (k : Nat) : Room := { frames := mFr k, cells := mMc k, slots := mMs k, locals := mLo k }
def Fx (base : Nat) (ext adV : Nat → Nat) (cid : FieldType → ClassId) (D : va_G) (X : PX) (k : Nat) (p : Program) (s : State) (m : MethodId) (args : Array Value) (meth : Method) (c : Code) : Prop :=
  p.tables.exec = Jvm.exec ∧ c.code = mC k ∧ c.maxLocals = mL k ∧ s.vm.findClass (cN (mO k)) = some m.cls ∧ (∀ w ∈ TB, w.before args s = true) ∧ va_K D vwCl (tysL cid) s ∧ EX base ext adV X s ∧ ((mY k).name = "<init>" → meth.name = "<init>") ∧ base ≤ s.heap.size
def Gw (base : Nat) (ext : Nat → Nat) (cid : FieldType → ClassId) (D : va_G) (k : Nat) (p : Program) (l : Launch) (e : Env) (R : Room) (s : State) (m : MethodId) (args : Array Value) (below : List Frame) (meth : Method) (c : Code) (Q : State → Prop) (bp : Nat) (L : PL) (st : List PV) (h : PHp) (cs sl : Nat) : Prop :=
  ∀ (H : Heap) (locs : List Loc) (ls : Array Slot), LR base ext ls (mL k) L → va_P D vwCl (cW base ext cid h) H → H.size = base + h.length → va_S (fun q => base ≤ q) s.heap H locs → s.heap.size + cs = H.size → W p l e R s m args below meth c H locs cs sl Q (F0 m bp ls (st.map (cV base ext)))
end
section
/-! ROW BY ROW: an instruction of the pure machine is one of the machine -/
section ROWS
variable {base : Nat} {ext adV : Nat → Nat} {cid : FieldType → ClassId} {D : va_G} {X : PX} {k : Nat} {p : Program} {l : Launch} {e : Env} {R : Room} {s : State} {m : MethodId} {args : Array Value} {below : List Frame} {meth : Method} {c : Code} {Q : State → Prop} {bp : Nat} {L : PL} {st : List PV} {h : PHp} {cs sl : Nat}
theorem g_iconst (hF : Fx base ext adV cid D X k p s m args meth c) {n z : Int} (hd : decode (mC k) bp = .ok (.iconst n, 1)) (hz : n = z) (g : Gw base ext cid D k p l e R s m args below meth c Q (bp + 1) L (vI z :: st) h cs sl) : Gw base ext cid D k p l e R s m args below meth c Q bp L st h cs sl := by
  obtain ⟨hx, hb, hml, hown, hts, hK, hE, hnm⟩ := hF
  intro H locs ls hL hP hsz hS hcs
  subst hz
  exact lv_iconst hx hb hd rfl (g H locs ls hL hP hsz hS hcs)
theorem g_bipush (hF : Fx base ext adV cid D X k p s m args meth c) {n z : Int} (hd : decode (mC k) bp = .ok (.bipush n, 2)) (hz : (Int8.ofInt n).toInt32 = Int32.ofInt z) (g : Gw base ext cid D k p l e R s m args below meth c Q (bp + 2) L (vI z :: st) h cs sl) : Gw base ext cid D k p l e R s m args below meth c Q bp L st h cs sl := by
  obtain ⟨hx, hb, hml, hown, hts, hK, hE, hnm⟩ := hF
  intro H locs ls hL hP hsz hS hcs
  exact lv_bipush hx hb hd hz (g H locs ls hL hP hsz hS hcs)
theorem g_sipush (hF : Fx base ext adV cid D X k p s m args meth c) {n z : Int} (hd : decode (mC k) bp = .ok (.sipush n, 3)) (hz : (Int16.ofInt n).toInt32 = Int32.ofInt z) (g : Gw base ext cid D k p l e R s m args below meth c Q (bp + 3) L (vI z :: st) h cs sl) : Gw base ext cid D k p l e R s m args below meth c Q bp L st h cs sl := by
  obtain ⟨hx, hb, hml, hown, hts, hK, hE, hnm⟩ := hF
  intro H locs ls hL hP hsz hS hcs
  exact lv_sipush hx hb hd hz (g H locs ls hL hP hsz hS hcs)
theorem g_lconst (hF : Fx base ext adV cid D X k p s m args meth c) {n : Fin 2} {z : Int} (hd : decode (mC k) bp = .ok (.lconst n, 1)) (hz : Int64.ofNat (n : Nat) = Int64.ofInt z) (g : Gw base ext cid D k p l e R s m args below meth c Q (bp + 1) L (vL z :: st) h cs sl) : Gw base ext cid D k p l e R s m args below meth c Q bp L st h cs sl := by
  obtain ⟨hx, hb, hml, hown, hts, hK, hE, hnm⟩ := hF
  intro H locs ls hL hP hsz hS hcs
  exact lv_lconst hx hb hd hz (g H locs ls hL hP hsz hS hcs)
theorem g_ldc (hF : Fx base ext adV cid D X k p s m args meth c) {ix : Nat} {z : Int} (hd : decode (mC k) bp = .ok (.ldc ix, 2)) (hl : (4, ix, z.toNat, 0) ∈ lks (mO k)) (hz : 0 ≤ z) (g : Gw base ext cid D k p l e R s m args below meth c Q (bp + 2) L (vI z :: st) h cs sl) : Gw base ext cid D k p l e R s m args below meth c Q bp L st h cs sl := by
  obtain ⟨hx, hb, hml, hown, hts, hK, hE, hnm⟩ := hF
  intro H locs ls hL hP hsz hS hcs
  have hw : (Cond.constant (cN (mO k)) ix (Int32.ofInt (z.toNat : Int))).before args s = true := hts _ (lk_ok (mO k) _ hl (by simp) (by simp))
  rw [Int.toNat_of_nonneg hz] at hw
  exact lv_ldc hx hb hown hw hd (g H locs ls hL hP hsz hS hcs)
theorem g_ldcw (hF : Fx base ext adV cid D X k p s m args meth c) {ix : Nat} {z : Int} (hd : decode (mC k) bp = .ok (.ldc_w ix, 3)) (hl : (4, ix, z.toNat, 0) ∈ lks (mO k)) (hz : 0 ≤ z) (g : Gw base ext cid D k p l e R s m args below meth c Q (bp + 3) L (vI z :: st) h cs sl) : Gw base ext cid D k p l e R s m args below meth c Q bp L st h cs sl := by
  obtain ⟨hx, hb, hml, hown, hts, hK, hE, hnm⟩ := hF
  intro H locs ls hL hP hsz hS hcs
  have hw : (Cond.constant (cN (mO k)) ix (Int32.ofInt (z.toNat : Int))).before args s = true := hts _ (lk_ok (mO k) _ hl (by simp) (by simp))
  rw [Int.toNat_of_nonneg hz] at hw
  exact lv_ldcw hx hb hown hw hd (g H locs ls hL hP hsz hS hcs)
theorem g_ldc2 (hF : Fx base ext adV cid D X k p s m args meth c) {ix : Nat} {z : Int} (hd : decode (mC k) bp = .ok (.ldc2_w ix, 3)) (hl : (5, ix, z.toNat, 0) ∈ lks (mO k)) (hz : 0 ≤ z) (g : Gw base ext cid D k p l e R s m args below meth c Q (bp + 3) L (vL z :: st) h cs sl) : Gw base ext cid D k p l e R s m args below meth c Q bp L st h cs sl := by
  obtain ⟨hx, hb, hml, hown, hts, hK, hE, hnm⟩ := hF
  intro H locs ls hL hP hsz hS hcs
  have hw : (Cond.constantLong (cN (mO k)) ix (Int64.ofInt (z.toNat : Int))).before args s = true := hts _ (lk_ok (mO k) _ hl (by simp) (by simp))
  rw [Int.toNat_of_nonneg hz] at hw
  exact lv_ldc2 hx hb hown hw hd (g H locs ls hL hP hsz hS hcs)
theorem g_ldcS (hF : Fx base ext adV cid D X k p s m args meth c) {ix j : Nat} (hd : decode (mC k) bp = .ok (.ldc ix, 2)) (hl : (6, ix, j, 0) ∈ lks (mO k)) (hj : j < 11) (g : Gw base ext cid D k p l e R s m args below meth c Q (bp + 2) L (vR (some (PK + j)) :: st) h cs sl) : Gw base ext cid D k p l e R s m args below meth c Q bp L st h cs sl := by
  obtain ⟨hx, hb, hml, hown, hts, hK, hE, hnm⟩ := hF
  intro H locs ls hL hP hsz hS hcs
  have hg := g H locs ls hL hP hsz hS hcs
  rw [List.map_cons, show cV base ext (vR (some (PK + j))) = .ref (ext j) from by show Value.ref (if PK + j < PK then _ else _) = _; rw [if_neg (by omega), Nat.add_sub_cancel_left]] at hg
  exact va_ldcS hx hb hown (hE.2.1 (mO k) ix j 0 hl) hd hg
theorem g_iload_n (hF : Fx base ext adV cid D X k p s m args meth c) {j : Fin 4} {x : Int} (hd : decode (mC k) bp = .ok (.iload_n j, 1)) (hj : lget L j = some (vI x)) (g : Gw base ext cid D k p l e R s m args below meth c Q (bp + 1) L (vI x :: st) h cs sl) : Gw base ext cid D k p l e R s m args below meth c Q bp L st h cs sl := by
  obtain ⟨hx, hb, hml, hown, hts, hK, hE, hnm⟩ := hF
  intro H locs ls hL hP hsz hS hcs
  exact lv_iload_n hx hb hd rfl (hL.at hj) (g H locs ls hL hP hsz hS hcs)
theorem g_iload (hF : Fx base ext adV cid D X k p s m args meth c) {j : Nat} {x : Int} (hd : decode (mC k) bp = .ok (.iload j, 2)) (hj : lget L j = some (vI x)) (g : Gw base ext cid D k p l e R s m args below meth c Q (bp + 2) L (vI x :: st) h cs sl) : Gw base ext cid D k p l e R s m args below meth c Q bp L st h cs sl := by
  obtain ⟨hx, hb, hml, hown, hts, hK, hE, hnm⟩ := hF
  intro H locs ls hL hP hsz hS hcs
  exact lv_iload hx hb hd (hL.at hj) (g H locs ls hL hP hsz hS hcs)
theorem g_lload_n (hF : Fx base ext adV cid D X k p s m args meth c) {j : Fin 4} {x : Int} (hd : decode (mC k) bp = .ok (.lload_n j, 1)) (hj : lget L j = some (vL x)) (g : Gw base ext cid D k p l e R s m args below meth c Q (bp + 1) L (vL x :: st) h cs sl) : Gw base ext cid D k p l e R s m args below meth c Q bp L st h cs sl := by
  obtain ⟨hx, hb, hml, hown, hts, hK, hE, hnm⟩ := hF
  intro H locs ls hL hP hsz hS hcs
  exact lv_lload_n hx hb hd rfl (hL.at hj) (g H locs ls hL hP hsz hS hcs)
theorem g_lload (hF : Fx base ext adV cid D X k p s m args meth c) {j : Nat} {x : Int} (hd : decode (mC k) bp = .ok (.lload j, 2)) (hj : lget L j = some (vL x)) (g : Gw base ext cid D k p l e R s m args below meth c Q (bp + 2) L (vL x :: st) h cs sl) : Gw base ext cid D k p l e R s m args below meth c Q bp L st h cs sl := by
  obtain ⟨hx, hb, hml, hown, hts, hK, hE, hnm⟩ := hF
  intro H locs ls hL hP hsz hS hcs
  exact lv_lload hx hb hd (hL.at hj) (g H locs ls hL hP hsz hS hcs)
theorem g_aload_n (hF : Fx base ext adV cid D X k p s m args meth c) {j : Fin 4} {x : Nat} (hd : decode (mC k) bp = .ok (.aload_n j, 1)) (hj : lget L j = some (vR (some x))) (g : Gw base ext cid D k p l e R s m args below meth c Q (bp + 1) L (vR (some x) :: st) h cs sl) : Gw base ext cid D k p l e R s m args below meth c Q bp L st h cs sl := by
  obtain ⟨hx, hb, hml, hown, hts, hK, hE, hnm⟩ := hF
  intro H locs ls hL hP hsz hS hcs
  exact lv_aload_n hx hb hd rfl (hL.at hj) (g H locs ls hL hP hsz hS hcs)
theorem g_aload (hF : Fx base ext adV cid D X k p s m args meth c) {j : Nat} {x : Nat} (hd : decode (mC k) bp = .ok (.aload j, 2)) (hj : lget L j = some (vR (some x))) (g : Gw base ext cid D k p l e R s m args below meth c Q (bp + 2) L (vR (some x) :: st) h cs sl) : Gw base ext cid D k p l e R s m args below meth c Q bp L st h cs sl := by
  obtain ⟨hx, hb, hml, hown, hts, hK, hE, hnm⟩ := hF
  intro H locs ls hL hP hsz hS hcs
  exact lv_aload hx hb hd (hL.at hj) (g H locs ls hL hP hsz hS hcs)
theorem g_istore_n (hF : Fx base ext adV cid D X k p s m args meth c) {j : Fin 4} {x : Int} (hd : decode (mC k) bp = .ok (.istore_n j, 1)) (hj : (j : Nat) < L.length) (g : Gw base ext cid D k p l e R s m args below meth c Q (bp + 1) (lput L j (vI x)) st h cs sl) : Gw base ext cid D k p l e R s m args below meth c Q bp L (vI x :: st) h cs sl := by
  obtain ⟨hx, hb, hml, hown, hts, hK, hE, hnm⟩ := hF
  intro H locs ls hL hP hsz hS hcs
  rw [hL.1] at hj
  exact lv_istore_n hx hb hd rfl hL.2 hj rfl (fun ls2 h2 => g H locs ls2 (hL.st1 hj h2) hP hsz hS hcs)
theorem g_istore (hF : Fx base ext adV cid D X k p s m args meth c) {j : Nat} {x : Int} (hd : decode (mC k) bp = .ok (.istore j, 2)) (hj : (j : Nat) < L.length) (g : Gw base ext cid D k p l e R s m args below meth c Q (bp + 2) (lput L j (vI x)) st h cs sl) : Gw base ext cid D k p l e R s m args below meth c Q bp L (vI x :: st) h cs sl := by
  obtain ⟨hx, hb, hml, hown, hts, hK, hE, hnm⟩ := hF
  intro H locs ls hL hP hsz hS hcs
  rw [hL.1] at hj
  exact lv_istore hx hb hd hL.2 hj rfl (fun ls2 h2 => g H locs ls2 (hL.st1 hj h2) hP hsz hS hcs)
theorem g_lstore_n (hF : Fx base ext adV cid D X k p s m args meth c) {j : Fin 4} {x : Int} (hd : decode (mC k) bp = .ok (.lstore_n j, 1)) (hj : (j : Nat) + 1 < L.length) (g : Gw base ext cid D k p l e R s m args below meth c Q (bp + 1) (lput2 L j (vL x)) st h cs sl) : Gw base ext cid D k p l e R s m args below meth c Q bp L (vL x :: st) h cs sl := by
  obtain ⟨hx, hb, hml, hown, hts, hK, hE, hnm⟩ := hF
  intro H locs ls hL hP hsz hS hcs
  rw [hL.1] at hj
  exact lv_lstore_n hx hb hd rfl hL.2 hj rfl (fun ls2 h2 => g H locs ls2 (hL.st2 hj h2) hP hsz hS hcs)
theorem g_lstore (hF : Fx base ext adV cid D X k p s m args meth c) {j : Nat} {x : Int} (hd : decode (mC k) bp = .ok (.lstore j, 2)) (hj : (j : Nat) + 1 < L.length) (g : Gw base ext cid D k p l e R s m args below meth c Q (bp + 2) (lput2 L j (vL x)) st h cs sl) : Gw base ext cid D k p l e R s m args below meth c Q bp L (vL x :: st) h cs sl := by
  obtain ⟨hx, hb, hml, hown, hts, hK, hE, hnm⟩ := hF
  intro H locs ls hL hP hsz hS hcs
  rw [hL.1] at hj
  exact lv_lstore hx hb hd hL.2 hj rfl (fun ls2 h2 => g H locs ls2 (hL.st2 hj h2) hP hsz hS hcs)
theorem g_astore_n (hF : Fx base ext adV cid D X k p s m args meth c) {j : Fin 4} {x : Nat} (hd : decode (mC k) bp = .ok (.astore_n j, 1)) (hj : (j : Nat) < L.length) (g : Gw base ext cid D k p l e R s m args below meth c Q (bp + 1) (lput L j (vR (some x))) st h cs sl) : Gw base ext cid D k p l e R s m args below meth c Q bp L (vR (some x) :: st) h cs sl := by
  obtain ⟨hx, hb, hml, hown, hts, hK, hE, hnm⟩ := hF
  intro H locs ls hL hP hsz hS hcs
  rw [hL.1] at hj
  exact lv_astore_n hx hb hd rfl hL.2 hj rfl (fun ls2 h2 => g H locs ls2 (hL.st1 hj h2) hP hsz hS hcs)
theorem g_astore (hF : Fx base ext adV cid D X k p s m args meth c) {j : Nat} {x : Nat} (hd : decode (mC k) bp = .ok (.astore j, 2)) (hj : (j : Nat) < L.length) (g : Gw base ext cid D k p l e R s m args below meth c Q (bp + 2) (lput L j (vR (some x))) st h cs sl) : Gw base ext cid D k p l e R s m args below meth c Q bp L (vR (some x) :: st) h cs sl := by
  obtain ⟨hx, hb, hml, hown, hts, hK, hE, hnm⟩ := hF
  intro H locs ls hL hP hsz hS hcs
  rw [hL.1] at hj
  exact lv_astore hx hb hd hL.2 hj rfl (fun ls2 h2 => g H locs ls2 (hL.st1 hj h2) hP hsz hS hcs)
theorem g_iinc (hF : Fx base ext adV cid D X k p s m args meth c) {j : Nat} {n x : Int} (hd : decode (mC k) bp = .ok (.iinc j n, 3)) (hj : lget L j = some (vI x)) (g : Gw base ext cid D k p l e R s m args below meth c Q (bp + 3) (lput L j (vI (x + n))) st h cs sl) : Gw base ext cid D k p l e R s m args below meth c Q bp L st h cs sl := by
  obtain ⟨hx, hb, hml, hown, hts, hK, hE, hnm⟩ := hF
  intro H locs ls hL hP hsz hS hcs
  have hjL : L[j]? = some (some (vI x)) := by
    unfold lget at hj
    split at hj
    · next w hw => cases hj; exact hw
    · cases hj
  have hjn : j < mL k := by rw [← hL.1]; exact (List.getElem?_eq_some_iff.mp hjL).1
  obtain ⟨q, hq⟩ := List.getElem?_of_mem (lvL_mem (base := base) (ext := ext).mpr ⟨_, hjL, rfl⟩)
  exact lv_iinc hx hb hd hL.2 hq (o_add x n) hjn rfl (fun ls2 h2 => g H locs ls2 (hL.st1 hjn h2) hP hsz hS hcs)
theorem g_iadd (hF : Fx base ext adV cid D X k p s m args meth c) {x y : Int} (hd : decode (mC k) bp = .ok (.iadd, 1)) (g : Gw base ext cid D k p l e R s m args below meth c Q (bp + 1) L (vI (x + y) :: st) h cs sl) : Gw base ext cid D k p l e R s m args below meth c Q bp L (vI y :: vI x :: st) h cs sl := by
  obtain ⟨hx, hb, hml, hown, hts, hK, hE, hnm⟩ := hF
  intro H locs ls hL hP hsz hS hcs
  refine lv_iadd hx hb hd ?_
  rw [o_add]
  exact g H locs ls hL hP hsz hS hcs
theorem g_isub (hF : Fx base ext adV cid D X k p s m args meth c) {x y : Int} (hd : decode (mC k) bp = .ok (.isub, 1)) (g : Gw base ext cid D k p l e R s m args below meth c Q (bp + 1) L (vI (x - y) :: st) h cs sl) : Gw base ext cid D k p l e R s m args below meth c Q bp L (vI y :: vI x :: st) h cs sl := by
  obtain ⟨hx, hb, hml, hown, hts, hK, hE, hnm⟩ := hF
  intro H locs ls hL hP hsz hS hcs
  refine lv_isub hx hb hd ?_
  rw [o_sub]
  exact g H locs ls hL hP hsz hS hcs
theorem g_imul (hF : Fx base ext adV cid D X k p s m args meth c) {x y : Int} (hd : decode (mC k) bp = .ok (.imul, 1)) (g : Gw base ext cid D k p l e R s m args below meth c Q (bp + 1) L (vI (x * y) :: st) h cs sl) : Gw base ext cid D k p l e R s m args below meth c Q bp L (vI y :: vI x :: st) h cs sl := by
  obtain ⟨hx, hb, hml, hown, hts, hK, hE, hnm⟩ := hF
  intro H locs ls hL hP hsz hS hcs
  refine lv_imul hx hb hd ?_
  rw [o_mul]
  exact g H locs ls hL hP hsz hS hcs
theorem g_ladd (hF : Fx base ext adV cid D X k p s m args meth c) {x y : Int} (hd : decode (mC k) bp = .ok (.ladd, 1)) (g : Gw base ext cid D k p l e R s m args below meth c Q (bp + 1) L (vL (x + y) :: st) h cs sl) : Gw base ext cid D k p l e R s m args below meth c Q bp L (vL y :: vL x :: st) h cs sl := by
  obtain ⟨hx, hb, hml, hown, hts, hK, hE, hnm⟩ := hF
  intro H locs ls hL hP hsz hS hcs
  refine lv_ladd hx hb hd ?_
  rw [o_laddn]
  exact g H locs ls hL hP hsz hS hcs
theorem g_lsub (hF : Fx base ext adV cid D X k p s m args meth c) {x y : Int} (hd : decode (mC k) bp = .ok (.lsub, 1)) (g : Gw base ext cid D k p l e R s m args below meth c Q (bp + 1) L (vL (x - y) :: st) h cs sl) : Gw base ext cid D k p l e R s m args below meth c Q bp L (vL y :: vL x :: st) h cs sl := by
  obtain ⟨hx, hb, hml, hown, hts, hK, hE, hnm⟩ := hF
  intro H locs ls hL hP hsz hS hcs
  refine lv_lsub hx hb hd ?_
  rw [o_lsub]
  exact g H locs ls hL hP hsz hS hcs
theorem g_lmul (hF : Fx base ext adV cid D X k p s m args meth c) {x y : Int} (hd : decode (mC k) bp = .ok (.lmul, 1)) (g : Gw base ext cid D k p l e R s m args below meth c Q (bp + 1) L (vL (x * y) :: st) h cs sl) : Gw base ext cid D k p l e R s m args below meth c Q bp L (vL y :: vL x :: st) h cs sl := by
  obtain ⟨hx, hb, hml, hown, hts, hK, hE, hnm⟩ := hF
  intro H locs ls hL hP hsz hS hcs
  refine lv_lmul hx hb hd ?_
  rw [o_lmul]
  exact g H locs ls hL hP hsz hS hcs
theorem g_iand (hF : Fx base ext adV cid D X k p s m args meth c) {x y : Int} (hd : decode (mC k) bp = .ok (.iand, 1)) (g : Gw base ext cid D k p l e R s m args below meth c Q (bp + 1) L (vI (iAnd x y) :: st) h cs sl) : Gw base ext cid D k p l e R s m args below meth c Q bp L (vI y :: vI x :: st) h cs sl := by
  obtain ⟨hx, hb, hml, hown, hts, hK, hE, hnm⟩ := hF
  intro H locs ls hL hP hsz hS hcs
  have q : Int32.ofInt (iAnd x y) = Int32.ofInt x &&& Int32.ofInt y := o_t _
  refine lv_iand hx hb hd ?_
  rw [← q]
  exact g H locs ls hL hP hsz hS hcs
theorem g_ior (hF : Fx base ext adV cid D X k p s m args meth c) {x y : Int} (hd : decode (mC k) bp = .ok (.ior, 1)) (g : Gw base ext cid D k p l e R s m args below meth c Q (bp + 1) L (vI (iOr x y) :: st) h cs sl) : Gw base ext cid D k p l e R s m args below meth c Q bp L (vI y :: vI x :: st) h cs sl := by
  obtain ⟨hx, hb, hml, hown, hts, hK, hE, hnm⟩ := hF
  intro H locs ls hL hP hsz hS hcs
  have q : Int32.ofInt (iOr x y) = Int32.ofInt x ||| Int32.ofInt y := o_t _
  refine lv_ior hx hb hd ?_
  rw [← q]
  exact g H locs ls hL hP hsz hS hcs
theorem g_ixor (hF : Fx base ext adV cid D X k p s m args meth c) {x y : Int} (hd : decode (mC k) bp = .ok (.ixor, 1)) (g : Gw base ext cid D k p l e R s m args below meth c Q (bp + 1) L (vI (iXor x y) :: st) h cs sl) : Gw base ext cid D k p l e R s m args below meth c Q bp L (vI y :: vI x :: st) h cs sl := by
  obtain ⟨hx, hb, hml, hown, hts, hK, hE, hnm⟩ := hF
  intro H locs ls hL hP hsz hS hcs
  have q : Int32.ofInt (iXor x y) = Int32.ofInt x ^^^ Int32.ofInt y := o_t _
  refine lv_ixor hx hb hd ?_
  rw [← q]
  exact g H locs ls hL hP hsz hS hcs
theorem g_ishl (hF : Fx base ext adV cid D X k p s m args meth c) {x y : Int} (hd : decode (mC k) bp = .ok (.ishl, 1)) (g : Gw base ext cid D k p l e R s m args below meth c Q (bp + 1) L (vI (iShl x y) :: st) h cs sl) : Gw base ext cid D k p l e R s m args below meth c Q bp L (vI y :: vI x :: st) h cs sl := by
  obtain ⟨hx, hb, hml, hown, hts, hK, hE, hnm⟩ := hF
  intro H locs ls hL hP hsz hS hcs
  have q : Int32.ofInt (iShl x y) = Int32.ofInt x <<< (Int32.ofInt y &&& 31) := o_t _
  refine lv_ishl hx hb hd ?_
  rw [← q]
  exact g H locs ls hL hP hsz hS hcs
theorem g_ishr (hF : Fx base ext adV cid D X k p s m args meth c) {x y : Int} (hd : decode (mC k) bp = .ok (.ishr, 1)) (g : Gw base ext cid D k p l e R s m args below meth c Q (bp + 1) L (vI (iShr x y) :: st) h cs sl) : Gw base ext cid D k p l e R s m args below meth c Q bp L (vI y :: vI x :: st) h cs sl := by
  obtain ⟨hx, hb, hml, hown, hts, hK, hE, hnm⟩ := hF
  intro H locs ls hL hP hsz hS hcs
  have q : Int32.ofInt (iShr x y) = Int32.ofInt x >>> (Int32.ofInt y &&& 31) := o_t _
  refine lv_ishr hx hb hd ?_
  rw [← q]
  exact g H locs ls hL hP hsz hS hcs
theorem g_iushr (hF : Fx base ext adV cid D X k p s m args meth c) {x y : Int} (hd : decode (mC k) bp = .ok (.iushr, 1)) (g : Gw base ext cid D k p l e R s m args below meth c Q (bp + 1) L (vI (iUshr x y) :: st) h cs sl) : Gw base ext cid D k p l e R s m args below meth c Q bp L (vI y :: vI x :: st) h cs sl := by
  obtain ⟨hx, hb, hml, hown, hts, hK, hE, hnm⟩ := hF
  intro H locs ls hL hP hsz hS hcs
  exact lv_iushr hx hb hd (o_t _).symm (g H locs ls hL hP hsz hS hcs)
theorem g_idiv (hF : Fx base ext adV cid D X k p s m args meth c) {x y : Int} (hd : decode (mC k) bp = .ok (.idiv, 1)) (hne : ¬ Int32.ofInt y = 0) (g : Gw base ext cid D k p l e R s m args below meth c Q (bp + 1) L (vI (iDiv x y) :: st) h cs sl) : Gw base ext cid D k p l e R s m args below meth c Q bp L (vI y :: vI x :: st) h cs sl := by
  obtain ⟨hx, hb, hml, hown, hts, hK, hE, hnm⟩ := hF
  intro H locs ls hL hP hsz hS hcs
  have q : Int32.ofInt (iDiv x y) = Int32.ofInt x / Int32.ofInt y := o_t _
  refine lv_idiv hx hb hd hne ?_
  rw [← q]
  exact g H locs ls hL hP hsz hS hcs
theorem g_irem (hF : Fx base ext adV cid D X k p s m args meth c) {x y : Int} (hd : decode (mC k) bp = .ok (.irem, 1)) (hne : ¬ Int32.ofInt y = 0) (g : Gw base ext cid D k p l e R s m args below meth c Q (bp + 1) L (vI (iRem x y) :: st) h cs sl) : Gw base ext cid D k p l e R s m args below meth c Q bp L (vI y :: vI x :: st) h cs sl := by
  obtain ⟨hx, hb, hml, hown, hts, hK, hE, hnm⟩ := hF
  intro H locs ls hL hP hsz hS hcs
  have q : Int32.ofInt (iRem x y) = Int32.ofInt x - Int32.ofInt x / Int32.ofInt y * Int32.ofInt y := o_t _
  refine lv_irem hx hb hd hne ?_
  rw [← q]
  exact g H locs ls hL hP hsz hS hcs
theorem g_lor (hF : Fx base ext adV cid D X k p s m args meth c) {x y : Int} (hd : decode (mC k) bp = .ok (.lor, 1)) (g : Gw base ext cid D k p l e R s m args below meth c Q (bp + 1) L (vL (lOr x y) :: st) h cs sl) : Gw base ext cid D k p l e R s m args below meth c Q bp L (vL y :: vL x :: st) h cs sl := by
  obtain ⟨hx, hb, hml, hown, hts, hK, hE, hnm⟩ := hF
  intro H locs ls hL hP hsz hS hcs
  have q : Int64.ofInt (lOr x y) = Int64.ofInt x ||| Int64.ofInt y := o_tl _
  refine lv_lor hx hb hd ?_
  rw [← q]
  exact g H locs ls hL hP hsz hS hcs
theorem g_lshl (hF : Fx base ext adV cid D X k p s m args meth c) {x y : Int} (hd : decode (mC k) bp = .ok (.lshl, 1)) (g : Gw base ext cid D k p l e R s m args below meth c Q (bp + 1) L (vL (lShl x y) :: st) h cs sl) : Gw base ext cid D k p l e R s m args below meth c Q bp L (vI y :: vL x :: st) h cs sl := by
  obtain ⟨hx, hb, hml, hown, hts, hK, hE, hnm⟩ := hF
  intro H locs ls hL hP hsz hS hcs
  exact lv_lshl hx hb hd (o_tl _).symm (g H locs ls hL hP hsz hS hcs)
theorem g_lshr (hF : Fx base ext adV cid D X k p s m args meth c) {x y : Int} (hd : decode (mC k) bp = .ok (.lshr, 1)) (g : Gw base ext cid D k p l e R s m args below meth c Q (bp + 1) L (vL (lShr x y) :: st) h cs sl) : Gw base ext cid D k p l e R s m args below meth c Q bp L (vI y :: vL x :: st) h cs sl := by
  obtain ⟨hx, hb, hml, hown, hts, hK, hE, hnm⟩ := hF
  intro H locs ls hL hP hsz hS hcs
  exact lv_lshr hx hb hd (o_tl _).symm (g H locs ls hL hP hsz hS hcs)
theorem g_lcmp (hF : Fx base ext adV cid D X k p s m args meth c) {x y : Int} (hd : decode (mC k) bp = .ok (.lcmp, 1)) (g : Gw base ext cid D k p l e R s m args below meth c Q (bp + 1) L (vI (lCmp x y) :: st) h cs sl) : Gw base ext cid D k p l e R s m args below meth c Q bp L (vL y :: vL x :: st) h cs sl := by
  obtain ⟨hx, hb, hml, hown, hts, hK, hE, hnm⟩ := hF
  intro H locs ls hL hP hsz hS hcs
  have q : Int32.ofInt (lCmp x y) = lg_cmp (Int64.ofInt x) (Int64.ofInt y) := by
    unfold lCmp lg_cmp
    have h3 := @Int64.lt_iff_toInt_lt (Int64.ofInt x) (Int64.ofInt y)
    have h4 := @Int64.lt_iff_toInt_lt (Int64.ofInt y) (Int64.ofInt x)
    by_cases h2 : Int64.ofInt x = Int64.ofInt y
    · rw [h2]; simp
    · have h5 : (Int64.ofInt x).toInt ≠ (Int64.ofInt y).toInt := fun q => h2 (Int64.toInt_inj.mp q)
      by_cases h1 : Int64.ofInt x < Int64.ofInt y
      · have h6 : ¬ Int64.ofInt y < Int64.ofInt x := by rw [h4]; rw [h3] at h1; omega
        rw [if_pos h1, if_neg h6, if_neg h2]; rfl
      · have h6 : Int64.ofInt y < Int64.ofInt x := by rw [h4]; rw [h3] at h1; omega
        rw [if_neg h1, if_pos h6, if_neg h2]; rfl
  refine W.lcmp hx hb hd ?_
  rw [← q]
  exact g H locs ls hL hP hsz hS hcs
theorem g_ineg (hF : Fx base ext adV cid D X k p s m args meth c) {x : Int} (hd : decode (mC k) bp = .ok (.ineg, 1)) (g : Gw base ext cid D k p l e R s m args below meth c Q (bp + 1) L (vI (-x) :: st) h cs sl) : Gw base ext cid D k p l e R s m args below meth c Q bp L (vI x :: st) h cs sl := by
  obtain ⟨hx, hb, hml, hown, hts, hK, hE, hnm⟩ := hF
  intro H locs ls hL hP hsz hS hcs
  refine lv_ineg hx hb hd ?_
  rw [o_neg]
  exact g H locs ls hL hP hsz hS hcs
theorem g_i2l (hF : Fx base ext adV cid D X k p s m args meth c) {x : Int} (hd : decode (mC k) bp = .ok (.i2l, 1)) (g : Gw base ext cid D k p l e R s m args below meth c Q (bp + 1) L (vL (iI2l x) :: st) h cs sl) : Gw base ext cid D k p l e R s m args below meth c Q bp L (vI x :: st) h cs sl := by
  obtain ⟨hx, hb, hml, hown, hts, hK, hE, hnm⟩ := hF
  intro H locs ls hL hP hsz hS hcs
  exact lv_i2l hx hb hd (o_i2l x) (g H locs ls hL hP hsz hS hcs)
theorem g_l2i (hF : Fx base ext adV cid D X k p s m args meth c) {x : Int} (hd : decode (mC k) bp = .ok (.l2i, 1)) (g : Gw base ext cid D k p l e R s m args below meth c Q (bp + 1) L (vI (iL2i x) :: st) h cs sl) : Gw base ext cid D k p l e R s m args below meth c Q bp L (vL x :: st) h cs sl := by
  obtain ⟨hx, hb, hml, hown, hts, hK, hE, hnm⟩ := hF
  intro H locs ls hL hP hsz hS hcs
  exact lv_l2i hx hb hd (o_t _).symm (g H locs ls hL hP hsz hS hcs)
theorem g_dupI (hF : Fx base ext adV cid D X k p s m args meth c) {x : Int} (hd : decode (mC k) bp = .ok (.dup, 1)) (g : Gw base ext cid D k p l e R s m args below meth c Q (bp + 1) L (vI x :: vI x :: st) h cs sl) : Gw base ext cid D k p l e R s m args below meth c Q bp L (vI x :: st) h cs sl := by
  obtain ⟨hx, hb, hml, hown, hts, hK, hE, hnm⟩ := hF
  intro H locs ls hL hP hsz hS hcs
  exact lv_dup hx hb hd rfl (g H locs ls hL hP hsz hS hcs)
theorem g_dupR (hF : Fx base ext adV cid D X k p s m args meth c) {x : Nat} (hd : decode (mC k) bp = .ok (.dup, 1)) (g : Gw base ext cid D k p l e R s m args below meth c Q (bp + 1) L (vR (some x) :: vR (some x) :: st) h cs sl) : Gw base ext cid D k p l e R s m args below meth c Q bp L (vR (some x) :: st) h cs sl := by
  obtain ⟨hx, hb, hml, hown, hts, hK, hE, hnm⟩ := hF
  intro H locs ls hL hP hsz hS hcs
  exact lv_dup hx hb hd rfl (g H locs ls hL hP hsz hS hcs)
theorem g_dup2 (hF : Fx base ext adV cid D X k p s m args meth c) {x : Int} {y : Nat} (hd : decode (mC k) bp = .ok (.dup2, 1)) (g : Gw base ext cid D k p l e R s m args below meth c Q (bp + 1) L (vI x :: vR (some y) :: vI x :: vR (some y) :: st) h cs sl) : Gw base ext cid D k p l e R s m args below meth c Q bp L (vI x :: vR (some y) :: st) h cs sl := by
  obtain ⟨hx, hb, hml, hown, hts, hK, hE, hnm⟩ := hF
  intro H locs ls hL hP hsz hS hcs
  exact lv_dup2_11 hx hb hd rfl rfl (g H locs ls hL hP hsz hS hcs)
theorem g_pop (hF : Fx base ext adV cid D X k p s m args meth c) {x : Int} (hd : decode (mC k) bp = .ok (.pop, 1)) (g : Gw base ext cid D k p l e R s m args below meth c Q (bp + 1) L st h cs sl) : Gw base ext cid D k p l e R s m args below meth c Q bp L (vI x :: st) h cs sl := by
  obtain ⟨hx, hb, hml, hown, hts, hK, hE, hnm⟩ := hF
  intro H locs ls hL hP hsz hS hcs
  exact lv_pop hx hb hd rfl (g H locs ls hL hP hsz hS hcs)
theorem g_goto (hF : Fx base ext adV cid D X k p s m args meth c) {off : Int} {tgt : Nat} (hd : decode (mC k) bp = .ok (.goto off, 3)) (ht : (bp : Int) + off = (tgt : Int)) (g : Gw base ext cid D k p l e R s m args below meth c Q tgt L st h cs sl) : Gw base ext cid D k p l e R s m args below meth c Q bp L st h cs sl := by
  obtain ⟨hx, hb, hml, hown, hts, hK, hE, hnm⟩ := hF
  intro H locs ls hL hP hsz hS hcs
  exact lv_goto hx hb hd ht (g H locs ls hL hP hsz hS hcs)
theorem g_if (hF : Fx base ext adV cid D X k p s m args meth c) {cd : ClassFile.Cond} {off : Int} {tgt : Nat} {x : Int} (hd : decode (mC k) bp = .ok (.ifCond cd off, 3)) (ht : (bp : Int) + off = (tgt : Int)) (g1 : iCmp cd x 0 = true → Gw base ext cid D k p l e R s m args below meth c Q tgt L st h cs sl) (g2 : ¬ iCmp cd x 0 = true → Gw base ext cid D k p l e R s m args below meth c Q (bp + 3) L st h cs sl) : Gw base ext cid D k p l e R s m args below meth c Q bp L (vI x :: st) h cs sl := by
  obtain ⟨hx, hb, hml, hown, hts, hK, hE, hnm⟩ := hF
  intro H locs ls hL hP hsz hS hcs
  have z0 : Int32.ofInt 0 = 0 := rfl
  cases cd with
  | eq => exact lv_if_eq hx hb hd ht (fun q => g1 (by simpa [iCmp] using q) H locs ls hL hP hsz hS hcs) (fun q => g2 (by simpa [iCmp] using q) H locs ls hL hP hsz hS hcs)
  | ne => exact lv_if_ne hx hb hd ht (fun q => g1 (by simpa [iCmp] using q) H locs ls hL hP hsz hS hcs) (fun q => g2 (by simpa [iCmp] using q) H locs ls hL hP hsz hS hcs)
  | lt => exact lv_if_lt hx hb hd ht (fun q => g1 (by simpa [iCmp] using q) H locs ls hL hP hsz hS hcs) (fun q => g2 (by simpa [iCmp] using q) H locs ls hL hP hsz hS hcs)
  | ge => exact lv_if_ge hx hb hd ht (fun q => g1 (by simpa [iCmp, Int32.not_lt] using q) H locs ls hL hP hsz hS hcs) (fun q => g2 (by simpa [iCmp, Int32.not_lt] using q) H locs ls hL hP hsz hS hcs)
  | gt => exact lv_if_gt hx hb hd ht (fun q => g1 (by simpa [iCmp] using q) H locs ls hL hP hsz hS hcs) (fun q => g2 (by simpa [iCmp] using q) H locs ls hL hP hsz hS hcs)
  | le => exact lv_if_le hx hb hd ht (fun q => g1 (by simpa [iCmp, Int32.not_lt] using q) H locs ls hL hP hsz hS hcs) (fun q => g2 (by simpa [iCmp, Int32.not_lt] using q) H locs ls hL hP hsz hS hcs)
theorem g_icmp (hF : Fx base ext adV cid D X k p s m args meth c) {cd : ClassFile.Cond} {off : Int} {tgt : Nat} {x y : Int} (hd : decode (mC k) bp = .ok (.if_icmp cd off, 3)) (ht : (bp : Int) + off = (tgt : Int)) (g1 : iCmp cd x y = true → Gw base ext cid D k p l e R s m args below meth c Q tgt L st h cs sl) (g2 : ¬ iCmp cd x y = true → Gw base ext cid D k p l e R s m args below meth c Q (bp + 3) L st h cs sl) : Gw base ext cid D k p l e R s m args below meth c Q bp L (vI y :: vI x :: st) h cs sl := by
  obtain ⟨hx, hb, hml, hown, hts, hK, hE, hnm⟩ := hF
  intro H locs ls hL hP hsz hS hcs
  cases cd with
  | eq => exact lv_icmp_eq hx hb hd ht (fun q => g1 (by simpa [iCmp] using q) H locs ls hL hP hsz hS hcs) (fun q => g2 (by simpa [iCmp] using q) H locs ls hL hP hsz hS hcs)
  | ne => exact lv_icmp_ne hx hb hd ht (fun q => g1 (by simpa [iCmp] using q) H locs ls hL hP hsz hS hcs) (fun q => g2 (by simpa [iCmp] using q) H locs ls hL hP hsz hS hcs)
  | lt => exact lv_icmp_lt hx hb hd ht (fun q => g1 (by simpa [iCmp] using q) H locs ls hL hP hsz hS hcs) (fun q => g2 (by simpa [iCmp] using q) H locs ls hL hP hsz hS hcs)
  | ge => exact lv_icmp_ge hx hb hd ht (fun q => g1 (by simpa [iCmp, Int32.not_lt] using q) H locs ls hL hP hsz hS hcs) (fun q => g2 (by simpa [iCmp, Int32.not_lt] using q) H locs ls hL hP hsz hS hcs)
  | gt => exact lv_icmp_gt hx hb hd ht (fun q => g1 (by simpa [iCmp] using q) H locs ls hL hP hsz hS hcs) (fun q => g2 (by simpa [iCmp] using q) H locs ls hL hP hsz hS hcs)
  | le => exact lv_icmp_le hx hb hd ht (fun q => g1 (by simpa [iCmp, Int32.not_lt] using q) H locs ls hL hP hsz hS hcs) (fun q => g2 (by simpa [iCmp, Int32.not_lt] using q) H locs ls hL hP hsz hS hcs)
theorem g_table (hF : Fx base ext adV cid D X k p s m args meth c) {dflt lo hi : Int} {offs : Array Int} {len tgt : Nat} {x : Int} (hd : decode (mC k) bp = .ok (.tableswitch dflt lo hi offs, len)) (ht : ((Int32.ofInt x).toInt < lo ∨ hi < (Int32.ofInt x).toInt) ∧ (bp : Int) + dflt = (tgt : Int) ∨ ¬ ((Int32.ofInt x).toInt < lo ∨ hi < (Int32.ofInt x).toInt) ∧ ∃ off, offs[((Int32.ofInt x).toInt - lo).toNat]? = some off ∧ (bp : Int) + off = (tgt : Int)) (g : Gw base ext cid D k p l e R s m args below meth c Q tgt L st h cs sl) : Gw base ext cid D k p l e R s m args below meth c Q bp L (vI x :: st) h cs sl := by
  obtain ⟨hx, hb, hml, hown, hts, hK, hE, hnm⟩ := hF
  intro H locs ls hL hP hsz hS hcs
  rcases ht with ⟨h1, h2⟩ | ⟨h1, off, h2, h3⟩
  · exact lv_tableOut hx hb hd h1 h2 (g H locs ls hL hP hsz hS hcs)
  · exact lv_tableIn hx hb hd (fun q => h1 (Or.inl q)) (fun q => h1 (Or.inr q)) h2 h3 (g H locs ls hL hP hsz hS hcs)
theorem g_lookup (hF : Fx base ext adV cid D X k p s m args meth c) {dflt : Int} {ps : Array (Int × Int)} {len tgt : Nat} {x : Int} (hd : decode (mC k) bp = .ok (.lookupswitch dflt ps, len)) (hp : (ps.toList.zip (ps.toList.drop 1)).all (fun (a, next) => a.1 < next.1) = true) (ht : (bp : Int) + Op.lookupswitch.offset ps.toList dflt (Int32.ofInt x).toInt = (tgt : Int)) (g : Gw base ext cid D k p l e R s m args below meth c Q tgt L st h cs sl) : Gw base ext cid D k p l e R s m args below meth c Q bp L (vI x :: st) h cs sl := by
  obtain ⟨hx, hb, hml, hown, hts, hK, hE, hnm⟩ := hF
  intro H locs ls hL hP hsz hS hcs
  exact lv_lookup hx hb hd hp rfl ht (g H locs ls hL hP hsz hS hcs)
theorem adr_lt {base : Nat} {ext : Nat → Nat} {i : Nat} (h : i < PK) : adr base ext i = base + i := if_pos h
theorem adr_ge {base : Nat} {ext : Nat → Nat} {i : Nat} (h : ¬ i < PK) : adr base ext i = ext (i - PK) := if_neg h
theorem hObj_spec {h : PHp} {c ci : Nat} {fs : List PV} (q : hObj h c ci = some fs) : c < PK ∧ h[c]? = some (.inr (ci, fs)) := by
  unfold hObj at q
  split at q
  · next hc =>
    refine ⟨hc, ?_⟩
    split at q
    · next cj gs hg =>
      split at q
      · next e => cases q; subst e; exact hg
      · cases q
    · cases q
  · cases q
theorem hInt_spec {ty : FieldType} {h : PHp} {c : Nat} {a : Nat × (Nat → Int)} (q : hInt ty h c = some a) : c < PK ∧ h[c]? = some (.inl (ty, a.1, .inl a.2)) ∧ a.1 ≤ 100000 := by
  unfold hInt at q
  split at q
  · next hc =>
    refine ⟨hc, ?_⟩
    split at q
    · next t n f hg =>
      split at q
      · next e => cases q; obtain ⟨e, e2⟩ := e; subst e; exact ⟨hg, e2⟩
      · cases q
    · cases q
  · cases q
theorem hLong_spec {h : PHp} {c : Nat} {a : Nat × (Nat → Int)} (q : hLong h c = some a) : c < PK ∧ h[c]? = some (.inl (.long, a.1, .inr (.inl a.2))) ∧ a.1 ≤ 100000 := by
  unfold hLong at q
  split at q
  · next hc =>
    refine ⟨hc, ?_⟩
    split at q
    · next t n f hg =>
      split at q
      · next e => cases q; obtain ⟨e, e2⟩ := e; subst e; exact ⟨hg, e2⟩
      · cases q
    · cases q
  · cases q
theorem hRef_spec {h : PHp} {c : Nat} {a : FieldType × Nat × (Nat → Option Nat)} (q : hRef h c = some a) : c < PK ∧ h[c]? = some (.inl (a.1, a.2.1, .inr (.inr a.2.2))) ∧ a.2.1 ≤ 100000 := by
  unfold hRef at q
  split at q
  · next hc =>
    refine ⟨hc, ?_⟩
    split at q
    · next t n f hg =>
      split at q
      · next e => cases q; exact ⟨hg, e⟩
      · cases q
    · cases q
  · cases q
/-- an index in its row -/
theorem ix_in {n : Nat} {i : Int} (h0 : 0 ≤ i) (h1 : i < n) (hn : n ≤ 2147483648) : vp_in (Int32.ofInt i) n ∧ (Int32.ofInt i).toNatClampNeg = i.toNat := by
  have e : (Int32.ofInt i).toInt = i := Int32.toInt_ofInt_of_le (by omega) (by omega)
  constructor
  · rw [vp_in_iff, e]; omega
  · rw [Int32.toNatClampNeg, e]
/-- an index that is in the row of a cell is a small number -/
theorem sz_le {D : va_G} {ws : va_W} {H : Heap} {h : PHp} {base : Nat} {ext : Nat → Nat} {cid : FieldType → ClassId} (hP : va_P D vwCl (cW base ext cid h) H) (h0 : 0 < h.length) : base + h.length ≤ H.size := by
  have hl : h.length - 1 < h.length := by omega
  have := (hP (h.length - 1) _ (cW_get (List.getElem?_eq_getElem hl))).lt
  dsimp only at this
  omega
theorem g_getf (hF : Fx base ext adV cid D X k p s m args meth c) {ix ci j c0 : Nat} {fs : List PV} {v : PV} (hd : decode (mC k) bp = .ok (.getfield ix, 3)) (hl : (0, ix, ci, j) ∈ lks (mO k)) (hj : j < (vC ci).2.2) (hci : ci < 12) (ho : hObj h c0 ci = some fs) (hv : fs[j]? = some v) (g : Gw base ext cid D k p l e R s m args below meth c Q (bp + 3) L (v :: st) h cs sl) : Gw base ext cid D k p l e R s m args below meth c Q bp L (vR (some c0) :: st) h cs sl := by
  obtain ⟨hx, hb, hml, hown, hts, hK, hE, hnm⟩ := hF
  intro H locs ls hL hP hsz hS hcs
  obtain ⟨hc0, hh⟩ := hObj_spec ho
  have he := cW_get (base := base) (ext := ext) (cid := cid) hh
  have hw := hts _ (lk_ok (mO k) _ hl (by simp) (by simp))
  have hg := g H locs ls hL hP hsz hS hcs
  show W _ _ _ _ _ _ _ _ _ _ _ _ _ _ _ (F0 m bp ls (.ref (adr base ext c0) :: _))
  rw [adr_lt hc0]
  exact va_get (C := (vC ci).1) (T := (vC ci).2.1) (N := (vC ci).2.2) hx hb hts (uw_all ci hci) hown hK hP c0 he (vC_at ci hci) j hj hw (fun x hx => hx) (by rw [List.getElem?_map, hv]; rfl) hd hg
theorem fit_ok {base : Nat} {ext : Nat → Nat} {ty : FieldType} {t : Nat} {v : PV} (h1 : tyC (some ty) = t) (h2 : t < 3) (h3 : fitF t v = true) : narrow ty (cV base ext v) = cV base ext v ∧ fits ty (cV base ext v) = true := by
  subst h1
  cases ty with
  | int =>
    match v, h3 with
    | .inl x, _ => exact ⟨rfl, rfl⟩
  | boolean =>
    match v, h3 with
    | .inl x, h3 =>
      have : x = 0 ∨ x = 1 := by simpa [fitF, tyC] using h3
      rcases this with rfl | rfl <;> exact ⟨rfl, rfl⟩
  | object C =>
    match v, h3 with
    | .inr (.inr (some x)), _ => exact ⟨rfl, rfl⟩
    | .inl x, h3 => simp [fitF, tyC] at h3
  | array C =>
    match v, h3 with
    | .inr (.inr (some x)), _ => exact ⟨rfl, rfl⟩
    | .inl x, h3 => simp [fitF, tyC] at h3
  | _ => simp [tyC] at h2
theorem g_putf (hF : Fx base ext adV cid D X k p s m args meth c) {ix ci j t c0 : Nat} {fs : List PV} {v : PV} (hd : decode (mC k) bp = .ok (.putfield ix, 3)) (hl : (0, ix, ci, j) ∈ lks (mO k)) (hj : j < (vC ci).2.2) (hci : ci < 12) (ht : ftC ci j = t) (ht3 : t < 3) (hfin : ((vC ci).2.1 j).2.2.2 = false ∨ ((mY k).name = "<init>" ∧ ((vC ci).2.1 j).1 = cN (mO k))) (ho : hObj h c0 ci = some fs) (hlen : j < fs.length) (hfit : fitF t v = true) (g : Gw base ext cid D k p l e R s m args below meth c Q (bp + 3) L st (h.set c0 (.inr (ci, fs.set j v))) cs sl) : Gw base ext cid D k p l e R s m args below meth c Q bp L (v :: vR (some c0) :: st) h cs sl := by
  obtain ⟨hx, hb, hml, hown, hts, hK, hE, hnm⟩ := hF
  intro H locs ls hL hP hsz hS hcs
  obtain ⟨hc0, hh⟩ := hObj_spec ho
  have he := cW_get (base := base) (ext := ext) (cid := cid) hh
  have hw := hts _ (lk_ok (mO k) _ hl (by simp) (by simp))
  have hpd := ty_all ci hci j hj
  have hf := fit_ok (base := base) (ext := ext) (ty := tyA ci j) (t := t) (v := v) (by rw [← ht, ftC, hpd]) ht3 hfit
  have h0 : 0 < h.length := by
    have := (List.getElem?_eq_some_iff.mp hh).1
    omega
  have hsetE : ∀ (H1 : Heap) (locs1 : List Loc), va_P D vwCl ((cW base ext cid h).set c0 (base + c0, .inr (ci, (fs.map (cV base ext)).set j (cV base ext v)))) H1 → va_D (fun q => base ≤ q) ((cW base ext cid h).set c0 (base + c0, .inr (ci, (fs.map (cV base ext)).set j (cV base ext v)))) → va_S (fun q => base ≤ q) s.heap H1 locs1 → W p l e R s m args below meth c H1 locs1 cs sl Q (F0 m (bp + 3) ls (st.map (cV base ext))) := by
    intro H1 locs1 hP1 _ hS1
    have e1 : (cW base ext cid h).set c0 (base + c0, .inr (ci, (fs.map (cV base ext)).set j (cV base ext v))) = cW base ext cid (h.set c0 (.inr (ci, fs.set j v))) := by
      rw [← cW_set]
      simp only [cE, List.map_set]
    rw [e1] at hP1
    refine W.sz fun hz => ?_
    have hz2 := sz_le (ws := []) hP1 (by rw [List.length_set]; exact h0)
    rw [List.length_set] at hz2
    exact g H1 locs1 ls hL hP1 (by rw [List.length_set]; omega) hS1 (by omega)
  show W _ _ _ _ _ _ _ _ _ _ _ _ _ _ _ (F0 m bp ls (cV base ext v :: .ref (adr base ext c0) :: _))
  rw [adr_lt hc0]
  rcases hfin with hfin | ⟨hin, hdecl⟩
  · exact va_put (C := (vC ci).1) (T := (vC ci).2.1) (N := (vC ci).2.2) hx hb hts (uw_all ci hci) (tyA ci) (ty_all ci hci) (nm_all ci hci) hown hK hP cW_D hS c0 he (vC_at ci hci) j hj hw (fun x hx => hx) hfin hpd hf.1 hf.2 (by rw [List.length_map]; exact hlen) hd hsetE
  · cases hfb : ((vC ci).2.1 j).2.2.2 with
    | false => exact va_put (C := (vC ci).1) (T := (vC ci).2.1) (N := (vC ci).2.2) hx hb hts (uw_all ci hci) (tyA ci) (ty_all ci hci) (nm_all ci hci) hown hK hP cW_D hS c0 he (vC_at ci hci) j hj hw (fun x hx => hx) hfb hpd hf.1 hf.2 (by rw [List.length_map]; exact hlen) hd hsetE
    | true => exact va_putF (C := (vC ci).1) (T := (vC ci).2.1) (N := (vC ci).2.2) hx hb hts (uw_all ci hci) (tyA ci) (ty_all ci hci) (nm_all ci hci) hown hK hP cW_D hS c0 he (vC_at ci hci) j hj hw (fun x hx => hx) hfb (hnm.1 hin) hdecl hpd hf.1 hf.2 (by rw [List.length_map]; exact hlen) hd hsetE

theorem g_gets (hF : Fx base ext adV cid D X k p s m args meth c) {ix j : Nat} (hd : decode (mC k) bp = .ok (.getstatic ix, 3)) (hl : (11, ix, j, 0) ∈ lks (mO k)) (hj : j < 3) (g : Gw base ext cid D k p l e R s m args below meth c Q (bp + 3) L (vR (some (PK + (11 + j))) :: st) h cs sl) : Gw base ext cid D k p l e R s m args below meth c Q bp L st h cs sl := by
  obtain ⟨hx, hb, hml, hown, hts, hK, hE, hnm⟩ := hF
  intro H locs ls hL hP hsz hS hcs
  have hg := g H locs ls hL hP hsz hS hcs
  rw [List.map_cons, show cV base ext (vR (some (PK + (11 + j)))) = .ref (ext (11 + j)) from by show Value.ref (if PK + (11 + j) < PK then _ else _) = _; rw [if_neg (by omega), Nat.add_sub_cancel_left]] at hg
  exact va_gets hx hb (hE.2.2.2.1 j hj) hS hown (hts _ (lk_ok (mO k) _ hl (by simp) (by simp))) (fun x hx => hx) hd hg
/-- a load from a row of ints -/
theorem g_iald (hF : Fx base ext adV cid D X k p s m args meth c) {c0 : Nat} {i x : Int} {a : Nat × (Nat → Int)} (hd : decode (mC k) bp = .ok (.iaload, 1)) (ho : xInt X h c0 = some a) (hi : at2 a.1 a.2 i = some x) (g : Gw base ext cid D k p l e R s m args below meth c Q (bp + 1) L (vI x :: st) h cs sl) : Gw base ext cid D k p l e R s m args below meth c Q bp L (vI i :: vR (some c0) :: st) h cs sl := by
  obtain ⟨hx, hb, hml, hown, hts, hK, hE, hnm⟩ := hF
  intro H locs ls hL hP hsz hS hcs
  unfold at2 at hi
  split at hi
  · next hr =>
    cases hi
    have hg := g H locs ls hL hP hsz hS hcs
    unfold xInt at ho
    by_cases hc : c0 < PK
    · rw [if_pos hc] at ho
      obtain ⟨-, hh, hn⟩ := hInt_spec ho
      have hx2 := ix_in hr.1 hr.2 (by omega)
      show W _ _ _ _ _ _ _ _ _ _ _ _ _ _ _ (F0 m bp ls (.int (Int32.ofInt i) :: .ref (adr base ext c0) :: _))
      rw [adr_lt hc]
      refine va_iald hx hb hK hP c0 0 (cW_get hh) rfl hx2.1 hd ?_
      rw [hx2.2]
      exact hg
    · rw [if_neg hc] at ho
      split at ho
      · cases ho
      · next h11 =>
        split at ho
        · next h15 =>
          cases ho
          obtain ⟨hT, hn⟩ := hE.2.2.2.2.1 (c0 - PK) (by omega) (by omega)
          have hx2 := ix_in hr.1 hr.2 (by omega)
          show W _ _ _ _ _ _ _ _ _ _ _ _ _ _ _ (F0 m bp ls (.int (Int32.ofInt i) :: .ref (adr base ext c0) :: _))
          rw [adr_ge hc]
          exact va_ti hx hb hT hS hx2.1 (by rw [hx2.2]; rfl) hd hg
        · cases ho
  · cases hi
theorem g_alen (hF : Fx base ext adV cid D X k p s m args meth c) {c0 : Nat} {a : Nat × (Nat → Int)} (hd : decode (mC k) bp = .ok (.arraylength, 1)) (ho : xInt X h c0 = some a) (g : Gw base ext cid D k p l e R s m args below meth c Q (bp + 1) L (vI a.1 :: st) h cs sl) : Gw base ext cid D k p l e R s m args below meth c Q bp L (vR (some c0) :: st) h cs sl := by
  obtain ⟨hx, hb, hml, hown, hts, hK, hE, hnm⟩ := hF
  intro H locs ls hL hP hsz hS hcs
  have hg := g H locs ls hL hP hsz hS hcs
  unfold xInt at ho
  by_cases hc : c0 < PK
  · rw [if_pos hc] at ho
    obtain ⟨-, hh, hn⟩ := hInt_spec ho
    show W _ _ _ _ _ _ _ _ _ _ _ _ _ _ _ (F0 m bp ls (.ref (adr base ext c0) :: _))
    rw [adr_lt hc]
    exact va_alen hx hb hK hP c0 0 (cW_get hh) rfl rfl hd hg
  · rw [if_neg hc] at ho
    split at ho
    · cases ho
    · next h11 =>
      split at ho
      · next h15 =>
        cases ho
        obtain ⟨hT, hn⟩ := hE.2.2.2.2.1 (c0 - PK) (by omega) (by omega)
        show W _ _ _ _ _ _ _ _ _ _ _ _ _ _ _ (F0 m bp ls (.ref (adr base ext c0) :: _))
        rw [adr_ge hc]
        exact va_tlen hx hb hT hS rfl hd hg
      · cases ho
theorem g_zald (hF : Fx base ext adV cid D X k p s m args meth c) {c0 : Nat} {i x : Int} {a : Nat × (Nat → Int)} (hd : decode (mC k) bp = .ok (.baload, 1)) (ho : hInt .boolean h c0 = some a) (hi : at2 a.1 a.2 i = some x) (g : Gw base ext cid D k p l e R s m args below meth c Q (bp + 1) L (vI x :: st) h cs sl) : Gw base ext cid D k p l e R s m args below meth c Q bp L (vI i :: vR (some c0) :: st) h cs sl := by
  obtain ⟨hx, hb, hml, hown, hts, hK, hE, hnm⟩ := hF
  intro H locs ls hL hP hsz hS hcs
  unfold at2 at hi
  split at hi
  · next hr =>
    cases hi
    have hg := g H locs ls hL hP hsz hS hcs
    obtain ⟨hc, hh, hn⟩ := hInt_spec ho
    have hx2 := ix_in hr.1 hr.2 (by omega)
    show W _ _ _ _ _ _ _ _ _ _ _ _ _ _ _ (F0 m bp ls (.int (Int32.ofInt i) :: .ref (adr base ext c0) :: _))
    rw [adr_lt hc]
    refine va_zald hx hb hK hP c0 1 (cW_get hh) rfl hx2.1 hd ?_
    rw [hx2.2]
    exact hg
  · cases hi
theorem g_lald (hF : Fx base ext adV cid D X k p s m args meth c) {c0 : Nat} {i x : Int} {a : Nat × (Nat → Int)} (hd : decode (mC k) bp = .ok (.laload, 1)) (ho : hLong h c0 = some a) (hi : at2 a.1 a.2 i = some x) (g : Gw base ext cid D k p l e R s m args below meth c Q (bp + 1) L (vL x :: st) h cs sl) : Gw base ext cid D k p l e R s m args below meth c Q bp L (vI i :: vR (some c0) :: st) h cs sl := by
  obtain ⟨hx, hb, hml, hown, hts, hK, hE, hnm⟩ := hF
  intro H locs ls hL hP hsz hS hcs
  unfold at2 at hi
  split at hi
  · next hr =>
    cases hi
    have hg := g H locs ls hL hP hsz hS hcs
    obtain ⟨hc, hh, hn⟩ := hLong_spec ho
    have hx2 := ix_in hr.1 hr.2 (by omega)
    show W _ _ _ _ _ _ _ _ _ _ _ _ _ _ _ (F0 m bp ls (.int (Int32.ofInt i) :: .ref (adr base ext c0) :: _))
    rw [adr_lt hc]
    refine va_lald hx hb hK hP c0 2 (cW_get hh) rfl hx2.1 hd ?_
    rw [hx2.2]
    exact hg
  · cases hi
theorem g_aald (hF : Fx base ext adV cid D X k p s m args meth c) {c0 t0 : Nat} {i : Int} {C : String} {n : Nat} {f : Nat → Option Nat} (hd : decode (mC k) bp = .ok (.aaload, 1)) (ho : hRef h c0 = some (.object C, n, f)) (ht : (tysL cid)[t0]? = some (cid (.object C), .object C)) (h0 : 0 ≤ i) (h1 : i < n) (g : Gw base ext cid D k p l e R s m args below meth c Q (bp + 1) L (vR (f i.toNat) :: st) h cs sl) : Gw base ext cid D k p l e R s m args below meth c Q bp L (vI i :: vR (some c0) :: st) h cs sl := by
  obtain ⟨hx, hb, hml, hown, hts, hK, hE, hnm⟩ := hF
  intro H locs ls hL hP hsz hS hcs
  have hg := g H locs ls hL hP hsz hS hcs
  obtain ⟨hc, hh, hn⟩ := hRef_spec ho
  have hx2 := ix_in h0 h1 (by simp only at hn; omega)
  show W _ _ _ _ _ _ _ _ _ _ _ _ _ _ _ (F0 m bp ls (.int (Int32.ofInt i) :: .ref (adr base ext c0) :: _))
  rw [adr_lt hc]
  refine va_aldq hx hb hK hP c0 t0 (cW_get hh) ht hx2.1 hd ?_
  rw [hx2.2, cV_rf]
  exact hg
theorem up_int (f : Nat → Int) (i : Nat) (x : Int) : (fun j => Int32.ofInt (up f i x j)) = upd (fun j => Int32.ofInt (f j)) i (Int32.ofInt x) := by
  funext j
  unfold up upd
  split <;> rfl
theorem up_long (f : Nat → Int) (i : Nat) (x : Int) : (fun j => Int64.ofInt (up f i x j)) = vp_updL (fun j => Int64.ofInt (f j)) i (Int64.ofInt x) := by
  funext j
  unfold up vp_updL
  split <;> rfl
theorem up_ref (base : Nat) (ext : Nat → Nat) (f : Nat → Option Nat) (i : Nat) (x : Nat) : (fun j => (up f i (some x) j).map (adr base ext)) = va_up (fun j => (f j).map (adr base ext)) i (some (adr base ext x)) := by
  funext j
  unfold up va_up
  split <;> rfl
/-- behind a write: the heap has the size it had -/
theorem wr_on {c0 : Nat} {e1 : PE} {bp2 : Nat} {st2 : List PV} (g : Gw base ext cid D k p l e R s m args below meth c Q bp2 L st2 (h.set c0 e1) cs sl) {H : Heap} {ls : Array Slot} (h0 : 0 < h.length) (hL : LR base ext ls (mL k) L) (hsz : H.size = base + h.length) (hcs : s.heap.size + cs = H.size) {E1 : va_E} (hE1 : cE base ext cid e1 = E1) : ∀ (H1 : Heap) (locs1 : List Loc), va_P D vwCl ((cW base ext cid h).set c0 (base + c0, E1)) H1 → va_D (fun q => base ≤ q) ((cW base ext cid h).set c0 (base + c0, E1)) → va_S (fun q => base ≤ q) s.heap H1 locs1 → W p l e R s m args below meth c H1 locs1 cs sl Q (F0 m bp2 ls (st2.map (cV base ext))) := by
  intro H1 locs1 hP1 _ hS1
  subst hE1
  rw [cW_set] at hP1
  refine W.sz fun hz => ?_
  have hz2 := sz_le (ws := []) hP1 (by rw [List.length_set]; exact h0)
  rw [List.length_set] at hz2
  exact g H1 locs1 ls hL hP1 (by rw [List.length_set]; omega) hS1 (by omega)
theorem pos_of {h : PHp} {c0 : Nat} {e : PE} (hh : h[c0]? = some e) : 0 < h.length := by
  have := (List.getElem?_eq_some_iff.mp hh).1
  omega
theorem g_iast (hF : Fx base ext adV cid D X k p s m args meth c) {c0 : Nat} {i x : Int} {a : Nat × (Nat → Int)} (hd : decode (mC k) bp = .ok (.iastore, 1)) (ho : hInt .int h c0 = some a) (h0 : 0 ≤ i) (h1 : i < a.1) (g : Gw base ext cid D k p l e R s m args below meth c Q (bp + 1) L st (h.set c0 (.inl (.int, a.1, .inl (up a.2 i.toNat x)))) cs sl) : Gw base ext cid D k p l e R s m args below meth c Q bp L (vI x :: vI i :: vR (some c0) :: st) h cs sl := by
  obtain ⟨hx, hb, hml, hown, hts, hK, hE, hnm⟩ := hF
  intro H locs ls hL hP hsz hS hcs
  obtain ⟨hc, hh, hn⟩ := hInt_spec ho
  have hx2 := ix_in h0 h1 (by omega)
  show W _ _ _ _ _ _ _ _ _ _ _ _ _ _ _ (F0 m bp ls (.int (Int32.ofInt x) :: .int (Int32.ofInt i) :: .ref (adr base ext c0) :: _))
  rw [adr_lt hc]
  refine va_iast hx hb hK hP cW_D hS c0 0 (cW_get hh) rfl hx2.1 hd (wr_on g (pos_of hh) hL hsz hcs ?_)
  rw [hx2.2, ← up_int]
  rfl
theorem g_zast (hF : Fx base ext adV cid D X k p s m args meth c) {c0 : Nat} {i x : Int} {a : Nat × (Nat → Int)} (hd : decode (mC k) bp = .ok (.bastore, 1)) (ho : hInt .boolean h c0 = some a) (h0 : 0 ≤ i) (h1 : i < a.1) (hx01 : x = 0 ∨ x = 1) (g : Gw base ext cid D k p l e R s m args below meth c Q (bp + 1) L st (h.set c0 (.inl (.boolean, a.1, .inl (up a.2 i.toNat x)))) cs sl) : Gw base ext cid D k p l e R s m args below meth c Q bp L (vI x :: vI i :: vR (some c0) :: st) h cs sl := by
  obtain ⟨hx, hb, hml, hown, hts, hK, hE, hnm⟩ := hF
  intro H locs ls hL hP hsz hS hcs
  obtain ⟨hc, hh, hn⟩ := hInt_spec ho
  have hx2 := ix_in h0 h1 (by omega)
  show W _ _ _ _ _ _ _ _ _ _ _ _ _ _ _ (F0 m bp ls (.int (Int32.ofInt x) :: .int (Int32.ofInt i) :: .ref (adr base ext c0) :: _))
  rw [adr_lt hc]
  refine va_zast hx hb hK hP cW_D hS c0 1 (cW_get hh) rfl hx2.1 hd (wr_on g (pos_of hh) hL hsz hcs ?_)
  rw [hx2.2, show vp_nar .boolean (Int32.ofInt x) = Int32.ofInt x from by rcases hx01 with rfl | rfl <;> rfl, ← up_int]
  rfl
theorem g_last (hF : Fx base ext adV cid D X k p s m args meth c) {c0 : Nat} {i x : Int} {a : Nat × (Nat → Int)} (hd : decode (mC k) bp = .ok (.lastore, 1)) (ho : hLong h c0 = some a) (h0 : 0 ≤ i) (h1 : i < a.1) (g : Gw base ext cid D k p l e R s m args below meth c Q (bp + 1) L st (h.set c0 (.inl (.long, a.1, .inr (.inl (up a.2 i.toNat x))))) cs sl) : Gw base ext cid D k p l e R s m args below meth c Q bp L (vL x :: vI i :: vR (some c0) :: st) h cs sl := by
  obtain ⟨hx, hb, hml, hown, hts, hK, hE, hnm⟩ := hF
  intro H locs ls hL hP hsz hS hcs
  obtain ⟨hc, hh, hn⟩ := hLong_spec ho
  have hx2 := ix_in h0 h1 (by omega)
  show W _ _ _ _ _ _ _ _ _ _ _ _ _ _ _ (F0 m bp ls (.long (Int64.ofInt x) :: .int (Int32.ofInt i) :: .ref (adr base ext c0) :: _))
  rw [adr_lt hc]
  refine va_last hx hb hK hP cW_D hS c0 2 (cW_get hh) rfl hx2.1 hd (wr_on g (pos_of hh) hL hsz hcs ?_)
  rw [hx2.2, ← up_long]
  rfl
theorem g_aast (hF : Fx base ext adV cid D X k p s m args meth c) {c0 v ci t0 n : Nat} {i : Int} {f : Nat → Option Nat} (hd : decode (mC k) bp = .ok (.aastore, 1)) (ho : hRef h c0 = some (.object (vC ci).1, n, f)) (hci : ci < 12) (hv : (hObj h v ci).isSome = true) (ht : (tysL cid)[t0]? = some (cid (.object (vC ci).1), .object (vC ci).1)) (h0 : 0 ≤ i) (h1 : i < n) (g : Gw base ext cid D k p l e R s m args below meth c Q (bp + 1) L st (h.set c0 (.inl (.object (vC ci).1, n, .inr (.inr (up f i.toNat (some v)))))) cs sl) : Gw base ext cid D k p l e R s m args below meth c Q bp L (vR (some v) :: vI i :: vR (some c0) :: st) h cs sl := by
  obtain ⟨hx, hb, hml, hown, hts, hK, hE, hnm⟩ := hF
  intro H locs ls hL hP hsz hS hcs
  obtain ⟨hc, hh, hn⟩ := hRef_spec ho
  obtain ⟨fs, hfs⟩ := Option.isSome_iff_exists.mp hv
  obtain ⟨hvc, hvh⟩ := hObj_spec hfs
  have hx2 := ix_in h0 h1 (by simp only at hn; omega)
  show W _ _ _ _ _ _ _ _ _ _ _ _ _ _ _ (F0 m bp ls (.ref (adr base ext v) :: .int (Int32.ofInt i) :: .ref (adr base ext c0) :: _))
  rw [adr_lt hc, adr_lt hvc]
  refine va_astq (r := vC ci) hx hb hK hP cW_D hS c0 t0 v ci (cW_get hh) ht (cW_get hvh) (vC_at ci hci) hx2.1 hd (wr_on g (pos_of hh) hL hsz hcs ?_)
  rw [hx2.2, ← adr_lt (base := base) (ext := ext) hvc, ← up_ref]
  rfl
/-- a new cell lies behind all others -/
theorem new_on {e1 : PE} {bp2 q n1 : Nat} {st2 : List PV} (g : Gw base ext cid D k p l e R s m args below meth c Q bp2 L (vR (some h.length) :: st2) (h ++ [e1]) (cs + 1) n1) (hk : h.length < PK) {H : Heap} {ls : Array Slot} (hL : LR base ext ls (mL k) L) (hsz : H.size = base + h.length) (hcs : s.heap.size + cs = H.size) {E1 : va_E} (hE1 : cE base ext cid e1 = E1) (H1 : Heap) (locs1 : List Loc) (hP1 : va_P D vwCl (cW base ext cid h ++ [(q, E1)]) H1) (hD1 : va_D (fun q => base ≤ q) (cW base ext cid h ++ [(q, E1)])) (hS1 : va_S (fun q => base ≤ q) s.heap H1 locs1) : W p l e R s m args below meth c H1 locs1 (cs + 1) n1 Q (F0 m bp2 ls (.ref q :: st2.map (cV base ext))) := by
  refine W.sz fun hz => ?_
  have hlast : (cW base ext cid h ++ [(q, E1)])[h.length]? = some (q, E1) := by
    rw [List.getElem?_append_right (by rw [cW_len]; omega), cW_len, Nat.sub_self]
    rfl
  have hq1 : q < H1.size := (hP1 h.length _ hlast).lt
  have hq2 : base ≤ q := hD1.2 _ _ hlast
  have hq3 : ∀ i, i < h.length → q ≠ base + i := by
    intro i hi he
    have hi2 : (cW base ext cid h ++ [(q, E1)])[i]? = some (base + i, cE base ext cid h[i]) := by
      rw [List.getElem?_append_left (by rw [cW_len]; exact hi)]
      exact cW_get (List.getElem?_eq_getElem hi)
    have := hD1.1 _ _ _ _ hlast hi2 he
    omega
  have hq : q = base + h.length := by
    rcases Nat.lt_or_ge q (base + h.length) with w | w
    · exact absurd (show q = base + (q - base) by omega) (hq3 (q - base) (by omega))
    · omega
  subst hq
  subst hE1
  rw [cW_push] at hP1
  have hg := g H1 locs1 ls hL hP1 (by rw [List.length_append]; simp only [List.length_singleton]; omega) hS1 (by omega)
  rw [List.map_cons, show cV base ext (vR (some h.length)) = .ref (base + h.length) from congrArg Value.ref (adr_lt hk)] at hg
  exact hg

end ROWS
end
section
/-! MAKING, CALLING, RETURNING -/
theorem mem_pos {ps : List Nat} {f : Nat → Cond} {n : Nat} (h : ps.map (fun i => lw_tbl[i]?) = (List.range n).map (fun k => some (f k))) {k : Nat} (hk : k < n) : f k ∈ lw_tbl := by
  have h1 : some (f k) ∈ (List.range n).map (fun k => some (f k)) := List.mem_map.mpr ⟨k, List.mem_range.mpr hk, rfl⟩
  rw [← h] at h1
  obtain ⟨i, -, hi⟩ := List.mem_map.mp h1
  exact List.mem_of_getElem? hi
theorem cl_inst {ci : Nat} (h : ci < 12) : Cond.instantiable (vC ci).1 (vC ci).2.2 ∈ TB := List.mem_filter.mpr ⟨mem_pos (f := fun ci => Cond.instantiable (vC ci).1 (vC ci).2.2) cl_in h, rfl⟩
theorem cl_init {ci : Nat} (h : ci < 12) : Cond.initialized (vC ci).1 ∈ TB := List.mem_filter.mpr ⟨mem_pos (f := fun ci => Cond.initialized (vC ci).1) cl_it h, rfl⟩
theorem me_init {k : Nat} (h : k < 284) : Cond.initialized (mY k).cls ∈ TB := List.mem_filter.mpr ⟨mem_pos (f := fun k => Cond.initialized (mY k).cls) mk_in h, rfl⟩
theorem me_static {k : Nat} (h : k < 284) (h0 : mK k = 0) : Cond.static (mY k) ∈ TB := by
  have h1 := mem_pos (f := fun k => if mK k = 0 then Cond.static (mY k) else Cond.instanceMethod (mY k)) mk_me h
  rw [if_pos h0] at h1
  exact List.mem_filter.mpr ⟨h1, rfl⟩
theorem me_inst {k : Nat} (h : k < 284) (h0 : ¬ mK k = 0) : Cond.instanceMethod (mY k) ∈ TB := by
  have h1 := mem_pos (f := fun k => if mK k = 0 then Cond.static (mY k) else Cond.instanceMethod (mY k)) mk_me h
  rw [if_neg h0] at h1
  exact List.mem_filter.mpr ⟨h1, rfl⟩
theorem me_sel {k : Nat} (h : k < 284) (h1 : mK k = 1) : Cond.selects (mY k).cls (mY k) (mY k) ∈ TB := by
  have h2 := List.all_eq_true.mp mk_se k (List.mem_range.mpr h)
  rw [if_pos h1] at h2
  exact List.mem_filter.mpr ⟨List.mem_of_getElem? (of_decide_eq_true h2), rfl⟩
theorem me_fa {k : Nat} (h : k < 284) : (mY k).cls ≠ "java/lang/invoke/MethodHandle" ∧ (mY k).cls ≠ "java/lang/invoke/VarHandle" ∧ (mK k = 2 ↔ (mY k).name = "<init>") ∧ cN (mO k) = (mY k).cls ∧ plainName (mY k).cls = true := by
  have h2 := List.all_eq_true.mp mk_fa k (List.mem_range.mpr h)
  simp only [Bool.and_eq_true, decide_eq_true_eq] at h2
  obtain ⟨a1, a2, a3, a4, a5⟩ := h2
  refine ⟨a1, a2, ?_, a4, ?_⟩
  · constructor
    · intro q
      rw [decide_eq_true q] at a3
      exact of_decide_eq_true a3.symm
    · intro q
      rw [decide_eq_true q] at a3
      exact of_decide_eq_true a3
  · rw [← a4]
    exact pn_all _ a5
def mW (k : Nat) : List Cond := Cond.code (mY k) (mC k) (mL k) (mR k) :: TB
theorem mW_good {k : Nat} (h : k < 284) : GoodIn TB (mW k) := by
  intro w hw
  rcases List.mem_cons.mp hw with rfl | hw
  · exact ⟨mk_co k h, TB_gd (mk_co k h)⟩
  · exact ⟨hw, TB_gd hw⟩
theorem ft_all : (List.range 12).all (fun ci => (List.range (vC ci).2.2).all fun j => decide (ftC ci j < 3)) = true := by decide +kernel
theorem cat_sum {base : Nat} {ext : Nat → Nat} : ∀ (r : List PV), ((r.map (cV base ext)).map fun v => v.category).sum = catS r
  | [] => rfl
  | .inl x :: r => by
    have := cat_sum (base := base) (ext := ext) r
    simp only [List.map_cons, List.sum_cons, catS] at this ⊢
    rw [this]; rfl
  | .inr (.inl x) :: r => by
    have := cat_sum (base := base) (ext := ext) r
    simp only [List.map_cons, List.sum_cons, catS] at this ⊢
    rw [this]; rfl
  | .inr (.inr none) :: r => by
    have := cat_sum (base := base) (ext := ext) r
    simp only [List.map_cons, List.sum_cons, catS] at this ⊢
    rw [this]; rfl
  | .inr (.inr (some x)) :: r => by
    have := cat_sum (base := base) (ext := ext) r
    simp only [List.map_cons, List.sum_cons, catS] at this ⊢
    rw [this]; rfl
section CALLS
variable {base : Nat} {ext adV : Nat → Nat} {cid : FieldType → ClassId} {D : va_G} {X : PX} {k : Nat} {p : Program} {l : Launch} {e : Env} {R : Room} {s : State} {m : MethodId} {args : Array Value} {below : List Frame} {meth : Method} {c : Code} {Q : State → Prop} {bp : Nat} {L : PL} {st : List PV} {h : PHp} {cs sl : Nat}
theorem g_newa (hF : Fx base ext adV cid D X k p s m args meth c) {at_ : ArrayType} {ty : FieldType} {n : Int} {t0 : Nat} {e1 : PE} {a0 : vp_A} (hd : decode (mC k) bp = .ok (.newarray at_, 2)) (hty : newarray.typeOf at_ = ty) (hprim : ∀ (U : State) (cA : ClassId), va_RA U cA ty → U.vm.findClass ("[" ++ ty.toString) = some cA) (harr : Cond.arrayClass ty ∈ TB) (ht : (tysL cid)[t0]? = some (cid ty, ty)) (hE1 : cE base ext cid e1 = .inl (cid ty, a0)) (ha : ∀ cA : ClassId, vp_cell cA a0 = arrV cA n.toNat (fun _ => defaultValue ty)) (h0 : 0 ≤ n) (hn : n ≤ 100000) (hb4 : componentBytes ty ≤ 8) (hk : h.length < PK) (hc1 : cs + 1 ≤ R.cells) (hs1 : sl + n.toNat ≤ R.slots) (g : Gw base ext cid D k p l e R s m args below meth c Q (bp + 2) L (vR (some h.length) :: st) (h ++ [e1]) (cs + 1) (sl + n.toNat)) : Gw base ext cid D k p l e R s m args below meth c Q bp L (vI n :: st) h cs sl := by
  obtain ⟨hx, hb, hml, hown, hts, hK, hE, hnm⟩ := hF
  intro H locs ls hL hP hsz hS hcs
  have en : (Int32.ofInt n).toInt = n := Int32.toInt_ofInt_of_le (by omega) (by omega)
  refine va_newa (a0 := a0) (N' := n.toNat) hx hb (by rw [hty]; exact hts _ harr) hty hK hP cW_D hS (fun q hq => by
      have := hnm.2
      show base ≤ q
      omega) ha (by rw [Int32.lt_iff_toInt_lt, en, Int32.toInt_zero]; omega) (by rw [Int32.toNatClampNeg, en]) (Nat.le_trans (Nat.mul_le_mul_left _ hb4) (by omega)) hc1 hs1 hd (fun q cA H1 hK1 hP1 hD1 hS1 => ?_)
  have e2 : cA = cid ty := by
    have r1 := hprim _ _ (hK1.2 (tysL cid).length (cA, ty) (by rw [List.getElem?_append_right (Nat.le_refl _), Nat.sub_self]; rfl)).2
    have r2 := hprim _ _ (hK.2 t0 _ ht).2
    exact Option.some.inj (r1.symm.trans r2)
  subst e2
  exact new_on g hk hL hsz hcs hE1 H1 locs hP1 hD1 hS1
theorem g_newi (hF : Fx base ext adV cid D X k p s m args meth c) {n : Int} (hd : decode (mC k) bp = .ok (.newarray .int, 2)) (h0 : 0 ≤ n) (hn : n ≤ 100000) (hk : h.length < PK) (hc1 : cs + 1 ≤ R.cells) (hs1 : sl + n.toNat ≤ R.slots) (g : Gw base ext cid D k p l e R s m args below meth c Q (bp + 2) L (vR (some h.length) :: st) (h ++ [.inl (.int, n.toNat, .inl fun _ => 0)]) (cs + 1) (sl + n.toNat)) : Gw base ext cid D k p l e R s m args below meth c Q bp L (vI n :: st) h cs sl :=
  g_newa hF hd rfl (fun _ _ q => q) (TB_at 220 (by decide +kernel) (by decide +kernel)) (t0 := 0) rfl (a0 := (n.toNat, .inl fun _ => 0)) rfl (fun _ => rfl) h0 hn (by decide) hk hc1 hs1 g
theorem g_newz (hF : Fx base ext adV cid D X k p s m args meth c) {n : Int} (hd : decode (mC k) bp = .ok (.newarray .boolean, 2)) (h0 : 0 ≤ n) (hn : n ≤ 100000) (hk : h.length < PK) (hc1 : cs + 1 ≤ R.cells) (hs1 : sl + n.toNat ≤ R.slots) (g : Gw base ext cid D k p l e R s m args below meth c Q (bp + 2) L (vR (some h.length) :: st) (h ++ [.inl (.boolean, n.toNat, .inl fun _ => 0)]) (cs + 1) (sl + n.toNat)) : Gw base ext cid D k p l e R s m args below meth c Q bp L (vI n :: st) h cs sl :=
  g_newa hF hd rfl (fun _ _ q => q) (TB_at 330 (by decide +kernel) (by decide +kernel)) (t0 := 1) rfl (a0 := (n.toNat, .inl fun _ => 0)) rfl (fun _ => rfl) h0 hn (by decide) hk hc1 hs1 g
theorem g_newl (hF : Fx base ext adV cid D X k p s m args meth c) {n : Int} (hd : decode (mC k) bp = .ok (.newarray .long, 2)) (h0 : 0 ≤ n) (hn : n ≤ 100000) (hk : h.length < PK) (hc1 : cs + 1 ≤ R.cells) (hs1 : sl + n.toNat ≤ R.slots) (g : Gw base ext cid D k p l e R s m args below meth c Q (bp + 2) L (vR (some h.length) :: st) (h ++ [.inl (.long, n.toNat, .inr (.inl fun _ => 0))]) (cs + 1) (sl + n.toNat)) : Gw base ext cid D k p l e R s m args below meth c Q bp L (vI n :: st) h cs sl :=
  g_newa hF hd rfl (fun _ _ q => q) (TB_at 514 (by decide +kernel) (by decide +kernel)) (t0 := 2) rfl (a0 := (n.toNat, .inr (.inl fun _ => 0))) rfl (fun _ => rfl) h0 hn (by decide) hk hc1 hs1 g
theorem g_anew (hF : Fx base ext adV cid D X k p s m args meth c) {ix ci t0 : Nat} {n : Int} (hd : decode (mC k) bp = .ok (.anewarray ix, 3)) (hl : (3, ix, ci, 0) ∈ lks (mO k)) (hci : ci = 6 ∨ ci = 7 ∨ ci = 9) (ht : (tysL cid)[t0]? = some (cid (.object (vC ci).1), .object (vC ci).1)) (h0 : 0 ≤ n) (hn : n ≤ 100000) (hk : h.length < PK) (hc1 : cs + 1 ≤ R.cells) (hs1 : sl + n.toNat ≤ R.slots) (g : Gw base ext cid D k p l e R s m args below meth c Q (bp + 3) L (vR (some h.length) :: st) (h ++ [.inl (.object (vC ci).1, n.toNat, .inr (.inr fun _ => none))]) (cs + 1) (sl + n.toNat)) : Gw base ext cid D k p l e R s m args below meth c Q bp L (vI n :: st) h cs sl := by
  obtain ⟨hx, hb, hml, hown, hts, hK, hE, hnm⟩ := hF
  intro H locs ls hL hP hsz hS hcs
  have en : (Int32.ofInt n).toInt = n := Int32.toInt_ofInt_of_le (by omega) (by omega)
  refine va_newq (C := (vC ci).1) (N' := n.toNat) hx hb hown (hts _ (lk_ok (mO k) _ hl (by simp) (by simp))) (hE.2.2.2.2.2.1 ci hci) hK hP cW_D hS (fun q hq => by
      have := hnm.2
      show base ≤ q
      omega) (by rw [Int32.lt_iff_toInt_lt, en, Int32.toInt_zero]; omega) (by rw [Int32.toNatClampNeg, en]) (by omega) hc1 hs1 hd (fun q cA H1 hK1 hP1 hD1 hS1 => ?_)
  have e2 : cA = cid (.object (vC ci).1) := by
    obtain ⟨kA, comp, -, -, -, r1⟩ := (hK1.2 (tysL cid).length (cA, .object (vC ci).1) (by rw [List.getElem?_append_right (Nat.le_refl _), Nat.sub_self]; rfl)).2
    obtain ⟨kA2, comp2, -, -, -, r2⟩ := (hK.2 t0 _ ht).2
    exact Option.some.inj (r1.symm.trans r2)
  subst e2
  exact new_on g hk hL hsz hcs rfl H1 locs hP1 hD1 hS1
theorem dv_ok {base : Nat} {ext : Nat → Nat} {ty : FieldType} (h : tyC (some ty) < 3) : defaultValue ty = cV base ext (if tyC (some ty) = 2 then vR none else vI 0) := by
  cases ty <;> first | rfl | (simp [tyC] at h; done)
theorem g_new (hF : Fx base ext adV cid D X k p s m args meth c) {ix ci : Nat} {ts : List Nat} (hd : decode (mC k) bp = .ok (.new ix, 3)) (hl : (3, ix, ci, 0) ∈ lks (mO k)) (hci : ci < 12) (hts2 : ts = (List.range (vC ci).2.2).map (ftC ci)) (hk : h.length < PK) (hc1 : cs + 1 ≤ R.cells) (hs1 : sl + ts.length ≤ R.slots) (g : Gw base ext cid D k p l e R s m args below meth c Q (bp + 3) L (vR (some h.length) :: st) (h ++ [.inr (ci, fdef ts)]) (cs + 1) (sl + ts.length)) : Gw base ext cid D k p l e R s m args below meth c Q bp L st h cs sl := by
  obtain ⟨hx, hb, hml, hown, hts, hK, hE, hnm⟩ := hF
  intro H locs ls hL hP hsz hS hcs
  have hlen : ts.length = (vC ci).2.2 := by rw [hts2]; simp
  rw [hlen] at hs1 g
  refine va_new (C := (vC ci).1) (T := (vC ci).2.1) (N := (vC ci).2.2) (fs := (fdef ts).map (cV base ext)) hx hb hts (uw_all ci hci) (tyA ci) (ty_all ci hci) hown (hts _ (lk_ok (mO k) _ hl (by simp) (by simp))) (hts _ (cl_inst hci)) (hts _ (cl_init hci)) hK hP cW_D hS (fun q hq => by
      have := hnm.2
      show base ≤ q
      omega) (vC_at ci hci) (fun j hj => ?_) hc1 hs1 hd (fun q H1 hP1 hD1 hS1 => ?_)
  · have hf : ftC ci j < 3 := of_decide_eq_true (List.all_eq_true.mp (List.all_eq_true.mp ft_all ci (List.mem_range.mpr hci)) j (List.mem_range.mpr hj))
    have hpd := ty_all ci hci j hj
    have hfe : ftC ci j = tyC (some (tyA ci j)) := by rw [ftC, hpd]
    rw [hfe] at hf
    rw [dv_ok (base := base) (ext := ext) hf, ← hfe]
    have hj2 : ts[j]? = some (ftC ci j) := by rw [hts2, List.getElem?_map, List.getElem?_range hj]; rfl
    simp [vp_V, fdef, hj2]
  · exact new_on g hk hL hsz hcs rfl H1 locs hP1 hD1 hS1
theorem g_objInit (hF : Fx base ext adV cid D X k p s m args meth c) {ix c0 : Nat} (hd : decode (mC k) bp = .ok (.invokespecial ix, 3)) (hl : (7, ix, 0, 0) ∈ lks (mO k)) (hc8 : catS st ≤ 8) (hfr : 1 ≤ R.frames) (hlo : 20 ≤ R.locals) (g : Gw base ext cid D k p l e R s m args below meth c Q (bp + 3) L st h cs sl) : Gw base ext cid D k p l e R s m args below meth c Q bp L (vR (some c0) :: st) h cs sl := by
  obtain ⟨hx, hb, hml, hown, hts, hK, hE, hnm⟩ := hF
  intro H locs ls hL hP hsz hS hcs
  refine W.objInit (idx := ix) hx hb hown (hts _ (lk_ok (mO k) _ hl (by simp) (by simp))) (hts _ (TB_at 133 (by decide +kernel) (by decide +kernel))) (hts _ (TB_at 134 (by decide +kernel) (by decide +kernel))) rfl (hL.2.1.trans hml.symm) rfl hd hfr ?_ (g H locs ls hL hP hsz hS hcs)
  show 2 * 0 + ((st.map (cV base ext)).map fun v => v.category).sum + 12 ≤ R.locals
  rw [cat_sum]
  omega
theorem nn_of {n : Int} (h0 : 0 ≤ n) (hn : n ≤ 200000) : ¬ Int32.ofInt n < 0 ∧ (Int32.ofInt n).toNatClampNeg = n.toNat := by
  have en : (Int32.ofInt n).toInt = n := Int32.toInt_ofInt_of_le (by omega) (by omega)
  exact ⟨by rw [Int32.lt_iff_toInt_lt, en, Int32.toInt_zero]; omega, by rw [Int32.toNatClampNeg, en]⟩
theorem cpy_int (f g : Nat → Int) (a b n : Nat) : (fun j => Int32.ofInt (cpy f g a b n j)) = va_cpy (fun j => Int32.ofInt (f j)) (fun j => Int32.ofInt (g j)) a b n := by
  funext j
  unfold cpy va_cpy
  split <;> rfl
theorem g_copy (hF : Fx base ext adV cid D X k p s m args meth c) {ix s0 d0 : Nat} {sp dp n : Int} {a b : Nat × (Nat → Int)} (hd : decode (mC k) bp = .ok (.invokestatic ix, 3)) (hl : (8, ix, 0, 0) ∈ lks (mO k)) (ha : hInt .int h s0 = some a) (hb2 : hInt .int h d0 = some b) (h1 : 0 ≤ sp) (h2 : 0 ≤ dp) (h3 : 0 ≤ n) (h4 : sp + n ≤ a.1) (h5 : dp + n ≤ b.1) (hc8 : catS st ≤ 8) (hfr : 1 ≤ R.frames) (hlo : 60 ≤ R.locals) (g : Gw base ext cid D k p l e R s m args below meth c Q (bp + 3) L st (h.set d0 (.inl (.int, b.1, .inl (cpy a.2 b.2 sp.toNat dp.toNat n.toNat)))) cs sl) : Gw base ext cid D k p l e R s m args below meth c Q bp L (vI n :: vI dp :: vR (some d0) :: vI sp :: vR (some s0) :: st) h cs sl := by
  obtain ⟨hx, hb, hml, hown, hts, hK, hE, hnm⟩ := hF
  intro H locs ls hL hP hsz hS hcs
  obtain ⟨hca, hha, hna⟩ := hInt_spec ha
  obtain ⟨hcb, hhb, hnb⟩ := hInt_spec hb2
  have q1 := nn_of h1 (by omega)
  have q2 := nn_of h2 (by omega)
  have q3 := nn_of h3 (by omega)
  show W _ _ _ _ _ _ _ _ _ _ _ _ _ _ _ (F0 m bp ls (.int (Int32.ofInt n) :: .int (Int32.ofInt dp) :: .ref (adr base ext d0) :: .int (Int32.ofInt sp) :: .ref (adr base ext s0) :: _))
  rw [adr_lt hca, adr_lt hcb]
  refine va_copyi (ty := .int) hx hb (hml.trans hL.2.1.symm) hown (hts _ (lk_ok (mO k) _ hl (by simp) (by simp))) (hts _ (TB_at 735 (by decide +kernel) (by decide +kernel))) (hts _ (TB_at 734 (by decide +kernel) (by decide +kernel))) (hts _ (TB_at 123 (by decide +kernel) (by decide +kernel))) hK hP cW_D hS s0 d0 0 0 (cW_get hha) (cW_get hhb) rfl rfl rfl q1.1 q2.1 q3.1 (by rw [q1.2, q3.2]; omega) (by rw [q2.2, q3.2]; omega) (fun _ _ => rfl) hfr ?_ hd (wr_on g (pos_of hhb) hL hsz hcs ?_)
  · rw [cat_sum, show nativeFrameWords "java/lang/System" "arraycopy" 5 = 7 from by decide]
    omega
  · rw [q1.2, q2.2, q3.2, ← cpy_int]
    rfl
theorem g_max (hF : Fx base ext adV cid D X k p s m args meth c) {ix : Nat} {x y : Int} (hd : decode (mC k) bp = .ok (.invokestatic ix, 3)) (hl : (12, ix, 0, 0) ∈ lks (mO k)) (hc8 : catS st ≤ 8) (hfr : 1 ≤ R.frames) (hlo : 25 ≤ R.locals) (hc1 : cs ≤ R.cells) (hs1 : sl ≤ R.slots) (g : Gw base ext cid D k p l e R s m args below meth c Q (bp + 3) L (vI (if Int32.ofInt x < Int32.ofInt y then y else x) :: st) h cs sl) : Gw base ext cid D k p l e R s m args below meth c Q bp L (vI y :: vI x :: st) h cs sl := by
  obtain ⟨hx, hb, hml, hown, hts, hK, hE, hnm⟩ := hF
  intro H locs ls hL hP hsz hS hcs
  have hg := g H locs ls hL hP hsz hS hcs
  have q : cV base ext (vI (if Int32.ofInt x < Int32.ofInt y then y else x)) = .int (if Int32.ofInt x < Int32.ofInt y then Int32.ofInt y else Int32.ofInt x) := by
    split <;> rfl
  rw [List.map_cons, q] at hg
  refine va_mmax hx hb (hml.trans hL.2.1.symm) hown (hts _ (lk_ok (mO k) _ hl (by simp) (by simp))) (hts _ (TB_at 890 (by decide +kernel) (by decide +kernel))) (hts _ (TB_at 125 (by decide +kernel) (by decide +kernel))) (hts _ (TB_at 891 (by decide +kernel) (by decide +kernel))) hfr ?_ hc1 hs1 hd hg
  rw [cat_sum]
  omega
theorem g_min (hF : Fx base ext adV cid D X k p s m args meth c) {ix : Nat} {x y : Int} (hd : decode (mC k) bp = .ok (.invokestatic ix, 3)) (hl : (13, ix, 0, 0) ∈ lks (mO k)) (hc8 : catS st ≤ 8) (hfr : 1 ≤ R.frames) (hlo : 25 ≤ R.locals) (hc1 : cs ≤ R.cells) (hs1 : sl ≤ R.slots) (g : Gw base ext cid D k p l e R s m args below meth c Q (bp + 3) L (vI (if Int32.ofInt y < Int32.ofInt x then y else x) :: st) h cs sl) : Gw base ext cid D k p l e R s m args below meth c Q bp L (vI y :: vI x :: st) h cs sl := by
  obtain ⟨hx, hb, hml, hown, hts, hK, hE, hnm⟩ := hF
  intro H locs ls hL hP hsz hS hcs
  have hg := g H locs ls hL hP hsz hS hcs
  have q : cV base ext (vI (if Int32.ofInt y < Int32.ofInt x then y else x)) = .int (if Int32.ofInt y < Int32.ofInt x then Int32.ofInt y else Int32.ofInt x) := by
    split <;> rfl
  rw [List.map_cons, q] at hg
  refine va_mmin hx hb (hml.trans hL.2.1.symm) hown (hts _ (lk_ok (mO k) _ hl (by simp) (by simp))) (hts _ (TB_at 847 (by decide +kernel) (by decide +kernel))) (hts _ (TB_at 125 (by decide +kernel) (by decide +kernel))) (hts _ (TB_at 848 (by decide +kernel) (by decide +kernel))) hfr ?_ hc1 hs1 hd hg
  rw [cat_sum]
  omega
theorem g_abs (hF : Fx base ext adV cid D X k p s m args meth c) {ix : Nat} {x : Int} (hd : decode (mC k) bp = .ok (.invokestatic ix, 3)) (hl : (14, ix, 0, 0) ∈ lks (mO k)) (hc8 : catS st ≤ 8) (hfr : 1 ≤ R.frames) (hlo : 25 ≤ R.locals) (hc1 : cs ≤ R.cells) (hs1 : sl ≤ R.slots) (g : Gw base ext cid D k p l e R s m args below meth c Q (bp + 3) L (vI (if Int32.ofInt x < 0 then -x else x) :: st) h cs sl) : Gw base ext cid D k p l e R s m args below meth c Q bp L (vI x :: st) h cs sl := by
  obtain ⟨hx, hb, hml, hown, hts, hK, hE, hnm⟩ := hF
  intro H locs ls hL hP hsz hS hcs
  have hg := g H locs ls hL hP hsz hS hcs
  have q : cV base ext (vI (if Int32.ofInt x < 0 then -x else x)) = .int (if 0 ≤ Int32.ofInt x then Int32.ofInt x else 0 - Int32.ofInt x) := by
    by_cases h0 : Int32.ofInt x < 0
    · rw [if_pos h0, if_neg (by rw [Int32.not_le]; exact h0)]
      show Value.int (Int32.ofInt (-x)) = _
      rw [← o_neg, Int32.zero_sub]
    · rw [if_neg h0, if_pos (Int32.not_lt.mp h0)]
      rfl
  rw [List.map_cons, q] at hg
  refine va_mabs hx hb (hml.trans hL.2.1.symm) hown (hts _ (lk_ok (mO k) _ hl (by simp) (by simp))) (hts _ (TB_at 1125 (by decide +kernel) (by decide +kernel))) (hts _ (TB_at 125 (by decide +kernel) (by decide +kernel))) (hts _ (TB_at 1126 (by decide +kernel) (by decide +kernel))) hfr ?_ hc1 hs1 hd hg
  rw [cat_sum]
  omega
end CALLS
end
section
/-! CALLS AND ENDS -/
section SND
variable {base : Nat} {ext adV : Nat → Nat} {cid : FieldType → ClassId} {D : va_G} {X : PX} {k : Nat} {p : Program} {l : Launch} {e : Env} {R : Room} {s : State} {m : MethodId} {args : Array Value} {below : List Frame} {meth : Method} {c : Code} {Q : State → Prop} {bp : Nat} {L : PL} {st : List PV} {h : PHp} {cs sl : Nat}
theorem after_call {v : Option PV} {h2 : PHp} {r : List PV} {bp2 mc ms : Nat} (g : Gw base ext cid D k p l e R s m args below meth c Q bp2 L (v.toList ++ r) h2 (cs + mc) (sl + ms)) {H : Heap} {ls : Array Slot} (hL : LR base ext ls (mL k) L) (hsz : H.size = base + h.length) (hcs : s.heap.size + cs = H.size) : ∀ (H1 : Heap) (locs1 : List Loc), (∃ t : State, t.heap = H1 ∧ PosP base ext cid D (h.length + mc) h2 t) → va_S (fun q => base ≤ q) s.heap H1 locs1 → W p l e R s m args below meth c H1 locs1 (cs + mc) (sl + ms) Q (F0 m bp2 ls ((v.map (cV base ext)).toList ++ r.map (cV base ext))) := by
  rintro H1 locs1 ⟨t, rfl, q1, q2, q3⟩ hS1
  have hg := g t.heap locs1 ls hL q1 q2 hS1 (by omega)
  rw [List.map_append, show v.toList.map (cV base ext) = (v.map (cV base ext)).toList from by cases v <;> rfl] at hg
  exact hg
theorem pre_of (hK : va_K D vwCl (tysL cid) s) (hE : EX base ext adV X s) {H : Heap} {locs : List Loc} (hP : va_P D vwCl (cW base ext cid h) H) (hsz : H.size = base + h.length) (hS : va_S (fun q => base ≤ q) s.heap H locs) {U : State} (hU : U.heap = H) (hW : s.WarmedH U.vm) : PreP base ext adV cid D X h U :=
  ⟨by rw [hU]; exact hP, by rw [hU]; exact hsz, va_K.moved hW.alike hK, hE.go hW (fun a h1 h2 => by rw [hU]; exact hS.2.1 a h1 h2)⟩
theorem st_split {n c0 : Nat} {r : List PV} (hdrop : st.drop n = vR (some c0) :: r) : st.map (cV base ext) = (((st.take n).reverse).map (cV base ext)).reverse ++ Value.ref (adr base ext c0) :: r.map (cV base ext) ∧ (((st.take n).reverse).map (cV base ext)).length = n := by
  have hlt : n < st.length := by
    rcases Nat.lt_or_ge n st.length with q | q
    · exact q
    · rw [List.drop_eq_nil_of_le q] at hdrop; cases hdrop
  constructor
  · rw [← List.map_reverse, List.reverse_reverse]
    have e1 : st = st.take n ++ st.drop n := (List.take_append_drop n st).symm
    rw [e1, hdrop, List.map_append]
    simp only [List.map_cons]
    rw [show List.take n (List.take n st ++ vR (some c0) :: r) = List.take n st from by rw [List.take_append_of_le_length (by rw [List.length_take]; omega), List.take_take, Nat.min_self]]
    rfl
  · rw [List.length_map, List.length_reverse, List.length_take]; omega
theorem cat8 {r : List PV} (h8 : catS r ≤ 8) : ((r.map (cV base ext)).map fun v => v.category).sum ≤ 8 := by rw [cat_sum]; exact h8
/-- invokevirtual -/
theorem g_virt (hF : Fx base ext adV cid D X k p s m args meth c) {ix k2 n ci c0 : Nat} {r : List PV} {v : Option PV} {h2 : PHp} (hd : decode (mC k) bp = .ok (.invokevirtual ix, 3)) (hl : (1, ix, k2, 0) ∈ lks (mO k)) (hk2 : k2 < 284) (hkd : mK k2 = 1) (hcls : (vC ci).1 = (mY k2).cls) (hci : ci < 12) (hpar : (parseMethodDescriptor (mY k2).desc).map (fun d => d.parameters.length) = some n) (hfr : mFr k2 + 1 ≤ R.frames) (hlo : 8 + (mL k2 + 11) + mLo k2 ≤ R.locals) (hdrop : st.drop n = vR (some c0) :: r) (hrec : (hObj h c0 ci).isSome = true) (hc8 : catS r ≤ 8) (hrc : cs + mMc k2 ≤ R.cells) (hrs : sl + mMs k2 ≤ R.slots) (hM : MetP base ext adV cid D X l (mY k2) (mW k2) (mRm k2) (mMc k2) (mMs k2) (vR (some c0) :: (st.take n).reverse) h v h2) (g : Gw base ext cid D k p l e R s m args below meth c Q (bp + 3) L (v.toList ++ r) h2 (cs + mMc k2) (sl + mMs k2)) : Gw base ext cid D k p l e R s m args below meth c Q bp L st h cs sl := by
  obtain ⟨hx, hb, hml, hown, hts, hK, hE, hnm⟩ := hF
  intro H locs ls hL hP hsz hS hcs
  obtain ⟨fs, hfs⟩ := Option.isSome_iff_exists.mp hrec
  obtain ⟨hvc, hvh⟩ := hObj_spec hfs
  have hst := st_split (base := base) (ext := ext) hdrop
  have hfa := me_fa hk2
  have hG : GoodIn TB (wsV (cN (mO k)) ix (mY k2).cls (mY k2) (mW k2)) := by
    intro w hw
    have : w ∈ TB := by
      rcases List.mem_append.mp hw with hw | hw
      · simp only [List.mem_cons, List.not_mem_nil, or_false] at hw
        rcases hw with rfl | rfl | rfl | rfl
        · exact lk_ok (mO k) _ hl (by simp) (by simp)
        · exact me_inst hk2 (by omega)
        · exact me_sel hk2 hkd
        · exact me_init hk2
      · exact (mW_good hk2 w hw).1
    exact ⟨this, TB_gd this⟩
  rw [hst.1]
  exact va_callg (va_runV (C := (mY k2).cls) ⟨hx, hb, hml, hown, hts⟩ hM (cwV n hts hG rfl rfl rfl ⟨rfl, hfa.1, hfa.2.1, hpar⟩ ⟨hfr, hlo⟩) ⟨PreP.blind, by
      have := va_recv hK hP (vC_at ci hci) (cW_get hvh)
      rw [hcls] at this
      rw [adr_lt hvc]
      exact this, fun U hU hW => ⟨rfl, pre_of hK hE hP hsz hS hU hW⟩⟩ rfl hst.2 hL.2.1 rfl (lv_room (cat8 hc8)) hd ⟨hrc, hrs⟩) hS (after_call g hL hsz hcs)
/-- invokespecial of a constructor -/
theorem g_spec (hF : Fx base ext adV cid D X k p s m args meth c) {ix k2 n c0 : Nat} {r : List PV} {v : Option PV} {h2 : PHp} (hd : decode (mC k) bp = .ok (.invokespecial ix, 3)) (hl : (1, ix, k2, 0) ∈ lks (mO k) ∨ (2, ix, k2, 0) ∈ lks (mO k)) (hk2 : k2 < 284) (hkd : mK k2 = 2) (hret : mR k2 = none) (hpar : (parseMethodDescriptor (mY k2).desc).map (fun d => d.parameters.length) = some n) (hfr : mFr k2 + 1 ≤ R.frames) (hlo : 8 + (mL k2 + 11) + mLo k2 ≤ R.locals) (hdrop : st.drop n = vR (some c0) :: r) (hc8 : catS r ≤ 8) (hrc : cs + mMc k2 ≤ R.cells) (hrs : sl + mMs k2 ≤ R.slots) (hM : MetP base ext adV cid D X l (mY k2) (mW k2) (mRm k2) (mMc k2) (mMs k2) (vR (some c0) :: (st.take n).reverse) h v h2) (g : Gw base ext cid D k p l e R s m args below meth c Q (bp + 3) L (v.toList ++ r) h2 (cs + mMc k2) (sl + mMs k2)) : Gw base ext cid D k p l e R s m args below meth c Q bp L st h cs sl := by
  obtain ⟨hx, hb, hml, hown, hts, hK, hE, hnm⟩ := hF
  intro H locs ls hL hP hsz hS hcs
  have hst := st_split (base := base) (ext := ext) hdrop
  have hfa := me_fa hk2
  have hini := hts _ (me_init hk2)
  have hins := hts _ (me_inst hk2 (by omega))
  have hwe : mW k2 = Cond.code (mY k2) (mC k2) (mL k2) none :: TB := by rw [mW, hret]
  rw [hst.1]
  rcases hl with hl | hl
  · exact va_callg (va_runI ⟨hx, hb, hml, hown, hts⟩ hM (cwI n hts (mW_good hk2) hwe rfl rfl hini (hts _ (lk_ok (mO k) _ hl (by simp) (by simp))) hins (hfa.2.2.1.mp hkd) ⟨hfa.1, hfa.2.1, hpar⟩ ⟨hfr, hlo⟩) ⟨PreP.blind, fun U hU hW => ⟨rfl, pre_of hK hE hP hsz hS hU hW⟩⟩ rfl hst.2 hL.2.1 rfl (lv_room (cat8 hc8)) hd ⟨hrc, hrs⟩) hS (after_call g hL hsz hcs)
  · exact va_callg (va_runIN (host := "QuotaParish") ⟨hx, hb, hml, hown, hts⟩ hM ⟨va_cnB n hts (mW_good hk2) hwe rfl rfl (hE.1 (mO k) ix k2 0 hl) hini ⟨hfa.1, hfa.2.1, hpar⟩ ⟨hfr, hlo⟩, hfa.2.2.1.mp hkd, hins⟩ ⟨PreP.blind, fun U hU hW => ⟨rfl, pre_of hK hE hP hsz hS hU hW⟩⟩ rfl hst.2 hL.2.1 rfl (lv_room (cat8 hc8)) hd ⟨hrc, hrs⟩) hS (after_call g hL hsz hcs)
/-- invokestatic -/
theorem g_stat (hF : Fx base ext adV cid D X k p s m args meth c) {ix k2 n : Nat} {v : Option PV} {h2 : PHp} (hd : decode (mC k) bp = .ok (.invokestatic ix, 3)) (hl : (1, ix, k2, 0) ∈ lks (mO k)) (hk2 : k2 < 284) (hkd : mK k2 = 0) (hpar : (parseMethodDescriptor (mY k2).desc).map (fun d => d.parameters.length) = some n) (hfr : mFr k2 + 1 ≤ R.frames) (hlo : 8 + (mL k2 + 11) + mLo k2 ≤ R.locals) (hn : n ≤ st.length) (hc8 : catS (st.drop n) ≤ 8) (hrc : cs + mMc k2 ≤ R.cells) (hrs : sl + mMs k2 ≤ R.slots) (hM : MetP base ext adV cid D X l (mY k2) (mW k2) (mRm k2) (mMc k2) (mMs k2) ((st.take n).reverse) h v h2) (g : Gw base ext cid D k p l e R s m args below meth c Q (bp + 3) L (v.toList ++ st.drop n) h2 (cs + mMc k2) (sl + mMs k2)) : Gw base ext cid D k p l e R s m args below meth c Q bp L st h cs sl := by
  obtain ⟨hx, hb, hml, hown, hts, hK, hE, hnm⟩ := hF
  intro H locs ls hL hP hsz hS hcs
  have hfa := me_fa hk2
  have hst : st.map (cV base ext) = (((st.take n).reverse).map (cV base ext)).reverse ++ (st.drop n).map (cV base ext) := by
    rw [← List.map_reverse, List.reverse_reverse, ← List.map_append, List.take_append_drop]
  have hG : GoodIn TB (va_wsS (cN (mO k)) ix (mY k2) (mW k2)) := by
    intro w hw
    have : w ∈ TB := by
      rcases List.mem_append.mp hw with hw | hw
      · simp only [List.mem_cons, List.not_mem_nil, or_false] at hw
        rcases hw with rfl | rfl | rfl
        · exact lk_ok (mO k) _ hl (by simp) (by simp)
        · exact me_static hk2 hkd
        · exact me_init hk2
      · exact (mW_good hk2 w hw).1
    exact ⟨this, TB_gd this⟩
  rw [hst]
  exact va_callg (va_runS ⟨hx, hb, hml, hown, hts⟩ hM (va_cwS n hts hG rfl rfl rfl ⟨hfa.1, hfa.2.1, hpar⟩ ⟨hfr, hlo⟩) ⟨PreP.blind, fun U hU hW => ⟨rfl, pre_of hK hE hP hsz hS hU hW⟩⟩ rfl (by rw [List.length_map, List.length_reverse, List.length_take]; omega) hL.2.1 rfl (lv_room (cat8 hc8)) hd ⟨hrc, hrs⟩) hS (after_call g hL hsz hcs)
/-- the contract's end -/
abbrev QE (base : Nat) (ext : Nat → Nat) (cid : FieldType → ClassId) (D : va_G) (args : Array Value) (s : State) (below : List Frame) (n cs sl : Nat) (v : Option PV) (h : PHp) : State → Prop := MQ below (Qg (v.map (cV base ext)) (PosP base ext cid D n h) (fun q => base ≤ q)) args s cs sl (fun q => base ≤ q)
theorem g_iret (hF : Fx base ext adV cid D X k p s m args meth c) {x : Int} {n0 : Nat} (hr : meth.sig.returnType = mR k) (hlk : meth.locks = false) (hd : decode (mC k) bp = .ok (.ireturn, 1)) (hty : mR k = some .int ∨ mR k = some .boolean ∧ (x = 0 ∨ x = 1)) (hs0 : s.heap.size = base + n0) : Gw base ext cid D k p l e R s m args below meth c (QE base ext cid D args s below (n0 + cs) cs sl (some (vI x)) h) bp L [vI x] h cs sl := by
  obtain ⟨hx, hb, hml, hown, hts, hK, hE, hnm⟩ := hF
  intro H locs ls hL hP hsz hS hcs
  rcases hty with hty | ⟨hty, h01⟩
  · exact W.iret hx hb (hr.trans hty) (fun t ht hW => ⟨⟨rfl, by rw [ht]; exact hP, by rw [ht]; exact hsz, by omega⟩, hS.F ht⟩) (fun q hq => hS.2.2 q hq) hd hlk
  · exact W.zret hx hb (hr.trans hty) (by rcases h01 with rfl | rfl <;> rfl) (fun t ht hW => ⟨⟨rfl, by rw [ht]; exact hP, by rw [ht]; exact hsz, by omega⟩, hS.F ht⟩) (fun q hq => hS.2.2 q hq) hd hlk
theorem g_lret (hF : Fx base ext adV cid D X k p s m args meth c) {x : Int} {n0 : Nat} (hr : meth.sig.returnType = mR k) (hlk : meth.locks = false) (hd : decode (mC k) bp = .ok (.lreturn, 1)) (hty : mR k = some .long) (hs0 : s.heap.size = base + n0) : Gw base ext cid D k p l e R s m args below meth c (QE base ext cid D args s below (n0 + cs) cs sl (some (vL x)) h) bp L [vL x] h cs sl := by
  obtain ⟨hx, hb, hml, hown, hts, hK, hE, hnm⟩ := hF
  intro H locs ls hL hP hsz hS hcs
  exact W.lret hx hb (hr.trans hty) (fun t ht hW => ⟨⟨rfl, by rw [ht]; exact hP, by rw [ht]; exact hsz, by omega⟩, hS.F ht⟩) (fun q hq => hS.2.2 q hq) hd hlk
theorem g_vret (hF : Fx base ext adV cid D X k p s m args meth c) {n0 : Nat} (hr : meth.sig.returnType = mR k) (hlk : meth.locks = false) (hd : decode (mC k) bp = .ok (.return_, 1)) (hty : mR k = none) (hs0 : s.heap.size = base + n0) : Gw base ext cid D k p l e R s m args below meth c (QE base ext cid D args s below (n0 + cs) cs sl none h) bp L [] h cs sl := by
  obtain ⟨hx, hb, hml, hown, hts, hK, hE, hnm⟩ := hF
  intro H locs ls hL hP hsz hS hcs
  exact W.vret hx hb (hr.trans hty) (fun t ht hW => ⟨⟨rfl, by rw [ht]; exact hP, by rw [ht]; exact hsz, by omega⟩, hS.F ht⟩) (fun q hq => hS.2.2 q hq) hd hlk
end SND
/-! the locals at the entry -/
theorem pargs_mem {base : Nat} {ext : Nat → Nat} : ∀ (as : List PV) (o j : Nat) (v : PV), (pargs as)[j]? = some (some v) → (o + j, cV base ext v) ∈ lv_args o (as.map (cV base ext))
  | [], o, j, v, h => by simp [pargs] at h
  | .inr (.inl x) :: r, o, j, v, h => by
    simp only [pargs] at h
    show _ ∈ (o, cV base ext (vL x)) :: lv_args (o + 2) (r.map (cV base ext))
    match j, h with
    | 0, h => cases h; exact List.mem_cons_self
    | 1, h => cases h
    | j + 2, h =>
      have := pargs_mem (base := base) (ext := ext) r (o + 2) j v h
      rw [show o + (j + 2) = o + 2 + j by omega]
      exact List.mem_cons_of_mem _ this
  | .inl x :: r, o, j, v, h => by
    simp only [pargs] at h
    show _ ∈ (o, cV base ext (vI x)) :: lv_args (o + 1) (r.map (cV base ext))
    match j, h with
    | 0, h => cases h; exact List.mem_cons_self
    | j + 1, h =>
      have := pargs_mem (base := base) (ext := ext) r (o + 1) j v h
      rw [show o + (j + 1) = o + 1 + j by omega]
      exact List.mem_cons_of_mem _ this
  | .inr (.inr none) :: r, o, j, v, h => by
    simp only [pargs] at h
    show _ ∈ (o, cV base ext (vR none)) :: lv_args (o + 1) (r.map (cV base ext))
    match j, h with
    | 0, h => cases h; exact List.mem_cons_self
    | j + 1, h =>
      have := pargs_mem (base := base) (ext := ext) r (o + 1) j v h
      rw [show o + (j + 1) = o + 1 + j by omega]
      exact List.mem_cons_of_mem _ this
  | .inr (.inr (some x)) :: r, o, j, v, h => by
    simp only [pargs] at h
    show _ ∈ (o, cV base ext (vR (some x))) :: lv_args (o + 1) (r.map (cV base ext))
    match j, h with
    | 0, h => cases h; exact List.mem_cons_self
    | j + 1, h =>
      have := pargs_mem (base := base) (ext := ext) r (o + 1) j v h
      rw [show o + (j + 1) = o + 1 + j by omega]
      exact List.mem_cons_of_mem _ this
theorem pargs_len {base : Nat} {ext : Nat → Nat} : ∀ (as : List PV), (lg_sl (as.map (cV base ext))).length = (pargs as).length
  | [] => rfl
  | .inr (.inl x) :: r => by
    have := pargs_len (base := base) (ext := ext) r
    simp only [lg_sl, List.map_cons, List.flatMap_cons, List.length_append, pargs, List.length_cons] at this ⊢
    rw [this]
    show 2 + _ = _
    omega
  | .inl x :: r => by
    have := pargs_len (base := base) (ext := ext) r
    simp only [lg_sl, List.map_cons, List.flatMap_cons, List.length_append, pargs, List.length_cons] at this ⊢
    rw [this]
    show 1 + _ = _
    omega
  | .inr (.inr none) :: r => by
    have := pargs_len (base := base) (ext := ext) r
    simp only [lg_sl, List.map_cons, List.flatMap_cons, List.length_append, pargs, List.length_cons] at this ⊢
    rw [this]
    show 1 + _ = _
    omega
  | .inr (.inr (some x)) :: r => by
    have := pargs_len (base := base) (ext := ext) r
    simp only [lg_sl, List.map_cons, List.flatMap_cons, List.length_append, pargs, List.length_cons] at this ⊢
    rw [this]
    show 1 + _ = _
    omega
theorem LR_entry {base : Nat} {ext : Nat → Nat} {n : Nat} {as : List PV} (h : (pargs as).length ≤ n) : LR base ext ((lg_sl (as.map (cV base ext)) ++ List.replicate (n - (lg_sl (as.map (cV base ext))).length) Slot.unset).toArray) n (pent n as) := by
  have h1 := lv_entry (as.map (cV base ext)) (n := n) (by rw [pargs_len]; exact h)
  refine ⟨by simp [pent]; omega, h1.1, h1.2.1, ?_⟩
  rintro ⟨j, w⟩ hq
  obtain ⟨v, hv, rfl⟩ := lvL_mem.mp hq
  apply h1.2.2
  have hv2 : (pargs as)[j]? = some (some v) := by
    unfold pent at hv
    rw [List.getElem?_append] at hv
    split at hv
    · exact hv
    · rw [List.getElem?_replicate] at hv
      split at hv <;> cases hv
  have := pargs_mem (base := base) (ext := ext) as 0 j v hv2
  rw [Nat.zero_add] at this
  exact this
end
section
/-! ONE STEP OF THE PURE MACHINE IS A STEP OF THE MACHINE -/
theorem nx_inj {i i2 : Nat} {L L2 : PL} {st st2 : List PV} {h h2 : PHp} {cs sl cs2 sl2 : Nat} (q : nx i L st h cs sl = some (.inl (i2, L2, st2, h2, cs2, sl2))) : i2 = i ∧ L2 = L ∧ st2 = st ∧ h2 = h ∧ cs2 = cs ∧ sl2 = sl := by
  unfold nx at q
  simp only [Option.some.injEq, Sum.inl.injEq, Prod.mk.injEq] at q
  obtain ⟨q1, q2, q3, q4, q5, q6⟩ := q
  exact ⟨q1.symm, q2.symm, q3.symm, q4.symm, q5.symm, q6.symm⟩
theorem i2_spec {st : List PV} {f : Int → Int → Option PV} {g : List PV → Option PO} {r : PO} (q : (i2 st f).bind g = some r) : ∃ x y r0 v, st = vI y :: vI x :: r0 ∧ f x y = some v ∧ g (v :: r0) = some r := by
  obtain ⟨a, h1, h2⟩ := Option.bind_eq_some_iff.mp q
  unfold i2 at h1
  split at h1
  · next y x r0 =>
    obtain ⟨v, h3, h4⟩ := Option.map_eq_some_iff.mp h1
    exact ⟨x, y, r0, v, rfl, h3, by rw [h4]; exact h2⟩
  · cases h1
theorem l2_spec {st : List PV} {f : Int → Int → Option PV} {g : List PV → Option PO} {r : PO} (q : (l2 st f).bind g = some r) : ∃ x y r0 v, st = vL y :: vL x :: r0 ∧ f x y = some v ∧ g (v :: r0) = some r := by
  obtain ⟨a, h1, h2⟩ := Option.bind_eq_some_iff.mp q
  unfold l2 at h1
  split at h1
  · next y x r0 =>
    obtain ⟨v, h3, h4⟩ := Option.map_eq_some_iff.mp h1
    exact ⟨x, y, r0, v, rfl, h3, by rw [h4]; exact h2⟩
  · cases h1
theorem li2_spec {st : List PV} {f : Int → Int → Option PV} {g : List PV → Option PO} {r : PO} (q : (li2 st f).bind g = some r) : ∃ x y r0 v, st = vI y :: vL x :: r0 ∧ f x y = some v ∧ g (v :: r0) = some r := by
  obtain ⟨a, h1, h2⟩ := Option.bind_eq_some_iff.mp q
  unfold li2 at h1
  split at h1
  · next y x r0 =>
    obtain ⟨v, h3, h4⟩ := Option.map_eq_some_iff.mp h1
    exact ⟨x, y, r0, v, rfl, h3, by rw [h4]; exact h2⟩
  · cases h1
theorem ld_spec {L : PL} {kd j : Nat} {g : PV → Option PO} {r : PO} (q : (ld L kd j).bind g = some r) : (∃ x, kd = 0 ∧ lget L j = some (vI x) ∧ g (vI x) = some r) ∨ (∃ x, kd = 1 ∧ lget L j = some (vL x) ∧ g (vL x) = some r) ∨ (∃ x, kd = 2 ∧ lget L j = some (vR (some x)) ∧ g (vR (some x)) = some r) := by
  obtain ⟨a, h1, h2⟩ := Option.bind_eq_some_iff.mp q
  unfold ld at h1
  split at h1
  · next x hx =>
    split at h1
    · next hk => cases h1; exact Or.inl ⟨x, hk, hx, h2⟩
    · cases h1
  · next x hx =>
    split at h1
    · next hk => cases h1; exact Or.inr (Or.inl ⟨x, hk, hx, h2⟩)
    · cases h1
  · next x hx =>
    split at h1
    · next hk => cases h1; exact Or.inr (Or.inr ⟨x, hk, hx, h2⟩)
    · cases h1
  · cases h1
def defI (ins : Instr) : Bool := match ins with
  | .goto _ | .ifCond _ _ | .if_icmp _ _ | .tableswitch _ _ _ _ | .lookupswitch _ _ | .ireturn | .lreturn | .return_ => false
  | _ => true
theorem chk_def {t : MT} {lk : List (Nat × Nat × Nat × Nat)} {cdl : List PEn} {i bp ln : Nat} {ins : Instr} {ar : List Nat} {z : Int} (h : chkI t lk cdl i (bp, ins, ln, ar, z) = true) (hd : defI ins = true) : bpOf cdl (i + 1) = some (bp + ln) ∧ ln = ilen ins := by
  cases ins <;> first | (cases hd; done) | exact ⟨of_decide_eq_true ((Bool.and_eq_true _ _).mp ((Bool.and_eq_true _ _).mp h).1).1, of_decide_eq_true ((Bool.and_eq_true _ _).mp ((Bool.and_eq_true _ _).mp h).1).2⟩
theorem ofN {o : Option Nat} {z : Int} (h : o.map Int.ofNat = some z) : ∃ t : Nat, o = some t ∧ z = (t : Int) := by
  obtain ⟨t, h1, h2⟩ := Option.map_eq_some_iff.mp h
  exact ⟨t, h1, h2.symm⟩
theorem ty679 {cid : FieldType → ClassId} {ci : Nat} (h : ci = 6 ∨ ci = 7 ∨ ci = 9) : ∃ t0 : Nat, (tysL cid)[t0]? = some (cid (.object (vC ci).1), .object (vC ci).1) := by
  rcases h with rfl | rfl | rfl
  · exact ⟨3, rfl⟩
  · exact ⟨4, rfl⟩
  · exact ⟨5, rfl⟩
def rmS : Room := { frames := 3, cells := 0, slots := 0, locals := 75 }
def wLen : List Cond := Cond.code yLen cJ0_length_8abf5 1 (some .int) :: TB
def wChr : List Cond := Cond.code yChr cJ0_charAt_5068e 2 (some .char) :: TB
/-- the two methods of String constants -/
def StrOk (base : Nat) (ext adV : Nat → Nat) (cid : FieldType → ClassId) (D : va_G) (X : PX) (l : Launch) : Prop :=
  (∀ (h : PHp) (j : Nat), j < 11 → MetP base ext adV cid D X l yLen wLen rmS 0 0 [vR (some (PK + j))] h (some (vI (X j).1)) h) ∧
  (∀ (h : PHp) (j : Nat) (i : Int), j < 11 → 0 ≤ i → i < (X j).1 → MetP base ext adV cid D X l yChr wChr rmS 0 0 [vR (some (PK + j)), vI i] h (some (vI ((X j).2 i.toNat))) h)
theorem off_idx (d x : Int) : ∀ l : List (Int × Int), (∃ k q, l.findIdx? (fun p => p.1 == x) = some k ∧ l[k]? = some q ∧ Op.lookupswitch.offset l d x = q.2) ∨ (l.findIdx? (fun p => p.1 == x) = none ∧ Op.lookupswitch.offset l d x = d)
  | [] => Or.inr ⟨rfl, rfl⟩
  | (a, o) :: r => by
    rw [List.findIdx?_cons, Op.lookupswitch.offset_cons]
    by_cases h : a = x
    · left
      exact ⟨0, (a, o), by simp [h], rfl, by simp [h]⟩
    · rcases off_idx d x r with ⟨k, q, h1, h2, h3⟩ | ⟨h1, h2⟩
      · left
        exact ⟨k + 1, q, by simp [h, h1], h2, by simp [h, h3]⟩
      · right
        exact ⟨by simp [h, h1], by simp [h, h2]⟩
theorem look_ok {ar : List Nat} {bp : Nat} {cdl : List PEn} {d : Int} {ps : Array (Int × Int)} {tg : Nat} (ht1 : bpOf cdl (ord ar 0) = some tg) (ht2 : (bp : Int) + d = (tg : Int)) (hof : ps.toList.map (fun o => some ((bp : Int) + o.2)) = (List.range ps.toList.length).map (fun j => (bpOf cdl (ord ar (j + 1))).map Int.ofNat)) (x : Int) : ∃ tg2 : Nat, bpOf cdl (match ps.toList.findIdx? (fun p => p.1 == x) with
      | some k => ord ar (k + 1)
      | none => ord ar 0) = some tg2 ∧ (bp : Int) + Op.lookupswitch.offset ps.toList d x = (tg2 : Int) := by
  rcases off_idx d x ps.toList with ⟨k, q, h1, h2, h3⟩ | ⟨h1, h2⟩
  · rw [h1, h3]
    have hk := (List.getElem?_eq_some_iff.mp h2).1
    have e1 : (ps.toList.map (fun o => some ((bp : Int) + o.2)))[k]? = some (some ((bp : Int) + q.2)) := by rw [List.getElem?_map, h2]; rfl
    rw [hof, List.getElem?_map, List.getElem?_range hk] at e1
    obtain ⟨t, h4, h5⟩ := ofN (Option.some.inj e1)
    exact ⟨t, h4, h5⟩
  · rw [h1, h2]
    exact ⟨tg, ht1, ht2⟩
theorem own_of {k : Nat} (hk : k < 285) : cN (mO k) = (mY k).cls := by
  rcases Nat.lt_or_ge k 284 with q | q
  · exact (me_fa q).2.2.2.1
  · rw [show k = 284 by omega]
    decide +kernel
theorem own_fin {k ci j : Nat} (hk : k < 285) (h : ((vC ci).2.1 j).2.2.2 = false ∨ ((mt k).1.name = "<init>" ∧ ((vC ci).2.1 j).1 = (mt k).1.cls)) : ((vC ci).2.1 j).2.2.2 = false ∨ ((mY k).name = "<init>" ∧ ((vC ci).2.1 j).1 = cN (mO k)) := by
  rcases h with h | h
  · exact Or.inl h
  · exact Or.inr ⟨h.1, h.2.trans (own_of hk).symm⟩
section STEP
variable {base : Nat} {ext adV : Nat → Nat} {cid : FieldType → ClassId} {D : va_G} {X : PX} {k : Nat} {p : Program} {l : Launch} {e : Env} {R : Room} {s : State} {m : MethodId} {args : Array Value} {below : List Frame} {meth : Method} {c : Code} {Q : State → Prop} {bp : Nat} {L : PL} {st : List PV} {h : PHp} {cs sl : Nat}
theorem g_strl (hF : Fx base ext adV cid D X k p s m args meth c) (hSt : StrOk base ext adV cid D X l) {ix c0 : Nat} (hd : decode (mC k) bp = .ok (.invokevirtual ix, 3)) (hl : (9, ix, 0, 0) ∈ lks (mO k)) (hfr : 4 ≤ R.frames) (hlo : 100 ≤ R.locals) (h1 : PK ≤ c0) (h2 : c0 < PK + 11) (hc8 : catS st ≤ 8) (hrc : cs ≤ R.cells) (hrs : sl ≤ R.slots) (g : Gw base ext cid D k p l e R s m args below meth c Q (bp + 3) L (vI (X (c0 - PK)).1 :: st) h cs sl) : Gw base ext cid D k p l e R s m args below meth c Q bp L (vR (some c0) :: st) h cs sl := by
  obtain ⟨hx, hb, hml, hown, hts, hK, hE, hnm⟩ := hF
  intro H locs ls hL hP hsz hS hcs
  have hM := hSt.1 h (c0 - PK) (by omega)
  rw [show PK + (c0 - PK) = c0 by omega] at hM
  have hcode : Cond.code yLen cJ0_length_8abf5 1 (some .int) ∈ TB := List.mem_filter.mpr ⟨List.mem_append_right _ (List.mem_append_right _ (List.mem_append_right _ (List.mem_append_left _ (List.mem_of_getElem? (i := 30) rfl)))), rfl⟩
  have hG : GoodIn TB (wsV (cN (mO k)) ix "java/lang/String" yLen wLen) := by
    intro w hw
    have : w ∈ TB := by
      rcases List.mem_append.mp hw with hw | hw
      · simp only [List.mem_cons, List.not_mem_nil, or_false] at hw
        rcases hw with rfl | rfl | rfl | rfl
        · exact lk_ok (mO k) _ hl (by simp) (by simp)
        · exact TB_at 614 (by decide +kernel) (by decide +kernel)
        · exact TB_at 615 (by decide +kernel) (by decide +kernel)
        · exact TB_at 119 (by decide +kernel) (by decide +kernel)
      · rcases List.mem_cons.mp hw with rfl | hw
        · exact hcode
        · exact hw
    exact ⟨this, TB_gd this⟩
  exact va_callg (va_runV (As := []) (C := "java/lang/String") ⟨hx, hb, hml, hown, hts⟩ hM (cwV 0 hts hG rfl rfl rfl (by decide +kernel) ⟨hfr, by show 8 + (1 + 11) + 75 ≤ _; omega⟩) ⟨PreP.blind, by
      have := vk_recv hE.2.2.1 (show c0 - PK < 11 by omega) hS
      rw [adr_ge (by omega)]
      exact this, fun U hU hW => ⟨rfl, pre_of hK hE hP hsz hS hU hW⟩⟩ rfl rfl hL.2.1 rfl (lv_room (cat8 hc8)) hd ⟨hrc, hrs⟩) hS (after_call (mc := 0) (ms := 0) (v := some _) g hL hsz hcs)
theorem g_chr (hF : Fx base ext adV cid D X k p s m args meth c) (hSt : StrOk base ext adV cid D X l) {ix c0 : Nat} {i x : Int} (hd : decode (mC k) bp = .ok (.invokevirtual ix, 3)) (hl : (10, ix, 0, 0) ∈ lks (mO k)) (hfr : 4 ≤ R.frames) (hlo : 100 ≤ R.locals) (h1 : PK ≤ c0) (h2 : c0 < PK + 11) (hc8 : catS st ≤ 8) (hrc : cs ≤ R.cells) (hrs : sl ≤ R.slots) (hi : at2 (X (c0 - PK)).1 (X (c0 - PK)).2 i = some x) (g : Gw base ext cid D k p l e R s m args below meth c Q (bp + 3) L (vI x :: st) h cs sl) : Gw base ext cid D k p l e R s m args below meth c Q bp L (vI i :: vR (some c0) :: st) h cs sl := by
  obtain ⟨hx, hb, hml, hown, hts, hK, hE, hnm⟩ := hF
  intro H locs ls hL hP hsz hS hcs
  unfold at2 at hi
  split at hi
  · next hr =>
    cases hi
    have hM := hSt.2 h (c0 - PK) i (by omega) hr.1 hr.2
    rw [show PK + (c0 - PK) = c0 by omega] at hM
    have hcode : Cond.code yChr cJ0_charAt_5068e 2 (some .char) ∈ TB := List.mem_filter.mpr ⟨List.mem_append_right _ (List.mem_append_right _ (List.mem_append_right _ (List.mem_append_left _ (List.mem_of_getElem? (i := 40) rfl)))), rfl⟩
    have hG : GoodIn TB (wsV (cN (mO k)) ix "java/lang/String" yChr wChr) := by
      intro w hw
      have : w ∈ TB := by
        rcases List.mem_append.mp hw with hw | hw
        · simp only [List.mem_cons, List.not_mem_nil, or_false] at hw
          rcases hw with rfl | rfl | rfl | rfl
          · exact lk_ok (mO k) _ hl (by simp) (by simp)
          · exact TB_at 624 (by decide +kernel) (by decide +kernel)
          · exact TB_at 625 (by decide +kernel) (by decide +kernel)
          · exact TB_at 119 (by decide +kernel) (by decide +kernel)
        · rcases List.mem_cons.mp hw with rfl | hw
          · exact hcode
          · exact hw
      exact ⟨this, TB_gd this⟩
    exact va_callg (va_runV (As := [cV base ext (vI i)]) (C := "java/lang/String") ⟨hx, hb, hml, hown, hts⟩ hM (cwV 1 hts hG rfl rfl rfl (by decide +kernel) ⟨hfr, by show 8 + (2 + 11) + 75 ≤ _; omega⟩) ⟨PreP.blind, by
        have := vk_recv hE.2.2.1 (show c0 - PK < 11 by omega) hS
        rw [adr_ge (by omega)]
        exact this, fun U hU hW => ⟨rfl, pre_of hK hE hP hsz hS hU hW⟩⟩ rfl rfl hL.2.1 rfl (lv_room (cat8 hc8)) hd ⟨hrc, hrs⟩) hS (after_call (mc := 0) (ms := 0) (v := some _) g hL hsz hcs)
  · cases hi

set_option maxHeartbeats 4000000 in
set_option maxRecDepth 20000 in
theorem stp_next (hk0 : k < 285) (hF : Fx base ext adV cid D X k p s m args meth c) (hSt : StrOk base ext adV cid D X l) (hR : mFr k ≤ R.frames ∧ mLo k ≤ R.locals ∧ mMc k ≤ R.cells ∧ mMs k ≤ R.slots) {i ln : Nat} {ins : Instr} {ar : List Nat} {z : Int} (hd : decode (mC k) bp = .ok (ins, ln)) (hI : chkI (mt k) (lks (mO k)) (cds k) i (bp, ins, ln, ar, z) = true) {i2 : Nat} {L2 : PL} {st2 : List PV} {h2 : PHp} {cs2 sl2 : Nat} (hs : stp X (bp, ins, ln, ar, z) (i, L, st, h, cs, sl) = some (.inl (i2, L2, st2, h2, cs2, sl2))) (hb0 : cs ≤ mMc k ∧ sl ≤ mMs k) (hb2 : cs2 ≤ mMc k ∧ sl2 ≤ mMs k) (hg : ∀ bp2, bpOf (cds k) i2 = some bp2 → Gw base ext cid D k p l e R s m args below meth c Q bp2 L2 st2 h2 cs2 sl2) : Gw base ext cid D k p l e R s m args below meth c Q bp L st h cs sl := by
  have hdef := fun q => chk_def hI q
  cases ins with
  | iconst n =>
    have hX := ((Bool.and_eq_true _ _).mp hI).2
    obtain ⟨hn, hln⟩ := hdef rfl
    subst hln
    obtain ⟨rfl, rfl, rfl, rfl, rfl, rfl⟩ := nx_inj hs
    exact g_iconst hF hd (of_decide_eq_true hX) (hg _ hn)
  | bipush n =>
    have hX := ((Bool.and_eq_true _ _).mp hI).2
    obtain ⟨hn, hln⟩ := hdef rfl
    subst hln
    obtain ⟨rfl, rfl, rfl, rfl, rfl, rfl⟩ := nx_inj hs
    exact g_bipush hF hd (of_decide_eq_true hX) (hg _ hn)
  | sipush n =>
    have hX := ((Bool.and_eq_true _ _).mp hI).2
    obtain ⟨hn, hln⟩ := hdef rfl
    subst hln
    obtain ⟨rfl, rfl, rfl, rfl, rfl, rfl⟩ := nx_inj hs
    exact g_sipush hF hd (of_decide_eq_true hX) (hg _ hn)
  | lconst n =>
    have hX := ((Bool.and_eq_true _ _).mp hI).2
    obtain ⟨hn, hln⟩ := hdef rfl
    subst hln
    obtain ⟨rfl, rfl, rfl, rfl, rfl, rfl⟩ := nx_inj hs
    exact g_lconst hF hd (of_decide_eq_true hX) (hg _ hn)
  | ldc ix =>
    have hX := ((Bool.and_eq_true _ _).mp hI).2
    obtain ⟨hn, hln⟩ := hdef rfl
    subst hln
    dsimp only [stp] at hs
    dsimp only at hX
    split at hs
    · next ha =>
      rw [if_pos ha] at hX
      have hY := (Bool.and_eq_true _ _).mp hX
      obtain ⟨rfl, rfl, rfl, rfl, rfl, rfl⟩ := nx_inj hs
      exact g_ldc hF hd (List.contains_iff_mem.mp hY.2) (of_decide_eq_true hY.1) (hg _ hn)
    · next ha =>
      rw [if_neg ha] at hX
      split at hs
      · next hj =>
        obtain ⟨rfl, rfl, rfl, rfl, rfl, rfl⟩ := nx_inj hs
        exact g_ldcS hF hd (List.contains_iff_mem.mp hX) hj (hg _ hn)
      · cases hs
  | ldc_w ix =>
    have hX := ((Bool.and_eq_true _ _).mp hI).2
    obtain ⟨hn, hln⟩ := hdef rfl
    subst hln
    have hY := (Bool.and_eq_true _ _).mp hX
    obtain ⟨rfl, rfl, rfl, rfl, rfl, rfl⟩ := nx_inj hs
    exact g_ldcw hF hd (List.contains_iff_mem.mp hY.2) (of_decide_eq_true hY.1) (hg _ hn)
  | ldc2_w ix =>
    have hX := ((Bool.and_eq_true _ _).mp hI).2
    obtain ⟨hn, hln⟩ := hdef rfl
    subst hln
    have hY := (Bool.and_eq_true _ _).mp hX
    obtain ⟨rfl, rfl, rfl, rfl, rfl, rfl⟩ := nx_inj hs
    exact g_ldc2 hF hd (List.contains_iff_mem.mp hY.2) (of_decide_eq_true hY.1) (hg _ hn)
  | iload_n j =>
    obtain ⟨hn, hln⟩ := hdef rfl
    subst hln
    rcases ld_spec hs with ⟨x, hk, hx, hs⟩ | ⟨x, hk, hx, hs⟩ | ⟨x, hk, hx, hs⟩
    · obtain ⟨rfl, rfl, rfl, rfl, rfl, rfl⟩ := nx_inj hs
      exact g_iload_n hF hd hx (hg _ hn)
    · cases hk
    · cases hk
  | iload j =>
    obtain ⟨hn, hln⟩ := hdef rfl
    subst hln
    rcases ld_spec hs with ⟨x, hk, hx, hs⟩ | ⟨x, hk, hx, hs⟩ | ⟨x, hk, hx, hs⟩
    · obtain ⟨rfl, rfl, rfl, rfl, rfl, rfl⟩ := nx_inj hs
      exact g_iload hF hd hx (hg _ hn)
    · cases hk
    · cases hk
  | lload_n j =>
    obtain ⟨hn, hln⟩ := hdef rfl
    subst hln
    rcases ld_spec hs with ⟨x, hk, hx, hs⟩ | ⟨x, hk, hx, hs⟩ | ⟨x, hk, hx, hs⟩
    · cases hk
    · obtain ⟨rfl, rfl, rfl, rfl, rfl, rfl⟩ := nx_inj hs
      exact g_lload_n hF hd hx (hg _ hn)
    · cases hk
  | lload j =>
    obtain ⟨hn, hln⟩ := hdef rfl
    subst hln
    rcases ld_spec hs with ⟨x, hk, hx, hs⟩ | ⟨x, hk, hx, hs⟩ | ⟨x, hk, hx, hs⟩
    · cases hk
    · obtain ⟨rfl, rfl, rfl, rfl, rfl, rfl⟩ := nx_inj hs
      exact g_lload hF hd hx (hg _ hn)
    · cases hk
  | aload_n j =>
    obtain ⟨hn, hln⟩ := hdef rfl
    subst hln
    rcases ld_spec hs with ⟨x, hk, hx, hs⟩ | ⟨x, hk, hx, hs⟩ | ⟨x, hk, hx, hs⟩
    · cases hk
    · cases hk
    · obtain ⟨rfl, rfl, rfl, rfl, rfl, rfl⟩ := nx_inj hs
      exact g_aload_n hF hd hx (hg _ hn)
  | aload j =>
    obtain ⟨hn, hln⟩ := hdef rfl
    subst hln
    rcases ld_spec hs with ⟨x, hk, hx, hs⟩ | ⟨x, hk, hx, hs⟩ | ⟨x, hk, hx, hs⟩
    · cases hk
    · cases hk
    · obtain ⟨rfl, rfl, rfl, rfl, rfl, rfl⟩ := nx_inj hs
      exact g_aload hF hd hx (hg _ hn)
  | istore_n j =>
    obtain ⟨hn, hln⟩ := hdef rfl
    subst hln
    dsimp only [stp] at hs
    split at hs
    · split at hs
      · next hj =>
        obtain ⟨rfl, rfl, rfl, rfl, rfl, rfl⟩ := nx_inj hs
        exact g_istore_n hF hd hj (hg _ hn)
      · cases hs
    · cases hs
  | istore j =>
    obtain ⟨hn, hln⟩ := hdef rfl
    subst hln
    dsimp only [stp] at hs
    split at hs
    · split at hs
      · next hj =>
        obtain ⟨rfl, rfl, rfl, rfl, rfl, rfl⟩ := nx_inj hs
        exact g_istore hF hd hj (hg _ hn)
      · cases hs
    · cases hs
  | lstore_n j =>
    obtain ⟨hn, hln⟩ := hdef rfl
    subst hln
    dsimp only [stp] at hs
    split at hs
    · split at hs
      · next hj =>
        obtain ⟨rfl, rfl, rfl, rfl, rfl, rfl⟩ := nx_inj hs
        exact g_lstore_n hF hd hj (hg _ hn)
      · cases hs
    · cases hs
  | lstore j =>
    obtain ⟨hn, hln⟩ := hdef rfl
    subst hln
    dsimp only [stp] at hs
    split at hs
    · split at hs
      · next hj =>
        obtain ⟨rfl, rfl, rfl, rfl, rfl, rfl⟩ := nx_inj hs
        exact g_lstore hF hd hj (hg _ hn)
      · cases hs
    · cases hs
  | astore_n j =>
    obtain ⟨hn, hln⟩ := hdef rfl
    subst hln
    dsimp only [stp] at hs
    split at hs
    · split at hs
      · next hj =>
        obtain ⟨rfl, rfl, rfl, rfl, rfl, rfl⟩ := nx_inj hs
        exact g_astore_n hF hd hj (hg _ hn)
      · cases hs
    · cases hs
  | astore j =>
    obtain ⟨hn, hln⟩ := hdef rfl
    subst hln
    dsimp only [stp] at hs
    split at hs
    · split at hs
      · next hj =>
        obtain ⟨rfl, rfl, rfl, rfl, rfl, rfl⟩ := nx_inj hs
        exact g_astore hF hd hj (hg _ hn)
      · cases hs
    · cases hs
  | iinc j n =>
    obtain ⟨hn, hln⟩ := hdef rfl
    subst hln
    dsimp only [stp] at hs
    split at hs
    · next x hx =>
      obtain ⟨rfl, rfl, rfl, rfl, rfl, rfl⟩ := nx_inj hs
      exact g_iinc hF hd hx (hg _ hn)
    · cases hs
  | iadd  =>
    obtain ⟨hn, hln⟩ := hdef rfl
    subst hln
    obtain ⟨x, y, r, w, rfl, hf, hs⟩ := i2_spec hs
    cases hf
    obtain ⟨rfl, rfl, rfl, rfl, rfl, rfl⟩ := nx_inj hs
    exact g_iadd hF hd (hg _ hn)
  | isub  =>
    obtain ⟨hn, hln⟩ := hdef rfl
    subst hln
    obtain ⟨x, y, r, w, rfl, hf, hs⟩ := i2_spec hs
    cases hf
    obtain ⟨rfl, rfl, rfl, rfl, rfl, rfl⟩ := nx_inj hs
    exact g_isub hF hd (hg _ hn)
  | imul  =>
    obtain ⟨hn, hln⟩ := hdef rfl
    subst hln
    obtain ⟨x, y, r, w, rfl, hf, hs⟩ := i2_spec hs
    cases hf
    obtain ⟨rfl, rfl, rfl, rfl, rfl, rfl⟩ := nx_inj hs
    exact g_imul hF hd (hg _ hn)
  | iand  =>
    obtain ⟨hn, hln⟩ := hdef rfl
    subst hln
    obtain ⟨x, y, r, w, rfl, hf, hs⟩ := i2_spec hs
    cases hf
    obtain ⟨rfl, rfl, rfl, rfl, rfl, rfl⟩ := nx_inj hs
    exact g_iand hF hd (hg _ hn)
  | ior  =>
    obtain ⟨hn, hln⟩ := hdef rfl
    subst hln
    obtain ⟨x, y, r, w, rfl, hf, hs⟩ := i2_spec hs
    cases hf
    obtain ⟨rfl, rfl, rfl, rfl, rfl, rfl⟩ := nx_inj hs
    exact g_ior hF hd (hg _ hn)
  | ixor  =>
    obtain ⟨hn, hln⟩ := hdef rfl
    subst hln
    obtain ⟨x, y, r, w, rfl, hf, hs⟩ := i2_spec hs
    cases hf
    obtain ⟨rfl, rfl, rfl, rfl, rfl, rfl⟩ := nx_inj hs
    exact g_ixor hF hd (hg _ hn)
  | ishl  =>
    obtain ⟨hn, hln⟩ := hdef rfl
    subst hln
    obtain ⟨x, y, r, w, rfl, hf, hs⟩ := i2_spec hs
    cases hf
    obtain ⟨rfl, rfl, rfl, rfl, rfl, rfl⟩ := nx_inj hs
    exact g_ishl hF hd (hg _ hn)
  | ishr  =>
    obtain ⟨hn, hln⟩ := hdef rfl
    subst hln
    obtain ⟨x, y, r, w, rfl, hf, hs⟩ := i2_spec hs
    cases hf
    obtain ⟨rfl, rfl, rfl, rfl, rfl, rfl⟩ := nx_inj hs
    exact g_ishr hF hd (hg _ hn)
  | iushr  =>
    obtain ⟨hn, hln⟩ := hdef rfl
    subst hln
    obtain ⟨x, y, r, w, rfl, hf, hs⟩ := i2_spec hs
    cases hf
    obtain ⟨rfl, rfl, rfl, rfl, rfl, rfl⟩ := nx_inj hs
    exact g_iushr hF hd (hg _ hn)
  | idiv  =>
    obtain ⟨hn, hln⟩ := hdef rfl
    subst hln
    obtain ⟨x, y, r, w, rfl, hf, hs⟩ := i2_spec hs
    split at hf
    · cases hf
    · next hne =>
      cases hf
      obtain ⟨rfl, rfl, rfl, rfl, rfl, rfl⟩ := nx_inj hs
      exact g_idiv hF hd hne (hg _ hn)
  | irem  =>
    obtain ⟨hn, hln⟩ := hdef rfl
    subst hln
    obtain ⟨x, y, r, w, rfl, hf, hs⟩ := i2_spec hs
    split at hf
    · cases hf
    · next hne =>
      cases hf
      obtain ⟨rfl, rfl, rfl, rfl, rfl, rfl⟩ := nx_inj hs
      exact g_irem hF hd hne (hg _ hn)
  | ladd  =>
    obtain ⟨hn, hln⟩ := hdef rfl
    subst hln
    obtain ⟨x, y, r, w, rfl, hf, hs⟩ := l2_spec hs
    cases hf
    obtain ⟨rfl, rfl, rfl, rfl, rfl, rfl⟩ := nx_inj hs
    exact g_ladd hF hd (hg _ hn)
  | lsub  =>
    obtain ⟨hn, hln⟩ := hdef rfl
    subst hln
    obtain ⟨x, y, r, w, rfl, hf, hs⟩ := l2_spec hs
    cases hf
    obtain ⟨rfl, rfl, rfl, rfl, rfl, rfl⟩ := nx_inj hs
    exact g_lsub hF hd (hg _ hn)
  | lmul  =>
    obtain ⟨hn, hln⟩ := hdef rfl
    subst hln
    obtain ⟨x, y, r, w, rfl, hf, hs⟩ := l2_spec hs
    cases hf
    obtain ⟨rfl, rfl, rfl, rfl, rfl, rfl⟩ := nx_inj hs
    exact g_lmul hF hd (hg _ hn)
  | lor  =>
    obtain ⟨hn, hln⟩ := hdef rfl
    subst hln
    obtain ⟨x, y, r, w, rfl, hf, hs⟩ := l2_spec hs
    cases hf
    obtain ⟨rfl, rfl, rfl, rfl, rfl, rfl⟩ := nx_inj hs
    exact g_lor hF hd (hg _ hn)
  | lcmp  =>
    obtain ⟨hn, hln⟩ := hdef rfl
    subst hln
    obtain ⟨x, y, r, w, rfl, hf, hs⟩ := l2_spec hs
    cases hf
    obtain ⟨rfl, rfl, rfl, rfl, rfl, rfl⟩ := nx_inj hs
    exact g_lcmp hF hd (hg _ hn)
  | lshl  =>
    obtain ⟨hn, hln⟩ := hdef rfl
    subst hln
    obtain ⟨x, y, r, w, rfl, hf, hs⟩ := li2_spec hs
    cases hf
    obtain ⟨rfl, rfl, rfl, rfl, rfl, rfl⟩ := nx_inj hs
    exact g_lshl hF hd (hg _ hn)
  | lshr  =>
    obtain ⟨hn, hln⟩ := hdef rfl
    subst hln
    obtain ⟨x, y, r, w, rfl, hf, hs⟩ := li2_spec hs
    cases hf
    obtain ⟨rfl, rfl, rfl, rfl, rfl, rfl⟩ := nx_inj hs
    exact g_lshr hF hd (hg _ hn)
  | ineg  =>
    obtain ⟨hn, hln⟩ := hdef rfl
    subst hln
    dsimp only [stp] at hs
    split at hs
    · obtain ⟨rfl, rfl, rfl, rfl, rfl, rfl⟩ := nx_inj hs
      exact g_ineg hF hd (hg _ hn)
    · cases hs
  | i2l  =>
    obtain ⟨hn, hln⟩ := hdef rfl
    subst hln
    dsimp only [stp] at hs
    split at hs
    · obtain ⟨rfl, rfl, rfl, rfl, rfl, rfl⟩ := nx_inj hs
      exact g_i2l hF hd (hg _ hn)
    · cases hs
  | l2i  =>
    obtain ⟨hn, hln⟩ := hdef rfl
    subst hln
    dsimp only [stp] at hs
    split at hs
    · obtain ⟨rfl, rfl, rfl, rfl, rfl, rfl⟩ := nx_inj hs
      exact g_l2i hF hd (hg _ hn)
    · cases hs
  | pop  =>
    obtain ⟨hn, hln⟩ := hdef rfl
    subst hln
    dsimp only [stp] at hs
    split at hs
    · obtain ⟨rfl, rfl, rfl, rfl, rfl, rfl⟩ := nx_inj hs
      exact g_pop hF hd (hg _ hn)
    · cases hs
  | dup  =>
    obtain ⟨hn, hln⟩ := hdef rfl
    subst hln
    dsimp only [stp] at hs
    split at hs
    · obtain ⟨rfl, rfl, rfl, rfl, rfl, rfl⟩ := nx_inj hs
      exact g_dupI hF hd (hg _ hn)
    · obtain ⟨rfl, rfl, rfl, rfl, rfl, rfl⟩ := nx_inj hs
      exact g_dupR hF hd (hg _ hn)
    · cases hs
  | dup2  =>
    obtain ⟨hn, hln⟩ := hdef rfl
    subst hln
    dsimp only [stp] at hs
    split at hs
    · obtain ⟨rfl, rfl, rfl, rfl, rfl, rfl⟩ := nx_inj hs
      exact g_dup2 hF hd (hg _ hn)
    · cases hs
  | goto off =>
    have hW := (Bool.and_eq_true _ _).mp hI
    have hln := of_decide_eq_true hW.1
    subst hln
    obtain ⟨tg, ht1, ht2⟩ := ofN (of_decide_eq_true hW.2)
    obtain ⟨rfl, rfl, rfl, rfl, rfl, rfl⟩ := nx_inj hs
    exact g_goto hF hd ht2 (hg _ ht1)
  | ifCond cd off =>
    have hY := (Bool.and_eq_true _ _).mp hI
    have hW := (Bool.and_eq_true _ _).mp hY.1
    have hln := of_decide_eq_true hW.1
    subst hln
    obtain ⟨tg, ht1, ht2⟩ := ofN (of_decide_eq_true hW.2)
    have hn := of_decide_eq_true hY.2
    dsimp only [stp] at hs
    split at hs
    · obtain ⟨rfl, rfl, rfl, rfl, rfl, rfl⟩ := nx_inj hs
      refine g_if hF hd ht2 (fun q => hg tg ?_) (fun q => hg (bp + 3) ?_)
      · rw [if_pos q]; exact ht1
      · rw [if_neg q]; exact hn
    · cases hs
  | if_icmp cd off =>
    have hY := (Bool.and_eq_true _ _).mp hI
    have hW := (Bool.and_eq_true _ _).mp hY.1
    have hln := of_decide_eq_true hW.1
    subst hln
    obtain ⟨tg, ht1, ht2⟩ := ofN (of_decide_eq_true hW.2)
    have hn := of_decide_eq_true hY.2
    dsimp only [stp] at hs
    split at hs
    · obtain ⟨rfl, rfl, rfl, rfl, rfl, rfl⟩ := nx_inj hs
      refine g_icmp hF hd ht2 (fun q => hg tg ?_) (fun q => hg (bp + 3) ?_)
      · rw [if_pos q]; exact ht1
      · rw [if_neg q]; exact hn
    · cases hs
  | tableswitch d lo hi offs =>
    have hY := (Bool.and_eq_true _ _).mp hI
    have hZ := (Bool.and_eq_true _ _).mp hY.1
    obtain ⟨tg, ht1, ht2⟩ := ofN (of_decide_eq_true hZ.1)
    have hsz := of_decide_eq_true hZ.2
    have hof := of_decide_eq_true hY.2
    dsimp only [stp] at hs
    split at hs
    · next x r =>
      obtain ⟨rfl, rfl, rfl, rfl, rfl, rfl⟩ := nx_inj hs
      by_cases hq : (Int32.ofInt x).toInt < lo ∨ hi < (Int32.ofInt x).toInt
      · rw [if_pos hq] at hg
        exact g_table hF hd (Or.inl ⟨hq, ht2⟩) (hg _ ht1)
      · rw [if_neg hq] at hg
        have hj : ((Int32.ofInt x).toInt - lo).toNat < offs.toList.length := by omega
        have e1 : (offs.toList.map (fun o => some ((bp : Int) + o)))[((Int32.ofInt x).toInt - lo).toNat]? = some (some ((bp : Int) + offs.toList[((Int32.ofInt x).toInt - lo).toNat])) := by rw [List.getElem?_map, List.getElem?_eq_getElem hj]; rfl
        rw [hof, List.getElem?_map, List.getElem?_range hj] at e1
        obtain ⟨tg2, ht3, ht4⟩ := ofN (Option.some.inj e1)
        exact g_table hF hd (Or.inr ⟨hq, _, by rw [← Array.getElem?_toList, List.getElem?_eq_getElem hj], ht4⟩) (hg _ ht3)
    · cases hs
  | lookupswitch d ps =>
    have hY := (Bool.and_eq_true _ _).mp hI
    have hZ := (Bool.and_eq_true _ _).mp hY.1
    obtain ⟨tg, ht1, ht2⟩ := ofN (of_decide_eq_true hZ.1)
    have hso := hZ.2
    have hof := of_decide_eq_true hY.2
    dsimp only [stp] at hs
    split at hs
    · next x r =>
      obtain ⟨rfl, rfl, rfl, rfl, rfl, rfl⟩ := nx_inj hs
      obtain ⟨tg2, hb3, ho3⟩ := look_ok (ar := ar) (bp := bp) (cdl := cds k) ht1 ht2 hof (Int32.ofInt x).toInt
      exact g_lookup hF hd hso ho3 (hg _ hb3)
    · cases hs
  | getfield ix =>
    have hX := ((Bool.and_eq_true _ _).mp hI).2
    obtain ⟨hn, hln⟩ := hdef rfl
    subst hln
    have hY := (Bool.and_eq_true _ _).mp hX
    have hZ := (Bool.and_eq_true _ _).mp hY.1
    dsimp only [stp] at hs
    split at hs
    · obtain ⟨fs, ho, hs⟩ := Option.bind_eq_some_iff.mp hs
      split at hs
      · next v hv =>
        obtain ⟨rfl, rfl, rfl, rfl, rfl, rfl⟩ := nx_inj hs
        exact g_getf hF hd (List.contains_iff_mem.mp hZ.1) (of_decide_eq_true hZ.2) (of_decide_eq_true hY.2) ho hv (hg _ hn)
      · cases hs
    · cases hs
  | putfield ix =>
    have hX := ((Bool.and_eq_true _ _).mp hI).2
    obtain ⟨hn, hln⟩ := hdef rfl
    subst hln
    simp only [Bool.and_eq_true, Bool.or_eq_true, decide_eq_true_eq, Bool.not_eq_true'] at hX
    obtain ⟨⟨⟨⟨⟨hX1, hX2⟩, hX3⟩, hX4⟩, hX5⟩, hX6⟩ := hX
    dsimp only [stp] at hs
    split at hs
    · obtain ⟨fs, ho, hs⟩ := Option.bind_eq_some_iff.mp hs
      split at hs
      · next hv =>
        obtain ⟨rfl, rfl, rfl, rfl, rfl, rfl⟩ := nx_inj hs
        exact g_putf hF hd (List.contains_iff_mem.mp hX1) hX2 hX3 hX4 hX5 (own_fin hk0 hX6) ho hv.1 hv.2 (hg _ hn)
      · cases hs
    · cases hs
  | getstatic ix =>
    have hX := ((Bool.and_eq_true _ _).mp hI).2
    obtain ⟨hn, hln⟩ := hdef rfl
    subst hln
    dsimp only [stp] at hs
    split at hs
    · next hj =>
      obtain ⟨rfl, rfl, rfl, rfl, rfl, rfl⟩ := nx_inj hs
      have hX := List.contains_iff_mem.mp hX
      have hgg := hg _ hn
      rw [show ord ar 0 = 11 + (ord ar 0 - 11) by omega] at hgg
      exact g_gets hF hd hX (by omega) hgg
    · cases hs
  | iaload  =>
    obtain ⟨hn, hln⟩ := hdef rfl
    subst hln
    dsimp only [stp] at hs
    split at hs
    · obtain ⟨a, ho, hs⟩ := Option.bind_eq_some_iff.mp hs
      obtain ⟨x, hi, hs⟩ := Option.bind_eq_some_iff.mp hs
      obtain ⟨rfl, rfl, rfl, rfl, rfl, rfl⟩ := nx_inj hs
      exact g_iald hF hd ho hi (hg _ hn)
    · cases hs
  | baload  =>
    obtain ⟨hn, hln⟩ := hdef rfl
    subst hln
    dsimp only [stp] at hs
    split at hs
    · obtain ⟨a, ho, hs⟩ := Option.bind_eq_some_iff.mp hs
      obtain ⟨x, hi, hs⟩ := Option.bind_eq_some_iff.mp hs
      obtain ⟨rfl, rfl, rfl, rfl, rfl, rfl⟩ := nx_inj hs
      exact g_zald hF hd ho hi (hg _ hn)
    · cases hs
  | laload  =>
    obtain ⟨hn, hln⟩ := hdef rfl
    subst hln
    dsimp only [stp] at hs
    split at hs
    · obtain ⟨a, ho, hs⟩ := Option.bind_eq_some_iff.mp hs
      obtain ⟨x, hi, hs⟩ := Option.bind_eq_some_iff.mp hs
      obtain ⟨rfl, rfl, rfl, rfl, rfl, rfl⟩ := nx_inj hs
      exact g_lald hF hd ho hi (hg _ hn)
    · cases hs
  | aaload  =>
    have hX := ((Bool.and_eq_true _ _).mp hI).2
    obtain ⟨hn, hln⟩ := hdef rfl
    subst hln
    obtain ⟨t0, ht0⟩ := ty679 (cid := cid) (of_decide_eq_true hX)
    dsimp only [stp] at hs
    split at hs
    · obtain ⟨⟨aty, an, af⟩, ho, hs⟩ := Option.bind_eq_some_iff.mp hs
      split at hs
      · next hr =>
        obtain ⟨rfl, rfl, rfl, rfl, rfl, rfl⟩ := nx_inj hs
        obtain ⟨r1, r2, r3⟩ := hr
        dsimp only at r1 r2 r3
        subst r3
        exact g_aald hF hd ho ht0 r1 r2 (hg _ hn)
      · cases hs
    · cases hs
  | aastore  =>
    have hX := ((Bool.and_eq_true _ _).mp hI).2
    obtain ⟨hn, hln⟩ := hdef rfl
    subst hln
    obtain ⟨t0, ht0⟩ := ty679 (cid := cid) (of_decide_eq_true hX)
    dsimp only [stp] at hs
    split at hs
    · obtain ⟨⟨aty, an, af⟩, ho, hs⟩ := Option.bind_eq_some_iff.mp hs
      split at hs
      · next hr =>
        obtain ⟨rfl, rfl, rfl, rfl, rfl, rfl⟩ := nx_inj hs
        obtain ⟨r1, r2, r3, r4, r5⟩ := hr
        dsimp only at r1 r2 r3 r4
        subst r4
        exact g_aast hF hd ho r5 r3 ht0 r1 r2 (hg _ hn)
      · cases hs
    · cases hs
  | iastore  =>
    obtain ⟨hn, hln⟩ := hdef rfl
    subst hln
    dsimp only [stp] at hs
    split at hs
    · obtain ⟨a, ho, hs⟩ := Option.bind_eq_some_iff.mp hs
      split at hs
      · next hr =>
        obtain ⟨rfl, rfl, rfl, rfl, rfl, rfl⟩ := nx_inj hs
        exact g_iast hF hd ho hr.1 hr.2 (hg _ hn)
      · cases hs
    · cases hs
  | lastore  =>
    obtain ⟨hn, hln⟩ := hdef rfl
    subst hln
    dsimp only [stp] at hs
    split at hs
    · obtain ⟨a, ho, hs⟩ := Option.bind_eq_some_iff.mp hs
      split at hs
      · next hr =>
        obtain ⟨rfl, rfl, rfl, rfl, rfl, rfl⟩ := nx_inj hs
        exact g_last hF hd ho hr.1 hr.2 (hg _ hn)
      · cases hs
    · cases hs
  | bastore  =>
    obtain ⟨hn, hln⟩ := hdef rfl
    subst hln
    dsimp only [stp] at hs
    split at hs
    · obtain ⟨a, ho, hs⟩ := Option.bind_eq_some_iff.mp hs
      split at hs
      · next hr =>
        obtain ⟨rfl, rfl, rfl, rfl, rfl, rfl⟩ := nx_inj hs
        exact g_zast hF hd ho hr.1 hr.2.1 hr.2.2 (hg _ hn)
      · cases hs
    · cases hs
  | arraylength  =>
    obtain ⟨hn, hln⟩ := hdef rfl
    subst hln
    dsimp only [stp] at hs
    split at hs
    · obtain ⟨a, ho, hs⟩ := Option.bind_eq_some_iff.mp hs
      obtain ⟨rfl, rfl, rfl, rfl, rfl, rfl⟩ := nx_inj hs
      exact g_alen hF hd ho (hg _ hn)
    · cases hs
  | newarray at_ =>
    obtain ⟨hn, hln⟩ := hdef rfl
    subst hln
    dsimp only [stp] at hs
    split at hs
    · split at hs
      · next hr =>
        cases at_ with
        | int =>
          obtain ⟨rfl, rfl, rfl, rfl, rfl, rfl⟩ := nx_inj hs
          exact g_newi hF hd hr.1 hr.2.1 hr.2.2 (by omega) (by omega) (hg _ hn)
        | boolean =>
          obtain ⟨rfl, rfl, rfl, rfl, rfl, rfl⟩ := nx_inj hs
          exact g_newz hF hd hr.1 hr.2.1 hr.2.2 (by omega) (by omega) (hg _ hn)
        | long =>
          obtain ⟨rfl, rfl, rfl, rfl, rfl, rfl⟩ := nx_inj hs
          exact g_newl hF hd hr.1 hr.2.1 hr.2.2 (by omega) (by omega) (hg _ hn)
        | _ => cases hs
      · cases hs
    · cases hs
  | anewarray ix =>
    have hX := ((Bool.and_eq_true _ _).mp hI).2
    obtain ⟨hn, hln⟩ := hdef rfl
    subst hln
    have hY := (Bool.and_eq_true _ _).mp hX
    obtain ⟨t0, ht0⟩ := ty679 (cid := cid) (of_decide_eq_true hY.2)
    dsimp only [stp] at hs
    split at hs
    · split at hs
      · next hr =>
        obtain ⟨rfl, rfl, rfl, rfl, rfl, rfl⟩ := nx_inj hs
        exact g_anew hF hd (List.contains_iff_mem.mp hY.1) (of_decide_eq_true hY.2) ht0 hr.1 hr.2.1 hr.2.2.1 (by omega) (by omega) (hg _ hn)
      · cases hs
    · cases hs
  | new ix =>
    have hX := ((Bool.and_eq_true _ _).mp hI).2
    obtain ⟨hn, hln⟩ := hdef rfl
    subst hln
    have hY := (Bool.and_eq_true _ _).mp hX
    have hZ := (Bool.and_eq_true _ _).mp hY.1
    dsimp only [stp] at hs
    split at hs
    · next hr =>
      obtain ⟨rfl, rfl, rfl, rfl, rfl, rfl⟩ := nx_inj hs
      exact g_new hF hd (List.contains_iff_mem.mp hZ.1) (of_decide_eq_true hZ.2) (of_decide_eq_true hY.2) hr (by omega) (by omega) (hg _ hn)
    · cases hs
  | invokevirtual ix =>
    have hX := ((Bool.and_eq_true _ _).mp hI).2
    obtain ⟨hn, hln⟩ := hdef rfl
    subst hln
    dsimp only at hX
    dsimp only [stp] at hs
    split at hs
    · next h9 =>
      rw [if_pos h9] at hX
      have hY := (Bool.and_eq_true _ _).mp hX
      have hZ := (Bool.and_eq_true _ _).mp hY.1
      have a1 := of_decide_eq_true hZ.2
      have a2 := of_decide_eq_true hY.2
      split at hs
      · split at hs
        · next hr =>
          obtain ⟨rfl, rfl, rfl, rfl, rfl, rfl⟩ := nx_inj hs
          exact g_strl hF hSt hd (List.contains_iff_mem.mp hZ.1) (Nat.le_trans a1 hR.1) (Nat.le_trans a2 hR.2.1) hr.1 hr.2.1 hr.2.2 (by omega) (by omega) (hg _ hn)
        · cases hs
      · cases hs
    · next h9 =>
      rw [if_neg h9] at hX
      split at hs
      · next h8 =>
        rw [if_pos h8] at hX
        have hY := (Bool.and_eq_true _ _).mp hX
        have hZ := (Bool.and_eq_true _ _).mp hY.1
        have a1 := of_decide_eq_true hZ.2
        have a2 := of_decide_eq_true hY.2
        split at hs
        · split at hs
          · next hr =>
            obtain ⟨x, hi, hs⟩ := Option.bind_eq_some_iff.mp hs
            obtain ⟨rfl, rfl, rfl, rfl, rfl, rfl⟩ := nx_inj hs
            exact g_chr hF hSt hd (List.contains_iff_mem.mp hZ.1) (Nat.le_trans a1 hR.1) (Nat.le_trans a2 hR.2.1) hr.1 hr.2.1 hr.2.2 (by omega) (by omega) hi (hg _ hn)
          · cases hs
        · cases hs
      · split at hs
        · split at hs <;> cases hs
        · cases hs
  | invokespecial ix =>
    have hX := ((Bool.and_eq_true _ _).mp hI).2
    obtain ⟨hn, hln⟩ := hdef rfl
    subst hln
    dsimp only at hX
    dsimp only [stp] at hs
    split at hs
    · next c0 r hdr =>
      split at hs
      · next h9 =>
        rw [if_pos h9] at hX
        have hY := (Bool.and_eq_true _ _).mp hX
        have hZ := (Bool.and_eq_true _ _).mp hY.1
        have a1 := of_decide_eq_true hZ.2
        have a2 := of_decide_eq_true hY.2
        split at hs
        · next hr =>
          obtain ⟨rfl, rfl, rfl, rfl, rfl, rfl⟩ := nx_inj hs
          rw [hr.2, List.drop_zero] at hdr
          subst hdr
          exact g_objInit hF hd (List.contains_iff_mem.mp hZ.1) hr.1 (Nat.le_trans a1 hR.1) (Nat.le_trans a2 hR.2.1) (hg _ hn)
        · cases hs
      · split at hs <;> cases hs
    · cases hs
  | invokestatic ix =>
    have hX := ((Bool.and_eq_true _ _).mp hI).2
    obtain ⟨hn, hln⟩ := hdef rfl
    subst hln
    dsimp only at hX
    dsimp only [stp] at hs
    split at hs
    · next h9 =>
      rw [if_pos h9] at hX
      have hY := (Bool.and_eq_true _ _).mp hX
      have hZ := (Bool.and_eq_true _ _).mp hY.1
      have a1 := of_decide_eq_true hZ.2
      have a2 := of_decide_eq_true hY.2
      split at hs
      · obtain ⟨a, ha, hs⟩ := Option.bind_eq_some_iff.mp hs
        obtain ⟨b, hb3, hs⟩ := Option.bind_eq_some_iff.mp hs
        split at hs
        · next hr =>
          obtain ⟨rfl, rfl, rfl, rfl, rfl, rfl⟩ := nx_inj hs
          exact g_copy hF hd (List.contains_iff_mem.mp hZ.1) ha hb3 hr.1 hr.2.1 hr.2.2.1 hr.2.2.2.1 hr.2.2.2.2.1 hr.2.2.2.2.2.2.2 (Nat.le_trans a1 hR.1) (Nat.le_trans a2 hR.2.1) (hg _ hn)
        · cases hs
      · cases hs
    · next h9 =>
      rw [if_neg h9] at hX
      split at hs
      · next h4 =>
        rw [if_pos h4] at hX
        have hY := (Bool.and_eq_true _ _).mp hX
        have hZ := (Bool.and_eq_true _ _).mp hY.1
        have a1 := of_decide_eq_true hZ.2
        have a2 := of_decide_eq_true hY.2
        split at hs
        · split at hs
          · next hr =>
            obtain ⟨rfl, rfl, rfl, rfl, rfl, rfl⟩ := nx_inj hs
            exact g_max hF hd (List.contains_iff_mem.mp hZ.1) hr (Nat.le_trans a1 hR.1) (Nat.le_trans a2 hR.2.1) (by omega) (by omega) (hg _ hn)
          · cases hs
        · cases hs
      · next h4 =>
        rw [if_neg h4] at hX
        split at hs
        · next h5 =>
          rw [if_pos h5] at hX
          have hY := (Bool.and_eq_true _ _).mp hX
          have hZ := (Bool.and_eq_true _ _).mp hY.1
          have a1 := of_decide_eq_true hZ.2
          have a2 := of_decide_eq_true hY.2
          split at hs
          · split at hs
            · next hr =>
              obtain ⟨rfl, rfl, rfl, rfl, rfl, rfl⟩ := nx_inj hs
              exact g_min hF hd (List.contains_iff_mem.mp hZ.1) hr (Nat.le_trans a1 hR.1) (Nat.le_trans a2 hR.2.1) (by omega) (by omega) (hg _ hn)
            · cases hs
          · cases hs
        · next h5 =>
          rw [if_neg h5] at hX
          split at hs
          · next h6 =>
            rw [if_pos h6] at hX
            have hY := (Bool.and_eq_true _ _).mp hX
            have hZ := (Bool.and_eq_true _ _).mp hY.1
            have a1 := of_decide_eq_true hZ.2
            have a2 := of_decide_eq_true hY.2
            split at hs
            · split at hs
              · next hr =>
                obtain ⟨rfl, rfl, rfl, rfl, rfl, rfl⟩ := nx_inj hs
                exact g_abs hF hd (List.contains_iff_mem.mp hZ.1) hr (Nat.le_trans a1 hR.1) (Nat.le_trans a2 hR.2.1) (by omega) (by omega) (hg _ hn)
              · cases hs
            · cases hs
          · split at hs <;> cases hs
  | ireturn  =>
    dsimp only [stp] at hs
    split at hs
    · split at hs <;> cases hs
    · cases hs
  | lreturn  =>
    dsimp only [stp] at hs
    split at hs
    · split at hs <;> cases hs
    · cases hs
  | return_  =>
    dsimp only [stp] at hs
    split at hs
    · split at hs <;> cases hs
    · cases hs
  | _ => cases hs
end STEP
end
section
/-! A RUN OF THE PURE MACHINE IS A RUN OF THE MACHINE -/
def isEnd (ins : Instr) : Bool := match ins with
  | .ireturn | .lreturn | .return_ | .invokevirtual _ | .invokespecial _ | .invokestatic _ => true
  | _ => false
set_option maxHeartbeats 4000000 in
theorem stp_inr {X : PX} {bp ln : Nat} {ins : Instr} {ar : List Nat} {z : Int} {c : PC} {w : Option PV ⊕ (Nat × List PV × List PV)} (hs : stp X (bp, ins, ln, ar, z) c = some (.inr w)) : isEnd ins = true := by
  obtain ⟨i, L, st, h, cs, sl⟩ := c
  have hnx : ∀ {i : Nat} {L : PL} {st : List PV} {h : PHp} {cs sl : Nat}, nx i L st h cs sl = some (.inr w) → False := by
    intro i L st h cs sl q
    simp [nx] at q
  cases ins <;> first
    | rfl
    | (exfalso; cases hs; done)
    | (exfalso; exact hnx hs)
    | (exfalso; obtain ⟨_, _, _, _, _, _, hs⟩ := i2_spec hs; exact hnx hs)
    | (exfalso; obtain ⟨_, _, _, _, _, _, hs⟩ := l2_spec hs; exact hnx hs)
    | (exfalso; obtain ⟨_, _, _, _, _, _, hs⟩ := li2_spec hs; exact hnx hs)
    | (exfalso; rcases ld_spec hs with ⟨_, _, _, hs⟩ | ⟨_, _, _, hs⟩ | ⟨_, _, _, hs⟩ <;> exact hnx hs)
    | (exfalso; dsimp only [stp] at hs; split at hs <;> first | (cases hs; done) | exact hnx hs | (split at hs <;> first | (cases hs; done) | exact hnx hs | (split at hs <;> first | (cases hs; done) | exact hnx hs)))
    | (exfalso; dsimp only [stp] at hs; split at hs <;> first | (cases hs; done) | (obtain ⟨a, ho, hs⟩ := Option.bind_eq_some_iff.mp hs; first | exact hnx hs | (split at hs <;> first | (cases hs; done) | exact hnx hs) | (obtain ⟨x, hi, hs⟩ := Option.bind_eq_some_iff.mp hs; exact hnx hs)))
section MAIN
variable {base : Nat} {ext adV : Nat → Nat} {cid : FieldType → ClassId} {D : va_G} {X : PX} {k : Nat} {p : Program} {l : Launch} {e : Env} {R : Room} {s : State} {m : MethodId} {args : Array Value} {below : List Frame} {meth : Method} {c : Code} {Q : State → Prop} {bp : Nat} {L : PL} {st : List PV} {h : PHp} {cs sl : Nat}
theorem cal_ok {c n : Nat} (h : calC (mt k) c n = true) : c < 284 ∧ mFr c + 1 ≤ mFr k ∧ 8 + (mL c + 11) + mLo c ≤ mLo k ∧ (parseMethodDescriptor (mY c).desc).map (fun d => d.parameters.length) = some n := by
  simp only [calC, Bool.and_eq_true, decide_eq_true_eq] at h
  exact ⟨h.1.1.1, h.1.1.2, h.1.2, h.2⟩
theorem ret_init {c : Nat} (hc : c < 284) (h2 : mK c = 2) : mR c = none := of_decide_eq_true (by
  have := List.all_eq_true.mp (show (List.range 284).all (fun c => !decide (mK c = 2) || decide (mR c = none)) = true by decide +kernel) c (List.mem_range.mpr hc)
  simp only [Bool.or_eq_true, Bool.not_eq_true', decide_eq_false_iff_not, decide_eq_true_eq, h2, not_true_eq_false, false_or] at this
  exact decide_eq_true this)
set_option maxHeartbeats 4000000 in
theorem stp_call (hF : Fx base ext adV cid D X k p s m args meth c) (hR : mFr k ≤ R.frames ∧ mLo k ≤ R.locals ∧ mMc k ≤ R.cells ∧ mMs k ≤ R.slots) {i ln : Nat} {ins : Instr} {ar : List Nat} {z : Int} (hd : decode (mC k) bp = .ok (ins, ln)) (hI : chkI (mt k) (lks (mO k)) (cds k) i (bp, ins, ln, ar, z) = true) {k2 : Nat} {as r : List PV} (hs : stp X (bp, ins, ln, ar, z) (i, L, st, h, cs, sl) = some (.inr (.inr (k2, as, r)))) : k2 < 284 ∧ bpOf (cds k) (i + 1) = some (bp + 3) ∧ ∀ (v : Option PV) (h2 : PHp), cs + mMc k2 ≤ mMc k → sl + mMs k2 ≤ mMs k → MetP base ext adV cid D X l (mY k2) (mW k2) (mRm k2) (mMc k2) (mMs k2) as h v h2 → Gw base ext cid D k p l e R s m args below meth c Q (bp + 3) L (v.toList ++ r) h2 (cs + mMc k2) (sl + mMs k2) → Gw base ext cid D k p l e R s m args below meth c Q bp L st h cs sl := by
  have hend := stp_inr hs
  have hdef := fun q => chk_def hI q
  cases ins <;> first | (cases hend; done) | skip
  case ireturn => dsimp only [stp] at hs; split at hs <;> first | (cases hs; done) | (split at hs <;> cases hs)
  case lreturn => dsimp only [stp] at hs; split at hs <;> first | (cases hs; done) | (split at hs <;> cases hs)
  case return_ => dsimp only [stp] at hs; split at hs <;> first | (cases hs; done) | (split at hs <;> cases hs)
  case invokevirtual ix =>
    have hX := ((Bool.and_eq_true _ _).mp hI).2
    obtain ⟨hn, hln⟩ := hdef rfl
    subst hln
    dsimp only at hX
    dsimp only [stp] at hs
    split at hs
    · split at hs
      · split at hs
        · simp [nx] at hs
        · cases hs
      · cases hs
    · next h9 =>
      rw [if_neg h9] at hX
      split at hs
      · split at hs
        · split at hs
          · obtain ⟨x, hi, hs⟩ := Option.bind_eq_some_iff.mp hs
            simp [nx] at hs
          · cases hs
        · cases hs
      · next h8 =>
        rw [if_neg h8] at hX
        simp only [Bool.and_eq_true, decide_eq_true_eq] at hX
        obtain ⟨⟨⟨⟨hX1, hX2⟩, hX3⟩, hX4⟩, hX5⟩ := hX
        obtain ⟨c1, c2, c3, c4⟩ := cal_ok hX2
        split at hs
        · next c0 r0 hdr =>
          split at hs
          · next hr =>
            cases hs
            exact ⟨c1, hn, fun v h2 q1 q2 hM g => g_virt hF hd (List.contains_iff_mem.mp hX1) c1 hX3 hX4 hX5 c4 (by omega) (by omega) hdr hr.1 hr.2 (by omega) (by omega) hM g⟩
          · cases hs
        · cases hs
  case invokespecial ix =>
    have hX := ((Bool.and_eq_true _ _).mp hI).2
    obtain ⟨hn, hln⟩ := hdef rfl
    subst hln
    dsimp only at hX
    dsimp only [stp] at hs
    split at hs
    · next c0 r0 hdr =>
      split at hs
      · split at hs
        · simp [nx] at hs
        · cases hs
      · next h9 =>
        rw [if_neg h9] at hX
        simp only [Bool.and_eq_true, Bool.or_eq_true, decide_eq_true_eq] at hX
        obtain ⟨⟨hX1, hX2⟩, hX3⟩ := hX
        obtain ⟨c1, c2, c3, c4⟩ := cal_ok hX2
        split at hs
        · next hr =>
          cases hs
          exact ⟨c1, hn, fun v h2 q1 q2 hM g => g_spec hF hd (hX1.imp List.contains_iff_mem.mp List.contains_iff_mem.mp) c1 hX3 (ret_init c1 hX3) c4 (by omega) (by omega) hdr hr (by omega) (by omega) hM g⟩
        · cases hs
    · cases hs
  case invokestatic ix =>
    have hX := ((Bool.and_eq_true _ _).mp hI).2
    obtain ⟨hn, hln⟩ := hdef rfl
    subst hln
    dsimp only at hX
    dsimp only [stp] at hs
    split at hs
    · split at hs
      · obtain ⟨a, ha, hs⟩ := Option.bind_eq_some_iff.mp hs
        obtain ⟨b, hb3, hs⟩ := Option.bind_eq_some_iff.mp hs
        split at hs
        · simp [nx] at hs
        · cases hs
      · cases hs
    · next h9 =>
      rw [if_neg h9] at hX
      split at hs
      · split at hs
        · split at hs
          · simp [nx] at hs
          · cases hs
        · cases hs
      · next h4 =>
        rw [if_neg h4] at hX
        split at hs
        · split at hs
          · split at hs
            · simp [nx] at hs
            · cases hs
          · cases hs
        · next h5 =>
          rw [if_neg h5] at hX
          split at hs
          · split at hs
            · split at hs
              · simp [nx] at hs
              · cases hs
            · cases hs
          · next h6 =>
            rw [if_neg h6] at hX
            simp only [Bool.and_eq_true, decide_eq_true_eq] at hX
            obtain ⟨⟨hX1, hX2⟩, hX3⟩ := hX
            obtain ⟨c1, c2, c3, c4⟩ := cal_ok hX2
            split at hs
            · next hr =>
              cases hs
              exact ⟨c1, hn, fun v h2 q1 q2 hM g => g_stat hF hd (List.contains_iff_mem.mp hX1) c1 hX3 c4 (by omega) (by omega) hr.1 hr.2 (by omega) (by omega) hM g⟩
            · cases hs
theorem stp_ret (hF : Fx base ext adV cid D X k p s m args meth c) (hr : meth.sig.returnType = mR k) (hlk : meth.locks = false) {i ln n0 : Nat} {ins : Instr} {ar : List Nat} {z : Int} {v : Option PV} (hd : decode (mC k) bp = .ok (ins, ln)) (hI : chkI (mt k) (lks (mO k)) (cds k) i (bp, ins, ln, ar, z) = true) (hs : stp X (bp, ins, ln, ar, z) (i, L, st, h, cs, sl) = some (.inr (.inl v))) (hs0 : s.heap.size = base + n0) : Gw base ext cid D k p l e R s m args below meth c (QE base ext cid D args s below (n0 + mMc k) (mMc k) (mMs k) v h) bp L st h cs sl := by
  have hend := stp_inr hs
  cases ins <;> first | (cases hend; done) | skip
  case ireturn =>
    have hY := (Bool.and_eq_true _ _).mp hI
    have hZ := (Bool.and_eq_true _ _).mp hY.1
    have hW := (Bool.and_eq_true _ _).mp hZ.1
    have hln := of_decide_eq_true hY.2
    have hms := of_decide_eq_true hZ.2
    have hmc := of_decide_eq_true hW.2
    have hk := hW.1
    subst hln
    dsimp only [stp] at hs
    split at hs
    · next x =>
      split at hs
      · next hq =>
        cases hs
        obtain ⟨q1, q2, q3⟩ := hq
        rw [hmc] at q1
        rw [hms] at q2
        subst q1
        subst q2
        refine g_iret hF hr hlk hd ?_ hs0
        simp only [Bool.or_eq_true, Bool.and_eq_true, beq_iff_eq, decide_eq_true_eq] at hk
        rcases hk with hk | hk
        · exact Or.inl hk.2
        · refine Or.inr ⟨hk.2, ?_⟩
          rcases q3 with q3 | q3
          · omega
          · exact q3
      · cases hs
    · cases hs
  case lreturn =>
    have hY := (Bool.and_eq_true _ _).mp hI
    have hZ := (Bool.and_eq_true _ _).mp hY.1
    have hW := (Bool.and_eq_true _ _).mp hZ.1
    have hln := of_decide_eq_true hY.2
    have hms := of_decide_eq_true hZ.2
    have hmc := of_decide_eq_true hW.2
    have hk := of_decide_eq_true hW.1
    subst hln
    dsimp only [stp] at hs
    split at hs
    · next x =>
      split at hs
      · next hq =>
        cases hs
        obtain ⟨q1, q2⟩ := hq
        rw [hmc] at q1
        rw [hms] at q2
        subst q1
        subst q2
        exact g_lret hF hr hlk hd hk hs0
      · cases hs
    · cases hs
  case return_ =>
    have hY := (Bool.and_eq_true _ _).mp hI
    have hZ := (Bool.and_eq_true _ _).mp hY.1
    have hW := (Bool.and_eq_true _ _).mp hZ.1
    have hln := of_decide_eq_true hY.2
    have hms := of_decide_eq_true hZ.2
    have hmc := of_decide_eq_true hW.2
    have hk := of_decide_eq_true hW.1
    subst hln
    dsimp only [stp] at hs
    split at hs
    · split at hs
      · next hq =>
        cases hs
        obtain ⟨q1, q2⟩ := hq
        rw [hmc] at q1
        rw [hms] at q2
        subst q1
        subst q2
        exact g_vret hF hr hlk hd hk hs0
      · cases hs
    · cases hs
  case invokevirtual ix =>
    dsimp only [stp] at hs
    split at hs
    · split at hs <;> first | (cases hs; done) | (split at hs <;> first | (cases hs; done) | (simp [nx] at hs; done))
    · split at hs
      · split at hs <;> first | (cases hs; done) | (split at hs <;> first | (cases hs; done) | (obtain ⟨x, hi, hs⟩ := Option.bind_eq_some_iff.mp hs; simp [nx] at hs; done))
      · split at hs <;> first | (cases hs; done) | (split at hs <;> cases hs)
  case invokespecial ix =>
    dsimp only [stp] at hs
    split at hs
    · split at hs
      · split at hs <;> first | (cases hs; done) | (simp [nx] at hs; done)
      · split at hs <;> cases hs
    · cases hs
  case invokestatic ix =>
    dsimp only [stp] at hs
    split at hs
    · split at hs
      · obtain ⟨a, ha, hs⟩ := Option.bind_eq_some_iff.mp hs
        obtain ⟨b, hb3, hs⟩ := Option.bind_eq_some_iff.mp hs
        split at hs <;> first | (cases hs; done) | (simp [nx] at hs; done)
      · cases hs
    · split at hs
      · split at hs <;> first | (cases hs; done) | (split at hs <;> first | (cases hs; done) | (simp [nx] at hs; done))
      · split at hs
        · split at hs <;> first | (cases hs; done) | (split at hs <;> first | (cases hs; done) | (simp [nx] at hs; done))
        · split at hs
          · split at hs <;> first | (cases hs; done) | (split at hs <;> first | (cases hs; done) | (simp [nx] at hs; done))
          · split at hs <;> cases hs
end MAIN
/-- what a run says, of any frame that runs it -/
def SndN (base : Nat) (ext adV : Nat → Nat) (cid : FieldType → ClassId) (D : va_G) (X : PX) (l : Launch) (n : Nat) : Prop :=
  ∀ (k : Nat), k < 285 → ∀ (i : Nat) (L : PL) (st : List PV) (h : PHp) (cs sl : Nat) (v : Option PV) (h2 : PHp), run X cds mi n k (i, L, st, h, cs, sl) = some (v, h2) →
  ∀ (p : Program) (e : Env) (R : Room) (s : State) (m : MethodId) (args : Array Value) (below : List Frame) (meth : Method) (c : Code) (Q : State → Prop), Fx base ext adV cid D X k p s m args meth c →
  (mFr k ≤ R.frames ∧ mLo k ≤ R.locals ∧ mMc k ≤ R.cells ∧ mMs k ≤ R.slots) → (cs ≤ mMc k ∧ sl ≤ mMs k) →
  (∀ (i : Nat) (L : PL) (st : List PV) (cs sl : Nat) (en : PEn), (cds k)[i]? = some en → stp X en (i, L, st, h2, cs, sl) = some (.inr (.inl v)) → Gw base ext cid D k p l e R s m args below meth c Q en.1 L st h2 cs sl) →
  ∀ bp, bpOf (cds k) i = some bp → Gw base ext cid D k p l e R s m args below meth c Q bp L st h cs sl
theorem bp_0 : (List.range 285).all (fun k => decide (bpOf (cds k) 0 = some 0)) = true := by decide +kernel
theorem metP_of {base : Nat} {ext adV : Nat → Nat} {cid : FieldType → ClassId} {D : va_G} {X : PX} {l : Launch} (OK : ∀ k, k < 285 → okM (mt k) (lks (mO k)) (cds k)) {n : Nat} (IH : SndN base ext adV cid D X l n) {k : Nat} (hk : k < 284) {as : List PV} {h h2 : PHp} {v : Option PV} (hlen : (pargs as).length ≤ mL k) (hrun : run X cds mi n k (0, pent (mL k) as, [], h, 0, 0) = some (v, h2)) : MetP base ext adV cid D X l (mY k) (mW k) (mRm k) (mMc k) (mMs k) as h v h2 := by
  refine Met.ofW (cc := mC k) (maxL := mL k) (ret := mR k) (me_fa hk).2.2.2.2 rfl ?_
  intro p e s m args below meth c s₁ B hml hv
  obtain ⟨rfl, hP, hsz, hK, hE⟩ := hv
  have hts0 := atoms_spec (ws := mW k) B.pre
  have hts : ∀ w ∈ TB, w.before (as.map (cV base ext)).toArray s = true := fun w hw => hts0 w (List.mem_cons_of_mem _ hw)
  have hown : s.vm.findClass (mY k).cls = some m.cls := findClass_of_methodNamed B.named
  have hF : Fx base ext adV cid D X k p s m (as.map (cV base ext)).toArray meth c := ⟨B.exec, B.bytes, hml, by rw [own_of (by omega)]; exact hown, hts, hK, hE, fun q => (name_of_methodNamed B.named B.method).1.trans q, by omega⟩
  have hret : ∀ (i : Nat) (L : PL) (st : List PV) (cs sl : Nat) (en : PEn), (cds k)[i]? = some en → stp X en (i, L, st, h2, cs, sl) = some (.inr (.inl v)) → Gw base ext cid D k p l e (mRm k) s m (as.map (cV base ext)).toArray below meth c (QE base ext cid D (as.map (cV base ext)).toArray s below (h.length + mMc k) (mMc k) (mMs k) v h2) en.1 L st h2 cs sl := by
    intro i L st cs sl en hen hst
    obtain ⟨bp, ins, ln, ar, z⟩ := en
    have ok := OK k (by omega) i _ hen
    exact stp_ret hF B.returns B.notSynchronized ok.1 ok.2 hst hsz
  have hb0 : bpOf (cds k) 0 = some 0 := of_decide_eq_true (List.all_eq_true.mp bp_0 k (List.mem_range.mpr (by omega)))
  have G := IH k (by omega) 0 _ [] h 0 0 v h2 hrun p e (mRm k) s m _ below meth c _ hF ⟨Nat.le_refl _, Nat.le_refl _, Nat.le_refl _, Nat.le_refl _⟩ ⟨Nat.zero_le _, Nat.zero_le _⟩ hret 0 hb0
  rw [lg_entry_eq]
  exact G s.heap [] _ (LR_entry hlen) hP hsz va_S.rf (by omega)
theorem snd_all {base : Nat} {ext adV : Nat → Nat} {cid : FieldType → ClassId} {D : va_G} {X : PX} {l : Launch} (OK : ∀ k, k < 285 → okM (mt k) (lks (mO k)) (cds k)) (hSt : StrOk base ext adV cid D X l) : ∀ n, SndN base ext adV cid D X l n := by
  intro n
  induction n with
  | zero =>
    intro k hk i L st h cs sl v h2 hrun
    simp [run] at hrun
  | succ n IH =>
    intro k hk i L st h cs sl v h2 hrun p e R s m args below meth c Q hF hR hb0 hret bp hbp
    unfold run at hrun
    dsimp only at hrun
    split at hrun
    · cases hrun
    · next en hen =>
      obtain ⟨bp2, ins, ln, ar, z⟩ := en
      have hbb : bp = bp2 := by
        unfold bpOf at hbp
        rw [hen] at hbp
        exact (Option.some.inj hbp).symm
      subst hbb
      have ok := OK k hk i _ hen
      split at hrun
      · cases hrun
      · next d hst =>
        obtain ⟨i2, L2, st2, h3, cs2, sl2⟩ := d
        split at hrun
        · next hbd => exact stp_next hk hF hSt hR ok.1 ok.2 hst hb0 hbd (fun bp3 hb3 => IH k hk i2 L2 st2 h3 cs2 sl2 v h2 hrun p e R s m args below meth c Q hF hR hbd hret bp3 hb3)
        · cases hrun
      · next w hst =>
        cases hrun
        exact hret i L st cs sl _ hen hst
      · next k2 as r hst =>
        split at hrun
        · next hbd =>
          split at hrun
          · cases hrun
          · next w h3 hr2 =>
            obtain ⟨hk2, hn, key⟩ := stp_call (base := base) (ext := ext) (adV := adV) (cid := cid) (D := D) (l := l) (below := below) (e := e) (Q := Q) hF hR ok.1 ok.2 hst
            exact key w h3 hbd.1 hbd.2.1 (metP_of OK IH hk2 hbd.2.2 hr2) (IH k hk (i + 1) L (w.toList ++ r) h3 (cs + mMc k2) (sl + mMs k2) v h2 hrun p e R s m args below meth c Q hF hR ⟨hbd.1, hbd.2.1⟩ hret (bp + 3) hn)
        · cases hrun
end
section
/-! THE METHODS OF STRING CONSTANTS -/
theorem dJ0_length_8abf5_0 : decode cJ0_length_8abf5 0 = .ok (.aload_n 0, 1) := by decide +kernel
theorem dJ0_length_8abf5_1 : decode cJ0_length_8abf5 1 = .ok (.getfield 9, 3) := by decide +kernel
theorem dJ0_length_8abf5_4 : decode cJ0_length_8abf5 4 = .ok (.arraylength, 1) := by decide +kernel
theorem dJ0_length_8abf5_5 : decode cJ0_length_8abf5 5 = .ok (.aload_n 0, 1) := by decide +kernel
theorem dJ0_length_8abf5_6 : decode cJ0_length_8abf5 6 = .ok (.invokevirtual 335, 3) := by decide +kernel
theorem dJ0_length_8abf5_9 : decode cJ0_length_8abf5 9 = .ok (.ishr, 1) := by decide +kernel
theorem dJ0_length_8abf5_10 : decode cJ0_length_8abf5 10 = .ok (.ireturn, 1) := by decide +kernel
set_option maxRecDepth 20000 in
theorem jc_J0_length : Cond.code yJ0_length_8abf5 cJ0_length_8abf5 1 (some .int) ∈ TB := List.mem_filter.mpr ⟨List.mem_append_right _ (List.mem_append_right _ (List.mem_append_right _ (List.mem_append_left _ (List.mem_of_getElem? (i := 30) rfl)))), rfl⟩
theorem dJ0_coder_7d493_0 : decode cJ0_coder_7d493 0 = .ok (.getstatic 38, 3) := by decide +kernel
theorem dJ0_coder_7d493_3 : decode cJ0_coder_7d493 3 = .ok (.ifCond .eq 10, 3) := by decide +kernel
theorem dJ0_coder_7d493_6 : decode cJ0_coder_7d493 6 = .ok (.aload_n 0, 1) := by decide +kernel
theorem dJ0_coder_7d493_7 : decode cJ0_coder_7d493 7 = .ok (.getfield 15, 3) := by decide +kernel
theorem dJ0_coder_7d493_10 : decode cJ0_coder_7d493 10 = .ok (.goto 4, 3) := by decide +kernel
theorem dJ0_coder_7d493_13 : decode cJ0_coder_7d493 13 = .ok (.iconst 1, 1) := by decide +kernel
theorem dJ0_coder_7d493_14 : decode cJ0_coder_7d493 14 = .ok (.ireturn, 1) := by decide +kernel
set_option maxRecDepth 20000 in
theorem jc_J0_coder : Cond.code yJ0_coder_7d493 cJ0_coder_7d493 1 (some .byte) ∈ TB := List.mem_filter.mpr ⟨List.mem_append_right _ (List.mem_append_right _ (List.mem_append_right _ (List.mem_append_left _ (List.mem_of_getElem? (i := 34) rfl)))), rfl⟩
theorem dJ0_charAt_5068e_0 : decode cJ0_charAt_5068e 0 = .ok (.aload_n 0, 1) := by decide +kernel
theorem dJ0_charAt_5068e_1 : decode cJ0_charAt_5068e 1 = .ok (.invokevirtual 492, 3) := by decide +kernel
theorem dJ0_charAt_5068e_4 : decode cJ0_charAt_5068e 4 = .ok (.ifCond .eq 12, 3) := by decide +kernel
theorem dJ0_charAt_5068e_7 : decode cJ0_charAt_5068e 7 = .ok (.aload_n 0, 1) := by decide +kernel
theorem dJ0_charAt_5068e_8 : decode cJ0_charAt_5068e 8 = .ok (.getfield 9, 3) := by decide +kernel
theorem dJ0_charAt_5068e_11 : decode cJ0_charAt_5068e 11 = .ok (.iload_n 1, 1) := by decide +kernel
theorem dJ0_charAt_5068e_12 : decode cJ0_charAt_5068e 12 = .ok (.invokestatic 495, 3) := by decide +kernel
theorem dJ0_charAt_5068e_15 : decode cJ0_charAt_5068e 15 = .ok (.ireturn, 1) := by decide +kernel
theorem dJ0_charAt_5068e_16 : decode cJ0_charAt_5068e 16 = .ok (.aload_n 0, 1) := by decide +kernel
theorem dJ0_charAt_5068e_17 : decode cJ0_charAt_5068e 17 = .ok (.getfield 9, 3) := by decide +kernel
theorem dJ0_charAt_5068e_20 : decode cJ0_charAt_5068e 20 = .ok (.iload_n 1, 1) := by decide +kernel
theorem dJ0_charAt_5068e_21 : decode cJ0_charAt_5068e 21 = .ok (.invokestatic 498, 3) := by decide +kernel
theorem dJ0_charAt_5068e_24 : decode cJ0_charAt_5068e 24 = .ok (.ireturn, 1) := by decide +kernel
set_option maxRecDepth 20000 in
theorem jc_J0_charAt : Cond.code yJ0_charAt_5068e cJ0_charAt_5068e 2 (some .char) ∈ TB := List.mem_filter.mpr ⟨List.mem_append_right _ (List.mem_append_right _ (List.mem_append_right _ (List.mem_append_left _ (List.mem_of_getElem? (i := 40) rfl)))), rfl⟩
theorem dJ0_isLatin1_aae02_0 : decode cJ0_isLatin1_aae02 0 = .ok (.getstatic 38, 3) := by decide +kernel
theorem dJ0_isLatin1_aae02_3 : decode cJ0_isLatin1_aae02 3 = .ok (.ifCond .eq 14, 3) := by decide +kernel
theorem dJ0_isLatin1_aae02_6 : decode cJ0_isLatin1_aae02 6 = .ok (.aload_n 0, 1) := by decide +kernel
theorem dJ0_isLatin1_aae02_7 : decode cJ0_isLatin1_aae02 7 = .ok (.getfield 15, 3) := by decide +kernel
theorem dJ0_isLatin1_aae02_10 : decode cJ0_isLatin1_aae02 10 = .ok (.ifCond .ne 7, 3) := by decide +kernel
theorem dJ0_isLatin1_aae02_13 : decode cJ0_isLatin1_aae02 13 = .ok (.iconst 1, 1) := by decide +kernel
theorem dJ0_isLatin1_aae02_14 : decode cJ0_isLatin1_aae02 14 = .ok (.goto 4, 3) := by decide +kernel
theorem dJ0_isLatin1_aae02_17 : decode cJ0_isLatin1_aae02 17 = .ok (.iconst 0, 1) := by decide +kernel
theorem dJ0_isLatin1_aae02_18 : decode cJ0_isLatin1_aae02 18 = .ok (.ireturn, 1) := by decide +kernel
set_option maxRecDepth 20000 in
theorem jc_J0_isLatin1 : Cond.code yJ0_isLatin1_aae02 cJ0_isLatin1_aae02 1 (some .boolean) ∈ TB := List.mem_filter.mpr ⟨List.mem_append_right _ (List.mem_append_right _ (List.mem_append_right _ (List.mem_append_left _ (List.mem_of_getElem? (i := 44) rfl)))), rfl⟩
theorem dJ1_charAt_3b067_0 : decode cJ1_charAt_3b067 0 = .ok (.iload_n 1, 1) := by decide +kernel
theorem dJ1_charAt_3b067_1 : decode cJ1_charAt_3b067 1 = .ok (.aload_n 0, 1) := by decide +kernel
theorem dJ1_charAt_3b067_2 : decode cJ1_charAt_3b067 2 = .ok (.arraylength, 1) := by decide +kernel
theorem dJ1_charAt_3b067_3 : decode cJ1_charAt_3b067 3 = .ok (.invokestatic 9, 3) := by decide +kernel
theorem dJ1_charAt_3b067_6 : decode cJ1_charAt_3b067 6 = .ok (.aload_n 0, 1) := by decide +kernel
theorem dJ1_charAt_3b067_7 : decode cJ1_charAt_3b067 7 = .ok (.iload_n 1, 1) := by decide +kernel
theorem dJ1_charAt_3b067_8 : decode cJ1_charAt_3b067 8 = .ok (.baload, 1) := by decide +kernel
theorem dJ1_charAt_3b067_9 : decode cJ1_charAt_3b067 9 = .ok (.sipush 255, 3) := by decide +kernel
theorem dJ1_charAt_3b067_12 : decode cJ1_charAt_3b067 12 = .ok (.iand, 1) := by decide +kernel
theorem dJ1_charAt_3b067_13 : decode cJ1_charAt_3b067 13 = .ok (.i2c, 1) := by decide +kernel
theorem dJ1_charAt_3b067_14 : decode cJ1_charAt_3b067 14 = .ok (.ireturn, 1) := by decide +kernel
set_option maxRecDepth 20000 in
theorem jc_J1_charAt : Cond.code yJ1_charAt_3b067 cJ1_charAt_3b067 2 (some .char) ∈ TB := List.mem_filter.mpr ⟨List.mem_append_right _ (List.mem_append_right _ (List.mem_append_right _ (List.mem_append_left _ (List.mem_of_getElem? (i := 47) rfl)))), rfl⟩
theorem dJ0_checkIndex_df160_0 : decode cJ0_checkIndex_df160 0 = .ok (.iload_n 0, 1) := by decide +kernel
theorem dJ0_checkIndex_df160_1 : decode cJ0_checkIndex_df160 1 = .ok (.iload_n 1, 1) := by decide +kernel
theorem dJ0_checkIndex_df160_2 : decode cJ0_checkIndex_df160 2 = .ok (.getstatic 1053, 3) := by decide +kernel
theorem dJ0_checkIndex_df160_5 : decode cJ0_checkIndex_df160 5 = .ok (.invokestatic 1059, 3) := by decide +kernel
theorem dJ0_checkIndex_df160_8 : decode cJ0_checkIndex_df160 8 = .ok (.pop, 1) := by decide +kernel
theorem dJ0_checkIndex_df160_9 : decode cJ0_checkIndex_df160 9 = .ok (.return_, 1) := by decide +kernel
set_option maxRecDepth 20000 in
theorem jc_J0_checkIndex : Cond.code yJ0_checkIndex_df160 cJ0_checkIndex_df160 2 none ∈ TB := List.mem_filter.mpr ⟨List.mem_append_right _ (List.mem_append_right _ (List.mem_append_right _ (List.mem_append_left _ (List.mem_of_getElem? (i := 50) rfl)))), rfl⟩
theorem dJ3_checkIndex_8e157_0 : decode cJ3_checkIndex_8e157 0 = .ok (.iload_n 0, 1) := by decide +kernel
theorem dJ3_checkIndex_8e157_1 : decode cJ3_checkIndex_8e157 1 = .ok (.ifCond .lt 8, 3) := by decide +kernel
theorem dJ3_checkIndex_8e157_4 : decode cJ3_checkIndex_8e157 4 = .ok (.iload_n 0, 1) := by decide +kernel
theorem dJ3_checkIndex_8e157_5 : decode cJ3_checkIndex_8e157 5 = .ok (.iload_n 1, 1) := by decide +kernel
theorem dJ3_checkIndex_8e157_6 : decode cJ3_checkIndex_8e157 6 = .ok (.if_icmp .lt 10, 3) := by decide +kernel
theorem dJ3_checkIndex_8e157_9 : decode cJ3_checkIndex_8e157 9 = .ok (.aload_n 2, 1) := by decide +kernel
theorem dJ3_checkIndex_8e157_10 : decode cJ3_checkIndex_8e157 10 = .ok (.iload_n 0, 1) := by decide +kernel
theorem dJ3_checkIndex_8e157_11 : decode cJ3_checkIndex_8e157 11 = .ok (.iload_n 1, 1) := by decide +kernel
theorem dJ3_checkIndex_8e157_12 : decode cJ3_checkIndex_8e157 12 = .ok (.invokestatic 95, 3) := by decide +kernel
theorem dJ3_checkIndex_8e157_15 : decode cJ3_checkIndex_8e157 15 = .ok (.athrow, 1) := by decide +kernel
theorem dJ3_checkIndex_8e157_16 : decode cJ3_checkIndex_8e157 16 = .ok (.iload_n 0, 1) := by decide +kernel
theorem dJ3_checkIndex_8e157_17 : decode cJ3_checkIndex_8e157 17 = .ok (.ireturn, 1) := by decide +kernel
set_option maxRecDepth 20000 in
theorem jc_J3_checkIndex : Cond.code yJ3_checkIndex_8e157 cJ3_checkIndex_8e157 3 (some .int) ∈ TB := List.mem_filter.mpr ⟨List.mem_append_right _ (List.mem_append_right _ (List.mem_append_right _ (List.mem_append_left _ (List.mem_of_getElem? (i := 55) rfl)))), rfl⟩
def MJ (base : Nat) (ext adV : Nat → Nat) (cid : FieldType → ClassId) (D : va_G) (X : PX) (l : Launch) (y : MethodName) (cc : ByteArray) (ml : Nat) (ret : Option FieldType) (rm : Room) (vs : List Value) (v : Option Value) (h : PHp) : Prop :=
  Met l y (Cond.code y cc ml ret :: TB) rm (va_Pc vs (PreP base ext adV cid D X h)) (Qg v (PosP base ext cid D h.length h) (fun q => base ≤ q)) 0 0 (fun q => base ≤ q)
theorem blindV {base : Nat} {ext adV : Nat → Nat} {cid : FieldType → ClassId} {D : va_G} {X : PX} {h : PHp} {vs : List Value} : FrameBlind (va_Pc vs (PreP base ext adV cid D X h)) := by
  intro a U g mk q
  obtain ⟨q0, q1, q2, q3, q4⟩ := q
  exact ⟨q0, q1, q2, va_K.moved (u := U) (U := U.calling g mk a) (Vm.Alike.refl U.vm) q3, q4.calling g mk a⟩
theorem goodJ {pre : List Cond} {y : MethodName} {cc : ByteArray} {ml : Nat} {ret : Option FieldType} (hp : ∀ w ∈ pre, w ∈ TB) (hc : Cond.code y cc ml ret ∈ TB) : GoodIn TB (pre ++ Cond.code y cc ml ret :: TB) := by
  intro w hw
  have : w ∈ TB := by
    rcases List.mem_append.mp hw with hw | hw
    · exact hp w hw
    · rcases List.mem_cons.mp hw with rfl | hw
      · exact hc
      · exact hw
  exact ⟨this, TB_gd this⟩
section STR
variable {base : Nat} {ext adV : Nat → Nat} {cid : FieldType → ClassId} {D : va_G} {X : PX} {l : Launch} {h : PHp}
theorem j_coder {j : Nat} (hj : j < 11) : MJ base ext adV cid D X l yJ0_coder_7d493 cJ0_coder_7d493 1 (some .byte) { frames := 0, cells := 0, slots := 0, locals := 0 } [.ref (ext j)] (some (.int 0)) h := by
  refine Met.ofW (cc := cJ0_coder_7d493) (maxL := 1) (ret := (some .byte)) (by decide) rfl ?_
  intro p e s m args below meth c s₁ B hml hv
  obtain ⟨rfl, hP, hsz, hK, hE⟩ := hv
  have hx := B.exec
  have hb := B.bytes
  have hr := B.returns
  have hts0 := atoms_spec (ws := _) B.pre
  have hts : ∀ w ∈ TB, w.before ([.ref (ext j)] : List Value).toArray s = true := fun w hw => hts0 w (List.mem_cons_of_mem _ hw)
  have hown : s.vm.findClass RJ0 = some m.cls := findClass_of_methodNamed B.named
  have hlocks := B.notSynchronized
  have hS : va_S (fun q => base ≤ q) s.heap s.heap [] := va_S.rf
  have hl := lv_entry ([.ref (ext j)]) (n := 1) (Nat.le_of_ble_eq_true rfl)
  rw [lg_entry_eq]
  generalize (lg_sl ([.ref (ext j)]) ++ List.replicate (1 - (lg_sl ([.ref (ext j)])).length) Slot.unset).toArray = ls at hl ⊢
  obtain ⟨hO, hco, hva, hTv⟩ := hE.2.2.1.1 j hj
  refine va_gets hx hb hE.2.2.2.2.2.2.2.1 hS hown (hts _ (TB_at 621 (by decide +kernel) (by decide +kernel))) (fun x hx => hx) dJ0_coder_7d493_0 ?_
  refine lv_if_eq (tgt := 13) hx hb dJ0_coder_7d493_3 (by decide) (fun q => absurd q (by decide)) (fun _ => ?_)
  refine lv_aload_n hx hb dJ0_coder_7d493_6 rfl (lv_at hl 0 rfl) ?_
  refine vk_getf hx hb hco hS hown (hts _ (TB_at 1888 (by decide +kernel) (by decide +kernel))) (fun x hx => hx) dJ0_coder_7d493_7 ?_
  refine lv_goto (tgt := 14) hx hb dJ0_coder_7d493_10 (by decide) ?_
  exact W.zret hx hb hr rfl (fun t ht hW => ⟨⟨rfl, by rw [ht]; exact hP, by rw [ht]; exact hsz, rfl⟩, hS.F ht⟩) (fun q hq => hS.2.2 q hq) dJ0_coder_7d493_14
theorem j_latin {j : Nat} (hj : j < 11) : MJ base ext adV cid D X l yJ0_isLatin1_aae02 cJ0_isLatin1_aae02 1 (some .boolean) { frames := 0, cells := 0, slots := 0, locals := 0 } [.ref (ext j)] (some (.int 1)) h := by
  refine Met.ofW (cc := cJ0_isLatin1_aae02) (maxL := 1) (ret := (some .boolean)) (by decide) rfl ?_
  intro p e s m args below meth c s₁ B hml hv
  obtain ⟨rfl, hP, hsz, hK, hE⟩ := hv
  have hx := B.exec
  have hb := B.bytes
  have hr := B.returns
  have hts0 := atoms_spec (ws := _) B.pre
  have hts : ∀ w ∈ TB, w.before ([.ref (ext j)] : List Value).toArray s = true := fun w hw => hts0 w (List.mem_cons_of_mem _ hw)
  have hown : s.vm.findClass RJ0 = some m.cls := findClass_of_methodNamed B.named
  have hlocks := B.notSynchronized
  have hS : va_S (fun q => base ≤ q) s.heap s.heap [] := va_S.rf
  have hl := lv_entry ([.ref (ext j)]) (n := 1) (Nat.le_of_ble_eq_true rfl)
  rw [lg_entry_eq]
  generalize (lg_sl ([.ref (ext j)]) ++ List.replicate (1 - (lg_sl ([.ref (ext j)])).length) Slot.unset).toArray = ls at hl ⊢
  obtain ⟨hO, hco, hva, hTv⟩ := hE.2.2.1.1 j hj
  refine va_gets hx hb hE.2.2.2.2.2.2.2.1 hS hown (hts _ (TB_at 621 (by decide +kernel) (by decide +kernel))) (fun x hx => hx) dJ0_isLatin1_aae02_0 ?_
  refine lv_if_eq (tgt := 17) hx hb dJ0_isLatin1_aae02_3 (by decide) (fun q => absurd q (by decide)) (fun _ => ?_)
  refine lv_aload_n hx hb dJ0_isLatin1_aae02_6 rfl (lv_at hl 0 rfl) ?_
  refine vk_getf hx hb hco hS hown (hts _ (TB_at 1888 (by decide +kernel) (by decide +kernel))) (fun x hx => hx) dJ0_isLatin1_aae02_7 ?_
  refine lv_if_ne (tgt := 17) hx hb dJ0_isLatin1_aae02_10 (by decide) (fun q => absurd rfl q) (fun _ => ?_)
  refine lv_iconst (v := 1) hx hb dJ0_isLatin1_aae02_13 (by decide) ?_
  refine lv_goto (tgt := 18) hx hb dJ0_isLatin1_aae02_14 (by decide) ?_
  exact W.zret hx hb hr rfl (fun t ht hW => ⟨⟨rfl, by rw [ht]; exact hP, by rw [ht]; exact hsz, rfl⟩, hS.F ht⟩) (fun q hq => hS.2.2 q hq) dJ0_isLatin1_aae02_18
theorem sh_len : ∀ j : Nat, j < 11 → Int32.ofNat (sLen.getD j 0) >>> ((0 : Int32) &&& 31) = Int32.ofInt (sLen.getD j 0) := by decide +kernel
theorem j_len {j : Nat} (hj : j < 11) : MJ base ext adV cid D X l yJ0_length_8abf5 cJ0_length_8abf5 1 (some .int) rmS [.ref (ext j)] (some (.int (Int32.ofInt (X j).1))) h := by
  refine Met.ofW (cc := cJ0_length_8abf5) (maxL := 1) (ret := (some .int)) (by decide) rfl ?_
  intro p e s m args below meth c s₁ B hml hv
  obtain ⟨rfl, hP, hsz, hK, hE⟩ := hv
  have hx := B.exec
  have hb := B.bytes
  have hr := B.returns
  have hts0 := atoms_spec (ws := _) B.pre
  have hts : ∀ w ∈ TB, w.before ([.ref (ext j)] : List Value).toArray s = true := fun w hw => hts0 w (List.mem_cons_of_mem _ hw)
  have hown : s.vm.findClass RJ0 = some m.cls := findClass_of_methodNamed B.named
  have hlocks := B.notSynchronized
  have hS : va_S (fun q => base ≤ q) s.heap s.heap [] := va_S.rf
  have hl := lv_entry ([.ref (ext j)]) (n := 1) (Nat.le_of_ble_eq_true rfl)
  rw [lg_entry_eq]
  generalize (lg_sl ([.ref (ext j)]) ++ List.replicate (1 - (lg_sl ([.ref (ext j)])).length) Slot.unset).toArray = ls at hl ⊢
  obtain ⟨hO, hco, hva, hTv⟩ := hE.2.2.1.1 j hj
  refine lv_aload_n hx hb dJ0_length_8abf5_0 rfl (lv_at hl 0 rfl) ?_
  refine vk_getf hx hb hva hS hown (hts _ (TB_at 1887 (by decide +kernel) (by decide +kernel))) (fun x hx => hx) dJ0_length_8abf5_1 ?_
  refine va_tlen hx hb hTv hS rfl dJ0_length_8abf5_4 ?_
  refine lv_aload_n hx hb dJ0_length_8abf5_5 rfl (lv_at hl 0 rfl) ?_
  refine va_callg (va_runV (As := []) (C := "java/lang/String") ⟨hx, hb, hml, hown, hts⟩ (j_coder (cid := cid) (D := D) (X := X) (adV := adV) (base := base) (l := l) (h := h) hj) (cwV 0 hts (goodJ (pre := [.methodLink _ 335 yJ0_coder_7d493, .instanceMethod yJ0_coder_7d493, .selects "java/lang/String" yJ0_coder_7d493 yJ0_coder_7d493, .initialized "java/lang/String"]) (fun w hw => by
    simp only [List.mem_cons, List.not_mem_nil, or_false] at hw
    rcases hw with rfl | rfl | rfl | rfl
    · exact TB_at 617 (by decide +kernel) (by decide +kernel)
    · exact TB_at 618 (by decide +kernel) (by decide +kernel)
    · exact TB_at 619 (by decide +kernel) (by decide +kernel)
    · exact TB_at 119 (by decide +kernel) (by decide +kernel)) jc_J0_coder) rfl rfl rfl (by decide +kernel) ⟨Nat.le_of_ble_eq_true rfl, Nat.le_of_ble_eq_true rfl⟩) ⟨blindV, vk_recv hE.2.2.1 hj hS, fun U hU hW => ⟨rfl, pre_of hK hE hP hsz hS hU hW⟩⟩ rfl rfl hl.1 rfl (lv_room (Nat.le_of_ble_eq_true rfl)) dJ0_length_8abf5_6 ⟨Nat.le_refl _, Nat.le_refl _⟩) hS (fun H1 locs1 hpos hS1 => ?_)
  obtain ⟨t, rfl, hP1, hsz1, -⟩ := hpos
  refine lv_ishr hx hb dJ0_length_8abf5_9 ?_
  rw [sh_len j hj, ← (hE.2.2.2.2.2.2.1 j hj).1]
  exact W.iret hx hb hr (fun t2 ht hW => ⟨⟨rfl, by rw [ht]; exact hP1, by rw [ht]; exact hsz1, rfl⟩, hS1.F ht⟩) (fun q hq => hS1.2.2 q hq) dJ0_length_8abf5_10
theorem j_pre {i n : Int32} {q : Value} (hq : q = .null ∨ ∃ t, q = .ref t) (h0 : ¬ i < 0) (h1 : i < n) : MJ base ext adV cid D X l yJ3_checkIndex_8e157 cJ3_checkIndex_8e157 3 (some .int) { frames := 0, cells := 0, slots := 0, locals := 0 } [.int i, .int n, q] (some (.int i)) h := by
  refine Met.ofW (cc := cJ3_checkIndex_8e157) (maxL := 3) (ret := (some .int)) (by decide) rfl ?_
  intro p e s m args below meth c s₁ B hml hv
  obtain ⟨rfl, hP, hsz, hK, hE⟩ := hv
  have hx := B.exec
  have hb := B.bytes
  have hr := B.returns
  have hts0 := atoms_spec (ws := _) B.pre
  have hts : ∀ w ∈ TB, w.before ([.int i, .int n, q] : List Value).toArray s = true := fun w hw => hts0 w (List.mem_cons_of_mem _ hw)
  have hown : s.vm.findClass RJ3 = some m.cls := findClass_of_methodNamed B.named
  have hlocks := B.notSynchronized
  have hS : va_S (fun q => base ≤ q) s.heap s.heap [] := va_S.rf
  have hl := lv_entry ([.int i, .int n, q]) (n := 3) (by rcases hq with rfl | ⟨t, rfl⟩ <;> exact Nat.le_of_ble_eq_true rfl)
  rw [lg_entry_eq]
  generalize (lg_sl ([.int i, .int n, q]) ++ List.replicate (3 - (lg_sl ([.int i, .int n, q])).length) Slot.unset).toArray = ls at hl ⊢
  refine lv_iload_n hx hb dJ3_checkIndex_8e157_0 rfl (lv_at hl 0 rfl) ?_
  refine lv_if_lt (tgt := 9) hx hb dJ3_checkIndex_8e157_1 (by decide) (fun q => absurd q h0) (fun _ => ?_)
  refine lv_iload_n hx hb dJ3_checkIndex_8e157_4 rfl (lv_at hl 0 rfl) ?_
  refine lv_iload_n hx hb dJ3_checkIndex_8e157_5 rfl (lv_at hl 1 rfl) ?_
  refine lv_icmp_lt (tgt := 16) hx hb dJ3_checkIndex_8e157_6 (by decide) (fun _ => ?_) (fun q => absurd h1 q)
  refine lv_iload_n hx hb dJ3_checkIndex_8e157_16 rfl (lv_at hl 0 rfl) ?_
  exact W.iret hx hb hr (fun t ht hW => ⟨⟨rfl, by rw [ht]; exact hP, by rw [ht]; exact hsz, rfl⟩, hS.F ht⟩) (fun q hq => hS.2.2 q hq) dJ3_checkIndex_8e157_17
theorem j_chk {i n : Int32} (h0 : ¬ i < 0) (h1 : i < n) : MJ base ext adV cid D X l yJ0_checkIndex_df160 cJ0_checkIndex_df160 2 none { frames := 1, cells := 0, slots := 0, locals := 22 } [.int i, .int n] none h := by
  refine Met.ofW (cc := cJ0_checkIndex_df160) (maxL := 2) (ret := none) (by decide) rfl ?_
  intro p e s m args below meth c s₁ B hml hv
  obtain ⟨rfl, hP, hsz, hK, hE⟩ := hv
  have hx := B.exec
  have hb := B.bytes
  have hr := B.returns
  have hts0 := atoms_spec (ws := _) B.pre
  have hts : ∀ w ∈ TB, w.before ([.int i, .int n] : List Value).toArray s = true := fun w hw => hts0 w (List.mem_cons_of_mem _ hw)
  have hown : s.vm.findClass RJ0 = some m.cls := findClass_of_methodNamed B.named
  have hlocks := B.notSynchronized
  have hS : va_S (fun q => base ≤ q) s.heap s.heap [] := va_S.rf
  have hl := lv_entry ([.int i, .int n]) (n := 2) (Nat.le_of_ble_eq_true rfl)
  rw [lg_entry_eq]
  generalize (lg_sl ([.int i, .int n]) ++ List.replicate (2 - (lg_sl ([.int i, .int n])).length) Slot.unset).toArray = ls at hl ⊢
  refine lv_iload_n hx hb dJ0_checkIndex_df160_0 rfl (lv_at hl 0 rfl) ?_
  refine lv_iload_n hx hb dJ0_checkIndex_df160_1 rfl (lv_at hl 1 rfl) ?_
  rcases hE.2.2.2.2.2.2.2.2 with hz | ⟨t0, hz⟩
  · skip
    refine va_gets hx hb hz hS hown (hts _ (TB_at 637 (by decide +kernel) (by decide +kernel))) (fun x hx => hx) dJ0_checkIndex_df160_2 ?_
    refine va_callg (va_runS (As := [.int i, .int n, .null]) ⟨hx, hb, hml, hown, hts⟩ (j_pre (cid := cid) (D := D) (X := X) (adV := adV) (ext := ext) (base := base) (l := l) (h := h) (q := .null) (Or.inl rfl) h0 h1) (va_cwS 3 hts (goodJ (pre := [.methodLink _ 1059 yJ3_checkIndex_8e157, .static yJ3_checkIndex_8e157, .initialized yJ3_checkIndex_8e157.cls]) (fun w hw => by
      simp only [List.mem_cons, List.not_mem_nil, or_false] at hw
      rcases hw with rfl | rfl | rfl
      · exact TB_at 639 (by decide +kernel) (by decide +kernel)
      · exact TB_at 640 (by decide +kernel) (by decide +kernel)
      · exact TB_at 121 (by decide +kernel) (by decide +kernel)) jc_J3_checkIndex) rfl rfl rfl (by decide +kernel) ⟨Nat.le_of_ble_eq_true rfl, Nat.le_of_ble_eq_true rfl⟩) ⟨blindV, fun U hU hW => ⟨rfl, pre_of hK hE hP hsz hS hU hW⟩⟩ rfl rfl hl.1 rfl (lv_room (Nat.le_of_ble_eq_true rfl)) dJ0_checkIndex_df160_5 ⟨Nat.le_refl _, Nat.le_refl _⟩) hS (fun H1 locs1 hpos hS1 => ?_)
    obtain ⟨t, rfl, hP1, hsz1, -⟩ := hpos
    refine lv_pop hx hb dJ0_checkIndex_df160_8 rfl ?_
    exact W.vret hx hb hr (fun t2 ht hW => ⟨⟨rfl, by rw [ht]; exact hP1, by rw [ht]; exact hsz1, rfl⟩, hS1.F ht⟩) (fun q hq => hS1.2.2 q hq) dJ0_checkIndex_df160_9
  · skip
    refine va_gets hx hb hz hS hown (hts _ (TB_at 637 (by decide +kernel) (by decide +kernel))) (fun x hx => hx) dJ0_checkIndex_df160_2 ?_
    refine va_callg (va_runS (As := [.int i, .int n, .ref t0]) ⟨hx, hb, hml, hown, hts⟩ (j_pre (cid := cid) (D := D) (X := X) (adV := adV) (ext := ext) (base := base) (l := l) (h := h) (q := .ref t0) (Or.inr ⟨t0, rfl⟩) h0 h1) (va_cwS 3 hts (goodJ (pre := [.methodLink _ 1059 yJ3_checkIndex_8e157, .static yJ3_checkIndex_8e157, .initialized yJ3_checkIndex_8e157.cls]) (fun w hw => by
      simp only [List.mem_cons, List.not_mem_nil, or_false] at hw
      rcases hw with rfl | rfl | rfl
      · exact TB_at 639 (by decide +kernel) (by decide +kernel)
      · exact TB_at 640 (by decide +kernel) (by decide +kernel)
      · exact TB_at 121 (by decide +kernel) (by decide +kernel)) jc_J3_checkIndex) rfl rfl rfl (by decide +kernel) ⟨Nat.le_of_ble_eq_true rfl, Nat.le_of_ble_eq_true rfl⟩) ⟨blindV, fun U hU hW => ⟨rfl, pre_of hK hE hP hsz hS hU hW⟩⟩ rfl rfl hl.1 rfl (lv_room (Nat.le_of_ble_eq_true rfl)) dJ0_checkIndex_df160_5 ⟨Nat.le_refl _, Nat.le_refl _⟩) hS (fun H1 locs1 hpos hS1 => ?_)
    obtain ⟨t, rfl, hP1, hsz1, -⟩ := hpos
    refine lv_pop hx hb dJ0_checkIndex_df160_8 rfl ?_
    exact W.vret hx hb hr (fun t2 ht hW => ⟨⟨rfl, by rw [ht]; exact hP1, by rw [ht]; exact hsz1, rfl⟩, hS1.F ht⟩) (fun q hq => hS1.2.2 q hq) dJ0_checkIndex_df160_9
theorem ch_ok : ∀ j : Nat, j < 11 → ∀ i : Nat, i < sLen.getD j 0 → ((((sByt.getD j []).getD i 0) &&& 255).toUInt32 % 65536).toInt32 = (sByt.getD j []).getD i 0 ∧ narrow .char (.int ((sByt.getD j []).getD i 0)) = .int ((sByt.getD j []).getD i 0) := by decide +kernel
theorem j_chl {j : Nat} {i : Int} (hj : j < 11) (h0 : 0 ≤ i) (h1 : i < (X j).1) : MJ base ext adV cid D X l yJ1_charAt_3b067 cJ1_charAt_3b067 2 (some .char) { frames := 2, cells := 0, slots := 0, locals := 43 } [.ref (adV j), .int (Int32.ofInt i)] (some (.int (Int32.ofInt ((X j).2 i.toNat)))) h := by
  refine Met.ofW (cc := cJ1_charAt_3b067) (maxL := 2) (ret := (some .char)) (by decide) rfl ?_
  intro p e s m args below meth c s₁ B hml hv
  obtain ⟨rfl, hP, hsz, hK, hE⟩ := hv
  have hx := B.exec
  have hb := B.bytes
  have hr := B.returns
  have hts0 := atoms_spec (ws := _) B.pre
  have hts : ∀ w ∈ TB, w.before ([.ref (adV j), .int (Int32.ofInt i)] : List Value).toArray s = true := fun w hw => hts0 w (List.mem_cons_of_mem _ hw)
  have hown : s.vm.findClass RJ1 = some m.cls := findClass_of_methodNamed B.named
  have hlocks := B.notSynchronized
  have hS : va_S (fun q => base ≤ q) s.heap s.heap [] := va_S.rf
  have hl := lv_entry ([.ref (adV j), .int (Int32.ofInt i)]) (n := 2) (Nat.le_of_ble_eq_true rfl)
  rw [lg_entry_eq]
  generalize (lg_sl ([.ref (adV j), .int (Int32.ofInt i)]) ++ List.replicate (2 - (lg_sl ([.ref (adV j), .int (Int32.ofInt i)])).length) Slot.unset).toArray = ls at hl ⊢
  obtain ⟨hO, hco, hva, hTv⟩ := hE.2.2.1.1 j hj
  obtain ⟨hX1, hX2⟩ := hE.2.2.2.2.2.2.1 j hj
  rw [hX1] at h1
  have hle : sLen.getD j 0 ≤ 6 := (show ∀ j : Nat, j < 11 → sLen.getD j 0 ≤ 6 by decide) j hj
  have hin := ix_in h0 h1 (by omega)
  have en : (Int32.ofInt i).toInt = i := Int32.toInt_ofInt_of_le (by omega) (by omega)
  have e2 : (Int32.ofNat (sLen.getD j 0)).toInt = (sLen.getD j 0 : Nat) := Int32.toInt_ofNat_of_lt (by omega)
  have q0 : ¬ Int32.ofInt i < 0 := by rw [Int32.lt_iff_toInt_lt, en, Int32.toInt_zero]; omega
  have q1 : Int32.ofInt i < Int32.ofNat (sLen.getD j 0) := by rw [Int32.lt_iff_toInt_lt, en, e2]; omega
  have hc := ch_ok j hj i.toNat (by omega)
  rw [hX2 i.toNat]
  refine lv_iload_n hx hb dJ1_charAt_3b067_0 rfl (lv_at hl 1 rfl) ?_
  refine lv_aload_n hx hb dJ1_charAt_3b067_1 rfl (lv_at hl 0 rfl) ?_
  refine va_tlen hx hb hTv hS rfl dJ1_charAt_3b067_2 ?_
  refine va_callg (va_runS (As := [.int (Int32.ofInt i), .int (Int32.ofNat (sLen.getD j 0))]) ⟨hx, hb, hml, hown, hts⟩ (j_chk (cid := cid) (D := D) (X := X) (adV := adV) (ext := ext) (base := base) (l := l) (h := h) q0 q1) (va_cwS 2 hts (goodJ (pre := [.methodLink _ 9 yJ0_checkIndex_df160, .static yJ0_checkIndex_df160, .initialized yJ0_checkIndex_df160.cls]) (fun w hw => by
    simp only [List.mem_cons, List.not_mem_nil, or_false] at hw
    rcases hw with rfl | rfl | rfl
    · exact TB_at 634 (by decide +kernel) (by decide +kernel)
    · exact TB_at 635 (by decide +kernel) (by decide +kernel)
    · exact TB_at 119 (by decide +kernel) (by decide +kernel)) jc_J0_checkIndex) rfl rfl rfl (by decide +kernel) ⟨Nat.le_of_ble_eq_true rfl, Nat.le_of_ble_eq_true rfl⟩) ⟨blindV, fun U hU hW => ⟨rfl, pre_of hK hE hP hsz hS hU hW⟩⟩ rfl rfl hl.1 rfl (lv_room (Nat.le_of_ble_eq_true rfl)) dJ1_charAt_3b067_3 ⟨Nat.le_refl _, Nat.le_refl _⟩) hS (fun H1 locs1 hpos hS1 => ?_)
  obtain ⟨t, rfl, hP1, hsz1, -⟩ := hpos
  refine lv_aload_n hx hb dJ1_charAt_3b067_6 rfl (lv_at hl 0 rfl) ?_
  refine lv_iload_n hx hb dJ1_charAt_3b067_7 rfl (lv_at hl 1 rfl) ?_
  refine va_tb hx hb hTv hS1 hin.1 (v := .int ((sByt.getD j []).getD i.toNat 0)) (by rw [hin.2]) dJ1_charAt_3b067_8 ?_
  refine lv_sipush (v := 255) hx hb dJ1_charAt_3b067_9 (by decide) ?_
  refine lv_iand hx hb dJ1_charAt_3b067_12 ?_
  refine lv_i2c (v := (sByt.getD j []).getD i.toNat 0) hx hb dJ1_charAt_3b067_13 hc.1 ?_
  exact W.zret hx hb hr hc.2 (fun t2 ht hW => ⟨⟨rfl, by rw [ht]; exact hP1, by rw [ht]; exact hsz1, rfl⟩, hS1.F ht⟩) (fun q hq => hS1.2.2 q hq) dJ1_charAt_3b067_14
theorem j_char {j : Nat} {i : Int} (hj : j < 11) (h0 : 0 ≤ i) (h1 : i < (X j).1) : MJ base ext adV cid D X l yJ0_charAt_5068e cJ0_charAt_5068e 2 (some .char) rmS [.ref (ext j), .int (Int32.ofInt i)] (some (.int (Int32.ofInt ((X j).2 i.toNat)))) h := by
  refine Met.ofW (cc := cJ0_charAt_5068e) (maxL := 2) (ret := (some .char)) (by decide) rfl ?_
  intro p e s m args below meth c s₁ B hml hv
  obtain ⟨rfl, hP, hsz, hK, hE⟩ := hv
  have hx := B.exec
  have hb := B.bytes
  have hr := B.returns
  have hts0 := atoms_spec (ws := _) B.pre
  have hts : ∀ w ∈ TB, w.before ([.ref (ext j), .int (Int32.ofInt i)] : List Value).toArray s = true := fun w hw => hts0 w (List.mem_cons_of_mem _ hw)
  have hown : s.vm.findClass RJ0 = some m.cls := findClass_of_methodNamed B.named
  have hlocks := B.notSynchronized
  have hS : va_S (fun q => base ≤ q) s.heap s.heap [] := va_S.rf
  have hl := lv_entry ([.ref (ext j), .int (Int32.ofInt i)]) (n := 2) (Nat.le_of_ble_eq_true rfl)
  rw [lg_entry_eq]
  generalize (lg_sl ([.ref (ext j), .int (Int32.ofInt i)]) ++ List.replicate (2 - (lg_sl ([.ref (ext j), .int (Int32.ofInt i)])).length) Slot.unset).toArray = ls at hl ⊢
  obtain ⟨hO, hco, hva, hTv⟩ := hE.2.2.1.1 j hj
  obtain ⟨hX1, hX2⟩ := hE.2.2.2.2.2.2.1 j hj
  have hc := ch_ok j hj i.toNat (by rw [hX1] at h1; omega)
  rw [← hX2 i.toNat] at hc
  refine lv_aload_n hx hb dJ0_charAt_5068e_0 rfl (lv_at hl 0 rfl) ?_
  refine va_callg (va_runV (As := []) (C := "java/lang/String") ⟨hx, hb, hml, hown, hts⟩ (j_latin (cid := cid) (D := D) (X := X) (adV := adV) (base := base) (l := l) (h := h) hj) (cwV 0 hts (goodJ (pre := [.methodLink _ 492 yJ0_isLatin1_aae02, .instanceMethod yJ0_isLatin1_aae02, .selects "java/lang/String" yJ0_isLatin1_aae02 yJ0_isLatin1_aae02, .initialized "java/lang/String"]) (fun w hw => by
    simp only [List.mem_cons, List.not_mem_nil, or_false] at hw
    rcases hw with rfl | rfl | rfl | rfl
    · exact TB_at 627 (by decide +kernel) (by decide +kernel)
    · exact TB_at 628 (by decide +kernel) (by decide +kernel)
    · exact TB_at 629 (by decide +kernel) (by decide +kernel)
    · exact TB_at 119 (by decide +kernel) (by decide +kernel)) jc_J0_isLatin1) rfl rfl rfl (by decide +kernel) ⟨Nat.le_of_ble_eq_true rfl, Nat.le_of_ble_eq_true rfl⟩) ⟨blindV, vk_recv hE.2.2.1 hj hS, fun U hU hW => ⟨rfl, pre_of hK hE hP hsz hS hU hW⟩⟩ rfl rfl hl.1 rfl (lv_room (Nat.le_of_ble_eq_true rfl)) dJ0_charAt_5068e_1 ⟨Nat.le_refl _, Nat.le_refl _⟩) hS (fun H1 locs1 hpos hS1 => ?_)
  obtain ⟨t, rfl, hP1, hsz1, -⟩ := hpos
  refine lv_if_eq (tgt := 16) hx hb dJ0_charAt_5068e_4 (by decide) (fun q => absurd q (by decide)) (fun _ => ?_)
  refine lv_aload_n hx hb dJ0_charAt_5068e_7 rfl (lv_at hl 0 rfl) ?_
  refine vk_getf hx hb hva hS1 hown (hts _ (TB_at 1887 (by decide +kernel) (by decide +kernel))) (fun x hx => hx) dJ0_charAt_5068e_8 ?_
  refine lv_iload_n hx hb dJ0_charAt_5068e_11 rfl (lv_at hl 1 rfl) ?_
  refine va_callg (va_runS (As := [.ref (adV j), .int (Int32.ofInt i)]) ⟨hx, hb, hml, hown, hts⟩ (j_chl (cid := cid) (D := D) (X := X) (adV := adV) (ext := ext) (base := base) (l := l) (h := h) hj h0 h1) (va_cwS 2 hts (goodJ (pre := [.methodLink _ 495 yJ1_charAt_3b067, .static yJ1_charAt_3b067, .initialized yJ1_charAt_3b067.cls]) (fun w hw => by
    simp only [List.mem_cons, List.not_mem_nil, or_false] at hw
    rcases hw with rfl | rfl | rfl
    · exact TB_at 631 (by decide +kernel) (by decide +kernel)
    · exact TB_at 632 (by decide +kernel) (by decide +kernel)
    · exact TB_at 120 (by decide +kernel) (by decide +kernel)) jc_J1_charAt) rfl rfl rfl (by decide +kernel) ⟨Nat.le_of_ble_eq_true rfl, Nat.le_of_ble_eq_true rfl⟩) ⟨blindV, fun U hU hW => ⟨rfl, pre_of hK hE hP1 hsz1 hS1 hU hW⟩⟩ rfl rfl hl.1 rfl (lv_room (Nat.le_of_ble_eq_true rfl)) dJ0_charAt_5068e_12 ⟨Nat.le_refl _, Nat.le_refl _⟩) hS1 (fun H2 locs2 hpos hS2 => ?_)
  obtain ⟨t2, rfl, hP2, hsz2, -⟩ := hpos
  exact W.zret hx hb hr hc.2 (fun t3 ht hW => ⟨⟨rfl, by rw [ht]; exact hP2, by rw [ht]; exact hsz2, rfl⟩, hS2.F ht⟩) (fun q hq => hS2.2.2 q hq) dJ0_charAt_5068e_15
theorem str_ok : StrOk base ext adV cid D X l := ⟨fun h j hj => by
    have := j_len (ext := ext) (adV := adV) (cid := cid) (D := D) (X := X) (base := base) (l := l) (h := h) hj
    show Met _ _ _ _ (va_Pc [cV base ext (vR (some (PK + j)))] _) _ _ _ _
    rw [show cV base ext (vR (some (PK + j))) = .ref (ext j) from by show Value.ref (if PK + j < PK then _ else _) = _; rw [if_neg (by omega), Nat.add_sub_cancel_left]]
    exact this, fun h j i hj h0 h1 => by
    have := j_char (ext := ext) (adV := adV) (cid := cid) (D := D) (X := X) (base := base) (l := l) (h := h) hj h0 h1
    show Met _ _ _ _ (va_Pc [cV base ext (vR (some (PK + j))), cV base ext (vI i)] _) _ _ _ _
    rw [show cV base ext (vR (some (PK + j))) = .ref (ext j) from by show Value.ref (if PK + j < PK then _ else _) = _; rw [if_neg (by omega), Nat.add_sub_cancel_left]]
    exact this⟩
end STR
end
section
/-! THE CLAIM OUT OF ONE WALK OF THE LAW'S BODY. Your part is whole_start (and what it stands on); all else here is the same for every law, but numbers. -/
def R_law : String := "QuotaParishLaw"
def lw_P (b : Addr) (xs : List Int32) (args : Array Value) (s : State) : Prop := args = #[.ref b] ∧ s.IntsAt b xs ∧ xs.length ≤ 3072 ∧ (Jvm.Cond.and given_1 narrow_1).before args s = true
def lw_Q (_ : Array Value) (s : State) (o : Outcome) (t : State) : Prop := o = .returned (some (.int 1)) ∧ Framed s o t [] 600000 7302250
def lw_Z (below : List Frame) (a : Array Value) (s : State) : State → Prop := fun t => ∃ o, t.status = .running ∧ Ended t below o ∧ lw_Q a s o t
/-- the law's own end, with 1 on the stack, nothing written that was there before, its room as the claim has it -/
theorem lw_ret {p : Program} {l : Launch} {e : Env} {s : State} {m : MethodId} {below : List Frame} {meth : Method} {c : Code} {b : Nat} (hx : p.tables.exec = Jvm.exec) (hb : c.code = code) (hr : meth.sig.returnType = ret) (hlocks : meth.locks = false) {pc : Nat} {H : Heap} {ls : Array Slot} (hdg : decode code pc = .ok (.ireturn, 1)) : W p l e room_1 s m #[Value.ref b] below meth c H [] 600000 7302250 (lw_Z below #[Value.ref b] s) (F0 m pc ls [.int 1]) := by
  intro T hT X
  obtain ⟨fs, hret, hrun, hended, hW, hframe⟩ := X.leave (v := some (.int 1)) (hlocks := hlocks) (fun h => by rw [hr] at h; cases h)
  have hmeth' : T.vm.method? m = some meth := X.method'
  refine ⟨T.setFrames fs, ?_, .returned (some (.int 1)), hrun, hended, rfl, ⟨_, rfl⟩, hW, hframe⟩
  jvm_step X.here [X.here.top, hx, hb, hdg, hmeth', hr, ret, narrow_b1]
  (try refine ⟨rfl, ?_⟩); (try refine ⟨rfl, ?_⟩)
  first | (intro acts; rw [hret _ acts rfl rfl rfl]) | rw [hret _ _ rfl rfl rfl]
  exact Steps.refl _
/-- what holds at the law's entry: the machine, the code, the tables' words (any of lw_tbl by 'hts w (by decide +kernel)'), the script of L ints xs at the cell b, what the Statement gives of the start (any of its parts by flat_of_before) -/
def lw_At (p : Program) (s : State) (m : MethodId) (meth : Method) (c : Code) (b L : Nat) (xs : Nat → Int32) : Prop :=
  p.tables.exec = Jvm.exec ∧ c.code = code ∧ meth.sig.returnType = ret ∧ c.maxLocals = 4 ∧ s.vm.findClass R_law = some m.cls ∧ (∀ w ∈ lw_tbl, w.before #[Value.ref b] s = true) ∧ va_X b L xs s s.heap ∧ b < s.heap.size ∧ meth.locks = false ∧ (Jvm.Cond.and given_1 narrow_1).before #[Value.ref b] s = true

/-! THE LAW'S ENTRY: what the Statement gives -/
def lmP : List Int := [99, -1, -1, 99, -1, -1, 6, -1, -1, 99, 9, -1, 6, 6, -1, 6, 6, 6]
def lmY : List Int := [-1, -1, -1, 6, -1, -1, 6, -1, -1, 99, -1, -1, 99, -1, -1, 9, -1, -1]
def lmL : List Int := [6, 99, -1]
def XX (L : Nat) (xs : Nat → Int32) : PX := fun j => if j < 11 then (sLen.getD j 0, fun i => ((sByt.getD j []).getD i 0).toInt) else if j = 11 then (18, fun i => lmP.getD i 0) else if j = 12 then (18, fun i => lmY.getD i 0) else if j = 13 then (3, fun i => lmL.getD i 0) else (L, fun i => (xs i).toInt)
abbrev flL : List Cond := flatC (Jvm.Cond.and given_1 narrow_1)
def sIx : List Nat := [155, 156, 157, 159, 161, 163, 165, 167, 169, 171, 149]
def tmS (j : Nat) : Term := .string "QuotaParish$Reader" (sIx.getD j 0)
abbrev tmV (j : Nat) : Term := .field (tmS j) "java/lang/String" "value" "[B"
theorem e_hex : ∀ i : Nat, i < 11 → Cond.exactly (tmS i) "java/lang/String" ∈ flL := by decide +kernel
theorem e_hco : ∀ i : Nat, i < 11 → Cond.eq (.field (tmS i) "java/lang/String" "coder" "B") (.int 0) ∈ flL := by decide +kernel
theorem e_har : ∀ i : Nat, i < 11 → Cond.arrayOf (tmV i) .byte ∈ flL := by decide +kernel
theorem e_hle : ∀ i : Nat, i < 11 → Cond.eq (.length (tmV i)) (.int (Int32.ofNat (sLen.getD i 0))) ∈ flL := by decide +kernel
theorem e_hel : ∀ i : Nat, i < 11 → ∀ j : Nat, j < sLen.getD i 0 → Cond.eq (.elem (tmV i) (.int (Int32.ofNat j))) (.int ((sByt.getD i []).getD j 0)) ∈ flL := by decide +kernel
theorem e_hne : ∀ i : Nat, i < 11 → ∀ j : Nat, j < 11 → i ≠ j → Cond.not (Cond.eq (tmS i) (tmS j)) ∈ flL ∨ Cond.not (Cond.eq (tmS j) (tmS i)) ∈ flL := by decide +kernel
abbrev tmR (j : Nat) : Term := .static "QuotaParish$Reader" (srN.getD j "") "[I"
def lmA (j : Nat) : Nat → Int := fun i => ([lmP, lmY, lmL].getD j []).getD i 0
def lmN : List Nat := [18, 18, 3]
theorem e_lar : ∀ j : Nat, j < 3 → Cond.arrayOf (tmR j) .int ∈ flL := by decide +kernel
theorem e_lle : ∀ j : Nat, j < 3 → Cond.eq (.length (tmR j)) (.int (Int32.ofNat (lmN.getD j 0))) ∈ flL := by decide +kernel
theorem e_lel : ∀ j : Nat, j < 3 → ∀ i : Nat, i < lmN.getD j 0 → Cond.eq (.elem (tmR j) (.int (Int32.ofNat i))) (.int (Int32.ofInt (lmA j i))) ∈ flL := by decide +kernel
theorem e_com : Cond.eq (.static "java/lang/String" "COMPACT_STRINGS" "Z") (.int 1) ∈ flL := by decide +kernel
theorem e_sio : Cond.isRef (.static "jdk/internal/util/Preconditions" "SIOOBE_FORMATTER" "Ljava/util/function/BiFunction;") ∈ flL := by decide +kernel
theorem e_lst : ([696, 698, 700] : List Nat).map (fun i => lw_tbl[i]?) = (List.range 3).map (fun j => some (Cond.laysStatic "QuotaParish$Reader" (srN.getD j "") "[I")) := by decide +kernel
theorem e_six : (lks 9).all (fun t => if t.1 = 6 then decide (sIx.getD t.2.2.1 0 = t.2.1) && decide (t.2.2.1 < 11) else true) = true := by decide +kernel
theorem e_no6 : (List.range 15).all (fun o => if o = 9 then true else (lks o).all (fun t => decide (t.1 ≠ 6))) = true := by decide +kernel
theorem e_ao : ([142, 144, 277] : List Nat).map (fun i => lw_tbl[i]?) = [some (Cond.arrayOver (.object (vC 7).1)), some (Cond.arrayOver (.object (vC 6).1)), some (Cond.arrayOver (.object (vC 9).1))] := by decide +kernel
theorem lks_out {o : Nat} (h : 15 ≤ o) : lks o = [] := by
  unfold lks
  rw [List.getD_eq_getElem?_getD, List.getElem?_eq_none (by simpa using h)]
  rfl
theorem entry_EX {s : State} {b L : Nat} {xs : Nat → Int32} (hL : L ≤ 3072) (hgv : (Jvm.Cond.and given_1 narrow_1).before #[Value.ref b] s = true) (hts : ∀ w ∈ lw_tbl, w.before #[Value.ref b] s = true) (hX : va_X b L xs s s.heap) (hbl : b < s.heap.size) : ∃ ext adV : Nat → Nat, EX s.heap.size ext adV (XX L xs) s ∧ ext 14 = b := by
  have hf := flat_of_before _ hgv
  have hA : ∀ a : Nat, a < s.heap.size → ¬ s.heap.size ≤ a := fun a h => Nat.not_le.mpr h
  obtain ⟨adK, adV, hS, hev⟩ := vk_Sof (N := 11) (tm := tmS) (len := sLen) (byt := sByt) (A := fun q => s.heap.size ≤ q) (args := #[Value.ref b]) (s := s) (by decide +kernel) (fun i hi => hf _ (e_hex i hi)) (fun i hi => hf _ (e_hco i hi)) (fun i hi => hf _ (e_har i hi)) (fun i hi => hf _ (e_hle i hi)) (fun i hi j hj => hf _ (e_hel i hi j hj)) (fun i j hi hj hne => (e_hne i hi j hj hne).imp (hf _) (hf _)) hA
  have hT : ∀ j : Nat, j < 3 → ∃ t : Nat, (tmR j).eval #[Value.ref b] s none [] s = some (.ref t) ∧ va_T .int t (lmN.getD j 0) (fun i => .int (Int32.ofInt (lmA j i))) (fun q => s.heap.size ≤ q) s s.heap := by
    intro j hj
    exact va_Tof ((show ∀ j : Nat, j < 3 → lmN.getD j 0 < 2 ^ 31 by decide) j hj) (hf _ (e_lar j hj)) (va_eqt (hf _ (e_lle j hj))) (fun i hi => va_eqt (hf _ (e_lel j hj i hi))) hA
  obtain ⟨t0, q0, r0⟩ := hT 0 (by decide)
  obtain ⟨t1, q1, r1⟩ := hT 1 (by decide)
  obtain ⟨t2, q2, r2⟩ := hT 2 (by decide)
  refine ⟨fun j => if j < 11 then adK j else if j = 11 then t0 else if j = 12 then t1 else if j = 13 then t2 else b, adV, ⟨?_, ?_, ?_, ?_, ?_, ?_, ?_, ?_, ?_⟩, rfl⟩
  · intro o ix k bb h
    exact va_Nw.of rfl (hts _ (lk_in o _ h))
  · intro o ix j bb h
    by_cases ho : o = 9
    · subst ho
      have h1 := List.all_eq_true.mp e_six _ h
      simp only [if_pos, Bool.and_eq_true, decide_eq_true_eq] at h1
      have hw := hts _ (lk_in 9 _ h)
      dsimp only
      rw [if_pos h1.2]
      refine vk_R.of (A := #[Value.ref b]) hw ?_
      have := hev j h1.2
      unfold tmS at this
      rw [h1.1] at this
      exact this
    · rcases Nat.lt_or_ge o 15 with h16 | h16
      · have h1 := List.all_eq_true.mp e_no6 o (List.mem_range.mpr h16)
        rw [if_neg ho] at h1
        have h2 := List.all_eq_true.mp h1 _ h
        simp at h2
      · rw [lks_out h16] at h
        cases h
  · refine ⟨fun i hi => ?_, fun i j hi hj h => ?_⟩
    · dsimp only
      rw [if_pos hi]
      exact hS.1 i hi
    · dsimp only at h
      rw [if_pos hi, if_pos hj] at h
      exact hS.2 i j hi hj h
  · intro j hj
    have hl : (Cond.laysStatic "QuotaParish$Reader" (srN.getD j "") "[I").before #[Value.ref b] s = true := hts _ (mem_pos (f := fun j => Cond.laysStatic "QuotaParish$Reader" (srN.getD j "") "[I") e_lst hj)
    have hi : (Cond.initialized "QuotaParish$Reader").before #[Value.ref b] s = true := hts _ (List.mem_of_getElem? (i := 111) (by decide +kernel))
    match j, hj with
    | 0, _ => exact va_Zref hl hi q0 hA
    | 1, _ => exact va_Zref hl hi q1 hA
    | 2, _ => exact va_Zref hl hi q2 hA
  · intro j h1 h2
    match j, h1, h2 with
    | 11, _, _ => exact ⟨r0, by show (18 : Nat) < _; omega⟩
    | 12, _, _ => exact ⟨r1, by show (18 : Nat) < _; omega⟩
    | 13, _, _ => exact ⟨r2, by show (3 : Nat) < _; omega⟩
    | 14, _, _ =>
      refine ⟨?_, by show L < _; omega⟩
      obtain ⟨scr, x1, x2, x3, x4, x5⟩ := hX
      refine ⟨scr, x1, x2, x3, by show L ≤ _; omega, by rw [x4]; rfl, fun i hi => ?_, hA b hbl⟩
      show _ = some (Value.int (Int32.ofInt (xs i).toInt))
      rw [o_t]
      exact x5 i hi
    | n + 15, _, h => exact absurd h (by omega)
  · intro ci hc
    have hm : ∀ w, some w ∈ ([142, 144, 277] : List Nat).map (fun i => lw_tbl[i]?) → w.before #[Value.ref b] s = true := by
      intro w hw
      obtain ⟨i, -, hi⟩ := List.mem_map.mp hw
      exact hts _ (List.mem_of_getElem? hi)
    rw [e_ao] at hm
    rcases hc with rfl | rfl | rfl
    · exact va_AO.of (hm _ (by simp))
    · exact va_AO.of (hm _ (by simp))
    · exact va_AO.of (hm _ (by simp))
  · intro j hj
    have : XX L xs j = (sLen.getD j 0, fun i => ((sByt.getD j []).getD i 0).toInt) := if_pos hj
    rw [this]
    exact ⟨rfl, fun i => o_t _⟩
  · exact va_Zof (hts _ (List.mem_of_getElem? (i := 622) (by decide +kernel))) (hts _ (List.mem_of_getElem? (i := 119) (by decide +kernel))) (va_eqt (hf _ e_com)) hA
  · exact va_Zqof (hts _ (List.mem_of_getElem? (i := 638) (by decide +kernel))) (hts _ (List.mem_of_getElem? (i := 121) (by decide +kernel))) (hf _ e_sio) hA
theorem arr_prim {s : State} {args : Array Value} {ty : FieldType} (h : (Cond.arrayClass ty).before args s = true) (hp : refKind ty = false) : ∃ cA : ClassId, ArrOfT s cA ty ∧ va_RA s cA ty := by
  obtain ⟨c, k, comp, h1, h2, h3⟩ := Cond.arrayClass_spec h
  refine ⟨c, fun N z => ⟨(fun k h => by cases h), k, h2, comp, h3⟩, ?_⟩
  cases ty <;> first | exact h1 | cases hp
theorem arr_ref {s : State} {C : String} (h : va_AO C s) : ∃ cA : ClassId, ArrOfT s cA (.object C) ∧ va_RA s cA (.object C) := by
  obtain ⟨comp, c, k, h1, h2, h3, h4, h5⟩ := Cond.arrayOver_spec h
  exact ⟨c, fun N z => ⟨(fun k h => by cases h), k, h3, comp, h4⟩, k, comp, h3, h4, h1, h5⟩
theorem entry_K {s : State} {b L : Nat} {xs : Nat → Int32} {ext adV : Nat → Nat} {base : Nat} {X : PX} (hts : ∀ w ∈ lw_tbl, w.before #[Value.ref b] s = true) (hE : EX base ext adV X s) : ∃ (cid : FieldType → ClassId) (D : va_G), va_K D vwCl (tysL cid) s := by
  have h1 : ∀ k : Nat, ∃ q : ClassId × (Nat → Nat), k < 12 → u_Kn s (vC k).1 (vC k).2.1 (vC k).2.2 q.1 q.2 := by
    intro k
    by_cases hk : k < 12
    · obtain ⟨cC, iS, h⟩ := u_known (n := (vC k).2.2) (fun w hw => hts w hw) (fun w hw => TB_in (uw_all k hk w hw)) (hts _ (TB_in (cl_inst hk)))
      exact ⟨(cC, iS), fun _ => h⟩
    · exact ⟨(0, fun _ => 0), fun q => absurd q hk⟩
  obtain ⟨f, hf⟩ := Classical.axiomOfChoice h1
  have h2 : ∀ ty : FieldType, ∃ cA : ClassId, (ty = .int ∨ ty = .boolean ∨ ty = .long ∨ ty = .object (vC 6).1 ∨ ty = .object (vC 7).1 ∨ ty = .object (vC 9).1) → ArrOfT s cA ty ∧ va_RA s cA ty := by
    intro ty
    by_cases ht : ty = .int ∨ ty = .boolean ∨ ty = .long ∨ ty = .object (vC 6).1 ∨ ty = .object (vC 7).1 ∨ ty = .object (vC 9).1
    · have : ∃ cA : ClassId, ArrOfT s cA ty ∧ va_RA s cA ty := by
        rcases ht with rfl | rfl | rfl | rfl | rfl | rfl
        · exact arr_prim (hts _ (List.mem_of_getElem? (i := 220) (by decide +kernel))) rfl
        · exact arr_prim (hts _ (List.mem_of_getElem? (i := 330) (by decide +kernel))) rfl
        · exact arr_prim (hts _ (List.mem_of_getElem? (i := 514) (by decide +kernel))) rfl
        · exact arr_ref (hE.2.2.2.2.2.1 6 (Or.inl rfl))
        · exact arr_ref (hE.2.2.2.2.2.1 7 (Or.inr (Or.inl rfl)))
        · exact arr_ref (hE.2.2.2.2.2.1 9 (Or.inr (Or.inr rfl)))
      obtain ⟨cA, h⟩ := this
      exact ⟨cA, fun _ => h⟩
    · exact ⟨0, fun q => absurd q ht⟩
  obtain ⟨cid, hc⟩ := Classical.axiomOfChoice h2
  refine ⟨cid, (fun k => (f k).1, fun k => (f k).2), fun k q hq => ?_, fun k q hq => ?_⟩
  · have hk : k < 12 := (List.getElem?_eq_some_iff.mp hq).1
    have e := vC_at k hk
    rw [hq] at e
    cases e
    exact hf k hk
  · match k, hq with
    | 0, hq => cases hq; exact hc _ (Or.inl rfl)
    | 1, hq => cases hq; exact hc _ (Or.inr (Or.inl rfl))
    | 2, hq => cases hq; exact hc _ (Or.inr (Or.inr (Or.inl rfl)))
    | 3, hq => cases hq; exact hc _ (Or.inr (Or.inr (Or.inr (Or.inl rfl))))
    | 4, hq => cases hq; exact hc _ (Or.inr (Or.inr (Or.inr (Or.inr (Or.inl rfl)))))
    | 5, hq => cases hq; exact hc _ (Or.inr (Or.inr (Or.inr (Or.inr (Or.inr rfl)))))
    | n + 6, hq => simp [tysL] at hq
/-- the law's run of the pure machine, for every script -/
def LawRuns : Prop := ∀ (L : Nat) (xs : Nat → Int32), L ≤ 3072 → ∃ (n : Nat) (h2 : PHp), run (XX L xs) cds mi n 284 (0, pent 4 [vR (some (PK + 14))], [], [], 0, 0) = some (some (vI 1), h2)
theorem whole_of (hrun : LawRuns) {p : Program} {e : Env} {s : State} {m : MethodId} {below : List Frame} {meth : Method} {c : Code} (l : Launch) {b L : Nat} {xs : Nat → Int32} (hL : L ≤ 3072) (C0 : lw_At p s m meth c b L xs) : W p l e room_1 s m #[Value.ref b] below meth c s.heap [] 0 0 (lw_Z below #[Value.ref b] s) (entryFrame m ([Value.ref b] : List Value).toArray 4) := by
  obtain ⟨hx, hb, hr, hml, hown, hts, hX, hbl, hlocks, hgv⟩ := id C0
  obtain ⟨ext, adV, hE, h14⟩ := entry_EX hL hgv hts hX hbl
  obtain ⟨cid, D, hK⟩ := entry_K (L := L) (xs := xs) hts hE
  obtain ⟨n, h2, hr2⟩ := hrun L xs hL
  have hF : Fx s.heap.size ext adV cid D (XX L xs) 284 p s m #[Value.ref b] meth c := ⟨hx, hb, hml, hown, fun w hw => hts w (TB_in hw), hK, hE, fun q => absurd q (by decide +kernel), Nat.le_refl _⟩
  have hret : ∀ (i : Nat) (L2 : PL) (st : List PV) (cs sl : Nat) (en : PEn), (cds 284)[i]? = some en → stp (XX L xs) en (i, L2, st, h2, cs, sl) = some (.inr (.inl (some (vI 1)))) → Gw s.heap.size ext cid D 284 p l e room_1 s m #[Value.ref b] below meth c (lw_Z below #[Value.ref b] s) en.1 L2 st h2 cs sl := by
    intro i L2 st cs sl en hen hst
    obtain ⟨bp, ins, ln, ar, z⟩ := en
    have ok := ok_all 284 (by omega) i _ hen
    have hend := stp_inr hst
    cases ins <;> first | (cases hend; done) | skip
    case ireturn =>
      have hY := (Bool.and_eq_true _ _).mp ok.2
      have hZ := (Bool.and_eq_true _ _).mp hY.1
      have hW := (Bool.and_eq_true _ _).mp hZ.1
      have hln := of_decide_eq_true hY.2
      have hms := of_decide_eq_true hZ.2
      have hmc := of_decide_eq_true hW.2
      have hd := ok.1
      dsimp only at hln hd
      subst hln
      dsimp only [stp] at hst
      split at hst
      · next x =>
        split at hst
        · next hq =>
          cases hst
          intro H locs ls hL hP hsz hS hcs
          rw [hmc] at hq
          rw [hms] at hq
          obtain ⟨q1, q2, q3⟩ := hq
          have e1 : (mt 284).2.2.2.2.2.2.2.1 = 185 := by decide +kernel
          have e2 : (mt 284).2.2.2.2.2.2.2.2 = 10002 := by decide +kernel
          rw [e1] at q1
          rw [e2] at q2
          refine W.widen (k := 600000) (n := 7302250) (by omega) (by omega) ?_
          refine W.forget (locs := []) (L := locs) (fun q hq => hS.2.2 q hq) ?_
          exact lw_ret hx hb hr hlocks hd
        · cases hst
      · cases hst
    all_goals
      exfalso
      have hc := ok.2
      first
        | (have hY := (Bool.and_eq_true _ _).mp hc
           have hZ := (Bool.and_eq_true _ _).mp hY.1
           have hW := (Bool.and_eq_true _ _).mp hZ.1
           exact absurd (of_decide_eq_true hW.1) (by decide +kernel))
        | (dsimp only [stp] at hst
           repeat' split at hst
           all_goals first | (cases hst; done) | (simp [nx] at hst; done) | (obtain ⟨x, hi, hst⟩ := Option.bind_eq_some_iff.mp hst; simp [nx] at hst; done) | (obtain ⟨x, hi, hst⟩ := Option.bind_eq_some_iff.mp hst; obtain ⟨y, hj, hst⟩ := Option.bind_eq_some_iff.mp hst; split at hst <;> first | (cases hst; done) | (simp [nx] at hst; done)))
  have hb0 : bpOf (cds 284) 0 = some 0 := of_decide_eq_true (List.all_eq_true.mp bp_0 284 (List.mem_range.mpr (by omega)))
  have G := snd_all ok_all str_ok n 284 (by omega) 0 _ [] [] 0 0 _ h2 hr2 p e room_1 s m #[Value.ref b] below meth c _ hF (by decide +kernel) ⟨Nat.zero_le _, Nat.zero_le _⟩ hret 0 hb0
  rw [lg_entry_eq]
  have hlr : LR s.heap.size ext ((lg_sl (([vR (some (PK + 14))] : List PV).map (cV s.heap.size ext)) ++ List.replicate (4 - (lg_sl (([vR (some (PK + 14))] : List PV).map (cV s.heap.size ext))).length) Slot.unset).toArray) 4 (pent 4 [vR (some (PK + 14))]) := LR_entry (by decide)
  have hv : ([vR (some (PK + 14))] : List PV).map (cV s.heap.size ext) = [Value.ref b] := by
    show [Value.ref (if PK + 14 < PK then _ else _)] = _
    rw [if_neg (by omega), Nat.add_sub_cancel_left, h14]
  rw [hv] at hlr
  exact G s.heap [] _ hlr (fun k q h => by simp [cW] at h) rfl va_S.rf (by rw [Nat.add_zero])
end
section
/-! THE STORE: behind the constructors the shape of the heap stands still: what moves are ints in fields and rows -/
abbrev Sg : Type := (Nat → Nat → Int) × (Nat → Nat → Int)
/-- kind (0 an object, 1 ints, 2 booleans, 3 longs, 4 references), class or length, references -/
abbrev Sh : Type := Nat × Nat × List (Option Nat)
def SHs : List Sh := [(0, 10, [some 1, some 33, some 130, some 131, some 146, some 157, some 160, some 161, some 163]), (0, 9, [some 2, none, some 3, some 4, some 5, some 6, none, none]), (1, 600, []), (4, 7, [some 7, some 20]), (4, 6, [some 14, some 27]), (4, 6, [some 17, some 30]), (1, 3, []), (0, 7, [none, none, none, none, none, some 8, some 9, some 10, some 11, some 12, some 13]), (1, 7, []), (1, 7, []), (1, 10, []), (1, 10, []), (1, 10, []), (1, 10, []), (0, 6, [none, some 15, some 16]), (1, 40, []), (1, 40, []), (0, 6, [none, some 18, some 19]), (1, 40, []), (1, 40, []), (0, 7, [none, none, none, none, none, some 21, some 22, some 23, some 24, some 25, some 26]), (1, 7, []), (1, 7, []), (1, 10, []), (1, 10, []), (1, 10, []), (1, 10, []), (0, 6, [none, some 28, some 29]), (1, 40, []), (1, 40, []), (0, 6, [none, some 31, some 32]), (1, 40, []), (1, 40, []), (4, 9, [some 34, some 66, some 98]), (0, 9, [some 35, none, some 36, some 37, some 38, some 39, none, none]), (1, 600, []), (4, 7, [some 40, some 53]), (4, 6, [some 47, some 60]), (4, 6, [some 50, some 63]), (1, 3, []), (0, 7, [none, none, none, none, none, some 41, some 42, some 43, some 44, some 45, some 46]), (1, 7, []), (1, 7, []), (1, 10, []), (1, 10, []), (1, 10, []), (1, 10, []), (0, 6, [none, some 48, some 49]), (1, 40, []), (1, 40, []), (0, 6, [none, some 51, some 52]), (1, 40, []), (1, 40, []), (0, 7, [none, none, none, none, none, some 54, some 55, some 56, some 57, some 58, some 59]), (1, 7, []), (1, 7, []), (1, 10, []), (1, 10, []), (1, 10, []), (1, 10, []), (0, 6, [none, some 61, some 62]), (1, 40, []), (1, 40, []), (0, 6, [none, some 64, some 65]), (1, 40, []), (1, 40, []), (0, 9, [some 67, none, some 68, some 69, some 70, some 71, none, none]), (1, 600, []), (4, 7, [some 72, some 85]), (4, 6, [some 79, some 92]), (4, 6, [some 82, some 95]), (1, 3, []), (0, 7, [none, none, none, none, none, some 73, some 74, some 75, some 76, some 77, some 78]), (1, 7, []), (1, 7, []), (1, 10, []), (1, 10, []), (1, 10, []), (1, 10, []), (0, 6, [none, some 80, some 81]), (1, 40, []), (1, 40, []), (0, 6, [none, some 83, some 84]), (1, 40, []), (1, 40, []), (0, 7, [none, none, none, none, none, some 86, some 87, some 88, some 89, some 90, some 91]), (1, 7, []), (1, 7, []), (1, 10, []), (1, 10, []), (1, 10, []), (1, 10, []), (0, 6, [none, some 93, some 94]), (1, 40, []), (1, 40, []), (0, 6, [none, some 96, some 97]), (1, 40, []), (1, 40, []), (0, 9, [some 99, none, some 100, some 101, some 102, some 103, none, none]), (1, 600, []), (4, 7, [some 104, some 117]), (4, 6, [some 111, some 124]), (4, 6, [some 114, some 127]), (1, 3, []), (0, 7, [none, none, none, none, none, some 105, some 106, some 107, some 108, some 109, some 110]), (1, 7, []), (1, 7, []), (1, 10, []), (1, 10, []), (1, 10, []), (1, 10, []), (0, 6, [none, some 112, some 113]), (1, 40, []), (1, 40, []), (0, 6, [none, some 115, some 116]), (1, 40, []), (1, 40, []), (0, 7, [none, none, none, none, none, some 118, some 119, some 120, some 121, some 122, some 123]), (1, 7, []), (1, 7, []), (1, 10, []), (1, 10, []), (1, 10, []), (1, 10, []), (0, 6, [none, some 125, some 126]), (1, 40, []), (1, 40, []), (0, 6, [none, some 128, some 129]), (1, 40, []), (1, 40, []), (2, 3, []), (0, 8, [some 132, some 139, some 142, none, none, some 1, some 145, none, none, none, none, none]), (0, 7, [none, none, none, none, none, some 133, some 134, some 135, some 136, some 137, some 138]), (1, 7, []), (1, 7, []), (1, 10, []), (1, 10, []), (1, 10, []), (1, 10, []), (0, 6, [none, some 140, some 141]), (1, 40, []), (1, 40, []), (0, 6, [none, some 143, some 144]), (1, 40, []), (1, 40, []), (1, 3, []), (0, 2, [some 147, some 154, none, none, none, none, none, none, none, none]), (0, 7, [none, none, none, none, none, some 148, some 149, some 150, some 151, some 152, some 153]), (1, 7, []), (1, 7, []), (1, 10, []), (1, 10, []), (1, 10, []), (1, 10, []), (0, 4, [none, some 155, some 156]), (1, 7, []), (1, 7, []), (0, 1, [some 146, some 158, none, none, none, none, none, some 159]), (1, 7, []), (1, 4, []), (0, 5, [some 146, none]), (0, 0, [some 146, some 162, none, none, none, none, none]), (1, 7, []), (0, 3, [none, none, some 164, some 165, some 166, some 167]), (1, 128, []), (3, 128, []), (1, 128, []), (0, 4, [none, some 168, some 169]), (1, 7, []), (1, 7, []), (0, 11, [some 171, some 172, none, none, none, none, none, none, none, none, some 173, none, none, none, none, none, none, none, none, none, none, none, none, none, none, some 174, some 175, some 176, some 177, none, none, some 178, some 179, some 180, none, none, none, none, none, none, some 181, none, none, some 182, some 183, some 184, none]), (1, 3616, []), (2, 3, []), (1, 81, []), (1, 7, []), (1, 7, []), (1, 7, []), (1, 7, []), (1, 64, []), (1, 7, []), (1, 7, []), (1, 7, []), (1, 128, []), (1, 896, []), (1, 7, [])]
def fval (σ : Sg) (c j : Nat) (o : Option Nat) : PV := match o with
  | none => vI (σ.1 c j)
  | some r => vR (some r)
def hcell (σ : Sg) (c : Nat) (s : Sh) : PE := match s with
  | (0, ci, fs) => .inr (ci, fs.mapIdx fun j o => fval σ c j o)
  | (1, n, _) => .inl (.int, n, .inl (σ.2 c))
  | (2, n, _) => .inl (.boolean, n, .inl (σ.2 c))
  | (3, n, _) => .inl (.long, n, .inr (.inl (σ.2 c)))
  | (_, ci, es) => .inl (.object (vC ci).1, es.length, .inr (.inr fun j => (es[j]?).bind id))
def hp (σ : Sg) : PHp := SHs.mapIdx fun c s => hcell σ c s
def parL : List Nat := [7, 20, 40, 53, 72, 85, 104, 117, 132, 147]
def paiL : List Nat := [14, 17, 27, 30, 47, 50, 60, 63, 79, 82, 92, 95, 111, 114, 124, 127, 139, 142]
def tolL : List Nat := [1, 34, 66, 98]
def levL : List Nat := [154, 167]
theorem parS {p : Nat} (h : p ∈ parL) : SHs[p]? = some (0, 7, [none, none, none, none, none, some (p + 1), some (p + 2), some (p + 3), some (p + 4), some (p + 5), some (p + 6)]) ∧ SHs[p + 1]? = some (1, 7, []) ∧ SHs[p + 2]? = some (1, 7, []) ∧ SHs[p + 3]? = some (1, 10, []) ∧ SHs[p + 4]? = some (1, 10, []) ∧ SHs[p + 5]? = some (1, 10, []) ∧ SHs[p + 6]? = some (1, 10, []) := by
  simp only [parL, List.mem_cons, List.not_mem_nil, or_false] at h
  rcases h with rfl | rfl | rfl | rfl | rfl | rfl | rfl | rfl | rfl | rfl <;> exact ⟨rfl, rfl, rfl, rfl, rfl, rfl, rfl⟩
theorem paiS {p : Nat} (h : p ∈ paiL) : SHs[p]? = some (0, 6, [none, some (p + 1), some (p + 2)]) ∧ SHs[p + 1]? = some (1, 40, []) ∧ SHs[p + 2]? = some (1, 40, []) := by
  simp only [paiL, List.mem_cons, List.not_mem_nil, or_false] at h
  rcases h with rfl | rfl | rfl | rfl | rfl | rfl | rfl | rfl | rfl | rfl | rfl | rfl | rfl | rfl | rfl | rfl | rfl | rfl <;> exact ⟨rfl, rfl, rfl⟩
theorem tolS {p : Nat} (h : p ∈ tolL) : SHs[p]? = some (0, 9, [some (p + 1), none, some (p + 2), some (p + 3), some (p + 4), some (p + 5), none, none]) ∧ SHs[p + 1]? = some (1, 600, []) ∧ SHs[p + 2]? = some (4, 7, [some (p + 6), some (p + 19)]) ∧ SHs[p + 3]? = some (4, 6, [some (p + 13), some (p + 26)]) ∧ SHs[p + 4]? = some (4, 6, [some (p + 16), some (p + 29)]) ∧ SHs[p + 5]? = some (1, 3, []) ∧ p + 6 ∈ parL ∧ p + 19 ∈ parL ∧ p + 13 ∈ paiL ∧ p + 26 ∈ paiL ∧ p + 16 ∈ paiL ∧ p + 29 ∈ paiL := by
  simp only [tolL, List.mem_cons, List.not_mem_nil, or_false] at h
  rcases h with rfl | rfl | rfl | rfl <;> exact ⟨rfl, rfl, rfl, rfl, rfl, rfl, by decide, by decide, by decide, by decide, by decide, by decide⟩
theorem levS {p : Nat} (h : p ∈ levL) : SHs[p]? = some (0, 4, [none, some (p + 1), some (p + 2)]) ∧ SHs[p + 1]? = some (1, 7, []) ∧ SHs[p + 2]? = some (1, 7, []) := by
  simp only [levL, List.mem_cons, List.not_mem_nil, or_false] at h
  rcases h with rfl | rfl <;> exact ⟨rfl, rfl, rfl⟩
theorem hp_at (σ : Sg) (c : Nat) : (hp σ)[c]? = (SHs[c]?).map (hcell σ c) := by simp [hp]
theorem SHs_lt {c : Nat} {s : Sh} (h : SHs[c]? = some s) : c < PK := by
  have h1 := (List.getElem?_eq_some_iff.mp h).1
  have h2 : SHs.length = 185 := by decide +kernel
  show c < 1000000
  omega
theorem hp_obj {σ : Sg} {c ci : Nat} {fs : List (Option Nat)} (h : SHs[c]? = some (0, ci, fs)) : hObj (hp σ) c ci = some (fs.mapIdx fun j o => fval σ c j o) := by
  unfold hObj
  rw [if_pos (SHs_lt h), hp_at, h]
  simp [hcell]
theorem hp_int {σ : Sg} {c n : Nat} {es : List (Option Nat)} (h : SHs[c]? = some (1, n, es)) (hn : n ≤ 100000) : hInt .int (hp σ) c = some (n, σ.2 c) := by
  unfold hInt
  rw [if_pos (SHs_lt h), hp_at, h]
  simp [hcell, hn]
theorem hp_bool {σ : Sg} {c n : Nat} {es : List (Option Nat)} (h : SHs[c]? = some (2, n, es)) (hn : n ≤ 100000) : hInt .boolean (hp σ) c = some (n, σ.2 c) := by
  unfold hInt
  rw [if_pos (SHs_lt h), hp_at, h]
  simp [hcell, hn]
theorem hp_long {σ : Sg} {c n : Nat} {es : List (Option Nat)} (h : SHs[c]? = some (3, n, es)) (hn : n ≤ 100000) : hLong (hp σ) c = some (n, σ.2 c) := by
  unfold hLong
  rw [if_pos (SHs_lt h), hp_at, h]
  simp [hcell, hn]
theorem hp_ref {σ : Sg} {c ci : Nat} {es : List (Option Nat)} (h : SHs[c]? = some (4, ci, es)) (hn : es.length ≤ 100000) : hRef (hp σ) c = some (.object (vC ci).1, es.length, fun j => (es[j]?).bind id) := by
  unfold hRef
  rw [if_pos (SHs_lt h), hp_at, h]
  simp [hcell, hn]
theorem up_same {α : Type} (f : Nat → α) (k : Nat) (x : α) : up f k x k = x := if_pos rfl
theorem up_ne {α : Type} (f : Nat → α) {k j : Nat} (x : α) (h : j ≠ k) : up f k x j = f j := if_neg h
theorem up_up {α : Type} (f : Nat → α) (k : Nat) (x y : α) : up (up f k x) k y = up f k y := by
  funext j
  unfold up
  split <;> rfl
theorem up_eta {α : Type} (f : Nat → α) (k : Nat) : up f k (f k) = f := by
  funext j
  unfold up
  split
  · next h => rw [h]
  · rfl
/-- one place of one cell -/
def up2 (f : Nat → Nat → Int) (c j : Nat) (x : Int) : Nat → Nat → Int := fun a b => if a = c then (if b = j then x else f a b) else f a b
theorem up2_eq (f : Nat → Nat → Int) (c j : Nat) (x : Int) : up2 f c j x = up f c (up (f c) j x) := by
  funext a b
  unfold up2 up
  by_cases h : a = c
  · subst h; rw [if_pos rfl, if_pos rfl]
  · rw [if_neg h, if_neg h]
theorem up2_ne (f : Nat → Nat → Int) {c d : Nat} (j : Nat) (x : Int) (h : d ≠ c) : up2 f c j x d = f d := by
  funext b
  exact if_neg h
theorem up2_at (f : Nat → Nat → Int) (c j : Nat) (x : Int) : up2 f c j x c = up (f c) j x := by rw [up2_eq, up_same]
def upc (A : Nat → Nat → Int) (s d sp dp w : Nat) : Nat → Nat → Int := up A d (cpy (A s) (A d) sp dp w)
theorem hp_ext {σ τ : Sg} {c : Nat} {s : Sh} (h : SHs[c]? = some s) (ho : ∀ d, d ≠ c → τ.1 d = σ.1 d ∧ τ.2 d = σ.2 d) : (hp σ).set c (hcell τ c s) = hp τ := by
  apply List.ext_getElem?
  intro d
  rw [List.getElem?_set, hp_at τ d]
  have hl : c < (hp σ).length := by simp [hp]; exact (List.getElem?_eq_some_iff.mp h).1
  by_cases hd : c = d
  · subst hd
    rw [if_pos rfl, if_pos hl, h]
    rfl
  · rw [if_neg hd, hp_at σ d]
    obtain ⟨q1, q2⟩ := ho d (fun q => hd q.symm)
    cases hs : SHs[d]? with
    | none => rfl
    | some s2 =>
      show some _ = some _
      congr 1
      unfold hcell
      split <;> first | (simp only [fval, q1]; done) | rw [q2] | rfl
theorem hp_putF {σ : Sg} {c ci j : Nat} {x : Int} {fs : List (Option Nat)} (h : SHs[c]? = some (0, ci, fs)) (hj : fs[j]? = some none) : (hp σ).set c (.inr (ci, (fs.mapIdx fun j o => fval σ c j o).set j (vI x))) = hp (up σ.1 c (up (σ.1 c) j x), σ.2) := by
  rw [← hp_ext (σ := σ) (τ := (up σ.1 c (up (σ.1 c) j x), σ.2)) h (fun d hd => ⟨up_ne _ _ hd, rfl⟩)]
  congr 1
  show Sum.inr _ = Sum.inr _
  congr 1
  show (ci, _) = (ci, _)
  congr 1
  apply List.ext_getElem?
  intro i
  rw [List.getElem?_set, List.getElem?_mapIdx, List.getElem?_mapIdx, List.length_mapIdx]
  by_cases hi : j = i
  · subst hi
    rw [if_pos rfl, if_pos (List.getElem?_eq_some_iff.mp hj).1, hj]
    simp [fval, up_same]
  · rw [if_neg hi]
    cases hf : fs[i]? with
    | none => rfl
    | some o =>
      cases o with
      | none => simp [fval, up_same, up_ne _ _ (fun q : i = j => hi q.symm)]
      | some r => rfl
theorem hp_putA {σ : Sg} {c kd n : Nat} {g : Nat → Int} {es : List (Option Nat)} (h : SHs[c]? = some (kd, n, es)) : (hp σ).set c (hcell (σ.1, up σ.2 c g) c (kd, n, es)) = hp (σ.1, up σ.2 c g) := hp_ext h (fun d hd => ⟨rfl, up_ne _ _ hd⟩)
/-! runs -/
theorem run_succ (X : PX) : ∀ (n k : Nat) (c : PC) (r : Option PV × PHp), run X cds mi n k c = some r → run X cds mi (n + 1) k c = some r := by
  intro n
  induction n with
  | zero => intro k c r h; simp [run] at h
  | succ n ih =>
    intro k c r h
    rw [run] at h ⊢
    split at h
    · cases h
    · next e he =>
      try rw [he]
      try dsimp only at h ⊢
      split at h
      · cases h
      · next d hd =>
        try rw [hd]
        try dsimp only
        split at h
        · next hb => try rw [if_pos hb]
                     exact ih _ _ _ h
        · cases h
      · next v hv => first | exact h | (rw [hv]; exact h)
      · next k2 as r2 hs =>
        try rw [hs]
        try dsimp only
        split at h
        · next hb =>
          try rw [if_pos hb]
          split at h
          · cases h
          · next v h2 hr =>
            rw [ih _ _ _ hr]
            exact ih _ _ _ h
        · cases h
theorem run_mono {X : PX} {n m k : Nat} {c : PC} {r : Option PV × PHp} (h : run X cds mi n k c = some r) (hm : n ≤ m) : run X cds mi m k c = some r := by
  induction hm with
  | refl => exact h
  | step _ ih => exact run_succ X _ _ _ _ ih
def Ev (X : PX) (k i : Nat) (L : PL) (st : List PV) (σ : Sg) (Q : Option PV → Sg → Prop) : Prop := ∃ (n : Nat) (v : Option PV) (τ : Sg), run X cds mi n k (i, L, st, hp σ, 0, 0) = some (v, hp τ) ∧ Q v τ
/-- a call -/
def Cl (X : PX) (k : Nat) (as : List PV) (σ : Sg) (Q : Option PV → Sg → Prop) : Prop := (pargs as).length ≤ mL k ∧ mMc k = 0 ∧ mMs k = 0 ∧ Ev X k 0 (pent (mL k) as) [] σ Q
theorem Ev.mono {X : PX} {k i : Nat} {L : PL} {st : List PV} {σ : Sg} {Q P : Option PV → Sg → Prop} (h : Ev X k i L st σ Q) (hq : ∀ v τ, Q v τ → P v τ) : Ev X k i L st σ P := by
  obtain ⟨n, v, τ, h1, h2⟩ := h
  exact ⟨n, v, τ, h1, hq v τ h2⟩
theorem Cl.mono {X : PX} {k : Nat} {as : List PV} {σ : Sg} {Q P : Option PV → Sg → Prop} (h : Cl X k as σ Q) (hq : ∀ v τ, Q v τ → P v τ) : Cl X k as σ P := ⟨h.1, h.2.1, h.2.2.1, h.2.2.2.mono hq⟩
abbrev InR (x : Int) : Prop := -2147483648 ≤ x ∧ x < 2147483648
abbrev InL (x : Int) : Prop := -9223372036854775808 ≤ x ∧ x < 9223372036854775808
/-- calls by what they answer -/
def CI (X : PX) (k : Nat) (as : List PV) (σ : Sg) (Q : Int → Sg → Prop) : Prop := Cl X k as σ (fun v τ => ∃ x, v = some (vI x) ∧ Q x τ)
def CG (X : PX) (k : Nat) (as : List PV) (σ : Sg) (Q : Int → Sg → Prop) : Prop := Cl X k as σ (fun v τ => ∃ x, v = some (vL x) ∧ Q x τ)
def CV (X : PX) (k : Nat) (as : List PV) (σ : Sg) (Q : Sg → Prop) : Prop := Cl X k as σ (fun v τ => v = none ∧ Q τ)
theorem CI.mono {X : PX} {k : Nat} {as : List PV} {σ : Sg} {Q P : Int → Sg → Prop} (h : CI X k as σ Q) (hq : ∀ x τ, Q x τ → P x τ) : CI X k as σ P := Cl.mono h (fun _ τ ⟨x, e, q⟩ => ⟨x, e, hq x τ q⟩)
theorem CG.mono {X : PX} {k : Nat} {as : List PV} {σ : Sg} {Q P : Int → Sg → Prop} (h : CG X k as σ Q) (hq : ∀ x τ, Q x τ → P x τ) : CG X k as σ P := Cl.mono h (fun _ τ ⟨x, e, q⟩ => ⟨x, e, hq x τ q⟩)
theorem CV.mono {X : PX} {k : Nat} {as : List PV} {σ : Sg} {Q P : Sg → Prop} (h : CV X k as σ Q) (hq : ∀ τ, Q τ → P τ) : CV X k as σ P := Cl.mono h (fun _ τ ⟨e, q⟩ => ⟨e, hq τ q⟩)
section RULES
variable {X : PX} {k i : Nat} {L : PL} {st : List PV} {σ : Sg} {Q : Option PV → Sg → Prop} {cdl : List PEn}
theorem e_nx {en : PEn} {i2 : Nat} {L2 : PL} {st2 : List PV} {τ : Sg} (hcd : cds k = cdl) (hc : cdl[i]? = some en) (hs : stp X en (i, L, st, hp σ, 0, 0) = some (.inl (i2, L2, st2, hp τ, 0, 0))) (g : Ev X k i2 L2 st2 τ Q) : Ev X k i L st σ Q := by
  obtain ⟨n, v, υ, h1, h2⟩ := g
  refine ⟨n + 1, v, υ, ?_, h2⟩
  rw [run]
  dsimp only
  rw [hcd, hc]
  dsimp only
  rw [hs]
  dsimp only
  rw [if_pos ⟨Nat.zero_le _, Nat.zero_le _⟩]
  exact h1
theorem e_ret {en : PEn} {v : Option PV} (hcd : cds k = cdl) (hc : cdl[i]? = some en) (hs : stp X en (i, L, st, hp σ, 0, 0) = some (.inr (.inl v))) (q : Q v σ) : Ev X k i L st σ Q := by
  refine ⟨1, v, σ, ?_, q⟩
  rw [run]
  dsimp only
  rw [hcd, hc]
  dsimp only
  rw [hs]
theorem e_call {en : PEn} {k2 : Nat} {as r : List PV} (hcd : cds k = cdl) (hc : cdl[i]? = some en) (hs : stp X en (i, L, st, hp σ, 0, 0) = some (.inr (.inr (k2, as, r)))) (g : Cl X k2 as σ (fun v τ => Ev X k (i + 1) L (v.toList ++ r) τ Q)) : Ev X k i L st σ Q := by
  obtain ⟨g1, g2, g3, n, v, τ, h1, m, w, υ, h3, h4⟩ := g
  refine ⟨max n m + 1, w, υ, ?_, h4⟩
  rw [run]
  dsimp only
  rw [hcd, hc]
  dsimp only
  rw [hs]
  dsimp only
  have e1 : (mi k2).1 = mL k2 := rfl
  have e2 : (mi k2).2.1 = 0 := g2
  have e3 : (mi k2).2.2 = 0 := g3
  rw [e1, e2, e3, if_pos ⟨Nat.zero_le _, Nat.zero_le _, g1⟩, run_mono h1 (Nat.le_max_left n m)]
  exact run_mono h3 (Nat.le_max_right n m)
theorem e_pc {i2 : Nat} (h : i = i2) (g : Ev X k i2 L st σ Q) : Ev X k i L st σ Q := h ▸ g
theorem ofR {x : Int} (h : InR x) : (Int32.ofInt x).toInt = x := Int32.toInt_ofInt_of_le (by omega) (by omega)
theorem ofL {x : Int} (h : InL x) : (Int64.ofInt x).toInt = x := Int64.toInt_ofInt_of_le (by omega) (by omega)
theorem o_lt {x y : Int} (hx : InR x) (hy : InR y) : Int32.ofInt x < Int32.ofInt y ↔ x < y := by rw [Int32.lt_iff_toInt_lt, ofR hx, ofR hy]
theorem o_eq {x y : Int} (hx : InR x) (hy : InR y) : Int32.ofInt x = Int32.ofInt y ↔ x = y := by rw [← Int32.toInt_inj, ofR hx, ofR hy]
def cmpP (cd : ClassFile.Cond) (x y : Int) : Prop := match cd with
  | .eq => x = y
  | .ne => x ≠ y
  | .lt => x < y
  | .ge => y ≤ x
  | .gt => y < x
  | .le => x ≤ y
theorem iCmp_iff {cd : ClassFile.Cond} {x y : Int} (hx : InR x) (hy : InR y) : iCmp cd x y = true ↔ cmpP cd x y := by
  cases cd <;> simp [iCmp, cmpP, o_lt hx hy, o_lt hy hx, o_eq hx hy]
theorem r_icmp {bp ln : Nat} {cd : ClassFile.Cond} {off z x y : Int} {ar : List Nat} (hcd : cds k = cdl) (hc : cdl[i]? = some (bp, .if_icmp cd off, ln, ar, z)) (hx : InR x) (hy : InR y) (g1 : cmpP cd x y → Ev X k (ord ar 0) L st σ Q) (g2 : ¬ cmpP cd x y → Ev X k (i + 1) L st σ Q) : Ev X k i L (vI y :: vI x :: st) σ Q := by
  have hs : stp X (bp, .if_icmp cd off, ln, ar, z) (i, L, vI y :: vI x :: st, hp σ, 0, 0) = some (.inl (if iCmp cd x y = true then ord ar 0 else i + 1, L, st, hp σ, 0, 0)) := rfl
  refine e_nx hcd hc hs ?_
  by_cases h : cmpP cd x y
  · rw [if_pos ((iCmp_iff hx hy).mpr h)]; exact g1 h
  · rw [if_neg (fun q => h ((iCmp_iff hx hy).mp q))]; exact g2 h
theorem r_if {bp ln : Nat} {cd : ClassFile.Cond} {off z x : Int} {ar : List Nat} (hcd : cds k = cdl) (hc : cdl[i]? = some (bp, .ifCond cd off, ln, ar, z)) (hx : InR x) (g1 : cmpP cd x 0 → Ev X k (ord ar 0) L st σ Q) (g2 : ¬ cmpP cd x 0 → Ev X k (i + 1) L st σ Q) : Ev X k i L (vI x :: st) σ Q := by
  have hs : stp X (bp, .ifCond cd off, ln, ar, z) (i, L, vI x :: st, hp σ, 0, 0) = some (.inl (if iCmp cd x 0 = true then ord ar 0 else i + 1, L, st, hp σ, 0, 0)) := rfl
  have hy : InR 0 := by omega
  refine e_nx hcd hc hs ?_
  by_cases h : cmpP cd x 0
  · rw [if_pos ((iCmp_iff hx hy).mpr h)]; exact g1 h
  · rw [if_neg (fun q => h ((iCmp_iff hx hy).mp q))]; exact g2 h
theorem r_tab {bp ln : Nat} {d lo hi z x : Int} {offs : Array Int} {ar : List Nat} (hcd : cds k = cdl) (hc : cdl[i]? = some (bp, .tableswitch d lo hi offs, ln, ar, z)) (hx : InR x) (g : Ev X k (if x < lo ∨ hi < x then ord ar 0 else ord ar (1 + (x - lo).toNat)) L st σ Q) : Ev X k i L (vI x :: st) σ Q := by
  have hs : stp X (bp, .tableswitch d lo hi offs, ln, ar, z) (i, L, vI x :: st, hp σ, 0, 0) = some (.inl (if (Int32.ofInt x).toInt < lo ∨ hi < (Int32.ofInt x).toInt then ord ar 0 else ord ar (1 + ((Int32.ofInt x).toInt - lo).toNat), L, st, hp σ, 0, 0)) := rfl
  rw [ofR hx] at hs
  exact e_nx hcd hc hs g
theorem r_lkp {bp ln : Nat} {d z x : Int} {ps : Array (Int × Int)} {ar : List Nat} (hcd : cds k = cdl) (hc : cdl[i]? = some (bp, .lookupswitch d ps, ln, ar, z)) (hx : InR x) (g : Ev X k (match ps.toList.findIdx? (fun p => p.1 == x) with
      | some k => ord ar (k + 1)
      | none => ord ar 0) L st σ Q) : Ev X k i L (vI x :: st) σ Q := by
  have hs : stp X (bp, .lookupswitch d ps, ln, ar, z) (i, L, vI x :: st, hp σ, 0, 0) = some (.inl ((match ps.toList.findIdx? (fun p => p.1 == (Int32.ofInt x).toInt) with
      | some k => ord ar (k + 1)
      | none => ord ar 0), L, st, hp σ, 0, 0)) := rfl
  rw [ofR hx] at hs
  exact e_nx hcd hc hs g
theorem fld_at {fs : List (Option Nat)} {j c : Nat} {o : Option Nat} (h : fs[j]? = some o) : (fs.mapIdx fun j o => fval σ c j o)[j]? = some (fval σ c j o) := by rw [List.getElem?_mapIdx, h]; rfl
theorem r_getI {bp ln ix ci j c : Nat} {z : Int} {ar : List Nat} {fs : List (Option Nat)} (hcd : cds k = cdl) (hc : cdl[i]? = some (bp, .getfield ix, ln, ci :: j :: ar, z)) (hS : SHs[c]? = some (0, ci, fs)) (hj : fs[j]? = some none) (g : Ev X k (i + 1) L (vI (σ.1 c j) :: st) σ Q) : Ev X k i L (vR (some c) :: st) σ Q := by
  refine e_nx hcd hc ?_ g
  show (hObj (hp σ) c ci).bind _ = _
  rw [hp_obj hS]
  show (match (fs.mapIdx fun j o => fval σ c j o)[j]? with | some v => _ | none => _) = _
  rw [fld_at hj]
  rfl
theorem r_getR {bp ln ix ci j c r : Nat} {z : Int} {ar : List Nat} {fs : List (Option Nat)} (hcd : cds k = cdl) (hc : cdl[i]? = some (bp, .getfield ix, ln, ci :: j :: ar, z)) (hS : SHs[c]? = some (0, ci, fs)) (hj : fs[j]? = some (some r)) (g : Ev X k (i + 1) L (vR (some r) :: st) σ Q) : Ev X k i L (vR (some c) :: st) σ Q := by
  refine e_nx hcd hc ?_ g
  show (hObj (hp σ) c ci).bind _ = _
  rw [hp_obj hS]
  show (match (fs.mapIdx fun j o => fval σ c j o)[j]? with | some v => _ | none => _) = _
  rw [fld_at hj]
  rfl
theorem r_putI {bp ln ix ci j t c : Nat} {z x : Int} {ar : List Nat} {fs : List (Option Nat)} (hcd : cds k = cdl) (hc : cdl[i]? = some (bp, .putfield ix, ln, ci :: j :: t :: ar, z)) (hS : SHs[c]? = some (0, ci, fs)) (hj : fs[j]? = some none) (ht : fitF t (vI x) = true) (g : Ev X k (i + 1) L st (up2 σ.1 c j x, σ.2) Q) : Ev X k i L (vI x :: vR (some c) :: st) σ Q := by
  rw [up2_eq] at g
  refine e_nx hcd hc ?_ g
  show (hObj (hp σ) c ci).bind _ = _
  rw [hp_obj hS]
  show (if j < (fs.mapIdx fun j o => fval σ c j o).length ∧ fitF t (vI x) = true then nx (i + 1) L st ((hp σ).set c (.inr (ci, (fs.mapIdx fun j o => fval σ c j o).set j (vI x)))) 0 0 else none) = _
  rw [if_pos ⟨by rw [List.length_mapIdx]; exact (List.getElem?_eq_some_iff.mp hj).1, ht⟩, hp_putF hS hj]
  rfl
theorem at2_in {n : Nat} {f : Nat → Int} {j : Int} (h : 0 ≤ j ∧ j < n) : at2 n f j = some (f j.toNat) := if_pos h
theorem r_ild {bp ln c n : Nat} {z j : Int} {ar : List Nat} {es : List (Option Nat)} (hcd : cds k = cdl) (hc : cdl[i]? = some (bp, .iaload, ln, ar, z)) (hS : SHs[c]? = some (1, n, es)) (hn : n ≤ 100000) (hj : 0 ≤ j ∧ j < n) (g : Ev X k (i + 1) L (vI (σ.2 c j.toNat) :: st) σ Q) : Ev X k i L (vI j :: vR (some c) :: st) σ Q := by
  refine e_nx hcd hc ?_ g
  show (xInt X (hp σ) c).bind _ = _
  unfold xInt
  rw [if_pos (SHs_lt hS), hp_int hS hn]
  show (at2 n (σ.2 c) j).bind _ = _
  rw [at2_in hj]
  rfl
theorem r_xld {bp ln c : Nat} {z j : Int} {ar : List Nat} (hcd : cds k = cdl) (hc : cdl[i]? = some (bp, .iaload, ln, ar, z)) (h1 : PK + 11 ≤ c) (h2 : c < PK + 15) (hj : 0 ≤ j ∧ j < (X (c - PK)).1) (g : Ev X k (i + 1) L (vI ((X (c - PK)).2 j.toNat) :: st) σ Q) : Ev X k i L (vI j :: vR (some c) :: st) σ Q := by
  refine e_nx hcd hc ?_ g
  show (xInt X (hp σ) c).bind _ = _
  unfold xInt
  rw [if_neg (by omega), if_neg (by omega), if_pos h2]
  show (at2 (X (c - PK)).1 (X (c - PK)).2 j).bind _ = _
  rw [at2_in hj]
  rfl
theorem r_xln {bp ln c : Nat} {z : Int} {ar : List Nat} (hcd : cds k = cdl) (hc : cdl[i]? = some (bp, .arraylength, ln, ar, z)) (h1 : PK + 11 ≤ c) (h2 : c < PK + 15) (g : Ev X k (i + 1) L (vI (X (c - PK)).1 :: st) σ Q) : Ev X k i L (vR (some c) :: st) σ Q := by
  refine e_nx hcd hc ?_ g
  show (xInt X (hp σ) c).bind _ = _
  unfold xInt
  rw [if_neg (by omega), if_neg (by omega), if_pos h2]
  rfl
theorem r_bld {bp ln c n : Nat} {z j : Int} {ar : List Nat} {es : List (Option Nat)} (hcd : cds k = cdl) (hc : cdl[i]? = some (bp, .baload, ln, ar, z)) (hS : SHs[c]? = some (2, n, es)) (hn : n ≤ 100000) (hj : 0 ≤ j ∧ j < n) (g : Ev X k (i + 1) L (vI (σ.2 c j.toNat) :: st) σ Q) : Ev X k i L (vI j :: vR (some c) :: st) σ Q := by
  refine e_nx hcd hc ?_ g
  show (hInt .boolean (hp σ) c).bind _ = _
  rw [hp_bool hS hn]
  show (at2 n (σ.2 c) j).bind _ = _
  rw [at2_in hj]
  rfl
theorem r_lld {bp ln c n : Nat} {z j : Int} {ar : List Nat} {es : List (Option Nat)} (hcd : cds k = cdl) (hc : cdl[i]? = some (bp, .laload, ln, ar, z)) (hS : SHs[c]? = some (3, n, es)) (hn : n ≤ 100000) (hj : 0 ≤ j ∧ j < n) (g : Ev X k (i + 1) L (vL (σ.2 c j.toNat) :: st) σ Q) : Ev X k i L (vI j :: vR (some c) :: st) σ Q := by
  refine e_nx hcd hc ?_ g
  show (hLong (hp σ) c).bind _ = _
  rw [hp_long hS hn]
  show (at2 n (σ.2 c) j).bind _ = _
  rw [at2_in hj]
  rfl
theorem r_ald {bp ln c ci q : Nat} {z j : Int} {ar : List Nat} {es : List (Option Nat)} (hcd : cds k = cdl) (hc : cdl[i]? = some (bp, .aaload, ln, ci :: ar, z)) (hS : SHs[c]? = some (4, ci, es)) (hn : es.length ≤ 100000) (hj : 0 ≤ j ∧ j < es.length) (hq : es[j.toNat]? = some (some q)) (g : Ev X k (i + 1) L (vR (some q) :: st) σ Q) : Ev X k i L (vI j :: vR (some c) :: st) σ Q := by
  refine e_nx hcd hc ?_ g
  show (hRef (hp σ) c).bind _ = _
  rw [hp_ref hS hn]
  show (if 0 ≤ j ∧ j < es.length ∧ FieldType.object (vC ci).1 = FieldType.object (vC ci).1 then nx (i + 1) L (vR ((es[j.toNat]?).bind id) :: st) (hp σ) 0 0 else none) = _
  rw [if_pos ⟨hj.1, hj.2, rfl⟩, hq]
  rfl
theorem r_ist {bp ln c n : Nat} {z j x : Int} {ar : List Nat} {es : List (Option Nat)} (hcd : cds k = cdl) (hc : cdl[i]? = some (bp, .iastore, ln, ar, z)) (hS : SHs[c]? = some (1, n, es)) (hn : n ≤ 100000) (hj : 0 ≤ j ∧ j < n) (g : Ev X k (i + 1) L st (σ.1, up2 σ.2 c j.toNat x) Q) : Ev X k i L (vI x :: vI j :: vR (some c) :: st) σ Q := by
  rw [up2_eq] at g
  refine e_nx hcd hc ?_ g
  show (hInt .int (hp σ) c).bind _ = _
  rw [hp_int hS hn]
  show (if 0 ≤ j ∧ j < n then nx (i + 1) L st ((hp σ).set c (.inl (.int, n, .inl (up (σ.2 c) j.toNat x)))) 0 0 else none) = _
  rw [if_pos hj, ← hp_putA (σ := σ) (g := up (σ.2 c) j.toNat x) hS]
  simp [hcell, up_same, nx]
theorem r_bst {bp ln c n : Nat} {z j x : Int} {ar : List Nat} {es : List (Option Nat)} (hcd : cds k = cdl) (hc : cdl[i]? = some (bp, .bastore, ln, ar, z)) (hS : SHs[c]? = some (2, n, es)) (hn : n ≤ 100000) (hj : 0 ≤ j ∧ j < n) (hx : x = 0 ∨ x = 1) (g : Ev X k (i + 1) L st (σ.1, up2 σ.2 c j.toNat x) Q) : Ev X k i L (vI x :: vI j :: vR (some c) :: st) σ Q := by
  rw [up2_eq] at g
  refine e_nx hcd hc ?_ g
  show (hInt .boolean (hp σ) c).bind _ = _
  rw [hp_bool hS hn]
  show (if 0 ≤ j ∧ j < n ∧ (x = 0 ∨ x = 1) then nx (i + 1) L st ((hp σ).set c (.inl (.boolean, n, .inl (up (σ.2 c) j.toNat x)))) 0 0 else none) = _
  rw [if_pos ⟨hj.1, hj.2, hx⟩, ← hp_putA (σ := σ) (g := up (σ.2 c) j.toNat x) hS]
  simp [hcell, up_same, nx]
theorem r_lst {bp ln c n : Nat} {z j x : Int} {ar : List Nat} {es : List (Option Nat)} (hcd : cds k = cdl) (hc : cdl[i]? = some (bp, .lastore, ln, ar, z)) (hS : SHs[c]? = some (3, n, es)) (hn : n ≤ 100000) (hj : 0 ≤ j ∧ j < n) (g : Ev X k (i + 1) L st (σ.1, up2 σ.2 c j.toNat x) Q) : Ev X k i L (vL x :: vI j :: vR (some c) :: st) σ Q := by
  rw [up2_eq] at g
  refine e_nx hcd hc ?_ g
  show (hLong (hp σ) c).bind _ = _
  rw [hp_long hS hn]
  show (if 0 ≤ j ∧ j < n then nx (i + 1) L st ((hp σ).set c (.inl (.long, n, .inr (.inl (up (σ.2 c) j.toNat x))))) 0 0 else none) = _
  rw [if_pos hj, ← hp_putA (σ := σ) (g := up (σ.2 c) j.toNat x) hS]
  simp [hcell, up_same, nx]
theorem r_cpy {bp ln ix s d n m : Nat} {z sp dp w : Int} {ar : List Nat} {es fs : List (Option Nat)} (hcd : cds k = cdl) (hc : cdl[i]? = some (bp, .invokestatic ix, ln, 901 :: ar, z)) (hS : SHs[s]? = some (1, n, es)) (hn : n ≤ 100000) (hD : SHs[d]? = some (1, m, fs)) (hm : m ≤ 100000) (h1 : 0 ≤ sp ∧ 0 ≤ dp ∧ 0 ≤ w ∧ sp + w ≤ n ∧ dp + w ≤ m) (h8 : catS st ≤ 8) (g : Ev X k (i + 1) L st (σ.1, upc σ.2 s d sp.toNat dp.toNat w.toNat) Q) : Ev X k i L (vI w :: vI dp :: vR (some d) :: vI sp :: vR (some s) :: st) σ Q := by
  refine e_nx hcd hc ?_ g
  show (hInt .int (hp σ) s).bind _ = _
  rw [hp_int hS hn]
  show (hInt .int (hp σ) d).bind _ = _
  rw [hp_int hD hm]
  show (if 0 ≤ sp ∧ 0 ≤ dp ∧ 0 ≤ w ∧ sp + w ≤ n ∧ dp + w ≤ m ∧ n ≤ 100000 ∧ m ≤ 100000 ∧ catS st ≤ 8 then nx (i + 1) L st ((hp σ).set d (.inl (.int, m, .inl (cpy (σ.2 s) (σ.2 d) sp.toNat dp.toNat w.toNat)))) 0 0 else none) = some (.inl (i + 1, L, st, hp (σ.1, up σ.2 d (cpy (σ.2 s) (σ.2 d) sp.toNat dp.toNat w.toNat)), 0, 0))
  rw [if_pos ⟨h1.1, h1.2.1, h1.2.2.1, h1.2.2.2.1, h1.2.2.2.2, hn, hm, h8⟩, ← hp_putA (σ := σ) (g := cpy (σ.2 s) (σ.2 d) sp.toNat dp.toNat w.toNat) hD]
  simp [hcell, up_same, nx]
theorem r_div {bp ln : Nat} {z x y : Int} {ar : List Nat} (hcd : cds k = cdl) (hc : cdl[i]? = some (bp, .idiv, ln, ar, z)) (hy : InR y) (h0 : y ≠ 0) (g : Ev X k (i + 1) L (vI (iDiv x y) :: st) σ Q) : Ev X k i L (vI y :: vI x :: st) σ Q := by
  refine e_nx hcd hc ?_ g
  have : ¬ Int32.ofInt y = 0 := fun q => h0 ((o_eq hy (by omega)).mp (q.trans rfl))
  show (Option.map _ (if Int32.ofInt y = 0 then none else some (vI (iDiv x y)))).bind _ = _
  rw [if_neg this]
  rfl
theorem r_rem {bp ln : Nat} {z x y : Int} {ar : List Nat} (hcd : cds k = cdl) (hc : cdl[i]? = some (bp, .irem, ln, ar, z)) (hy : InR y) (h0 : y ≠ 0) (g : Ev X k (i + 1) L (vI (iRem x y) :: st) σ Q) : Ev X k i L (vI y :: vI x :: st) σ Q := by
  refine e_nx hcd hc ?_ g
  have : ¬ Int32.ofInt y = 0 := fun q => h0 ((o_eq hy (by omega)).mp (q.trans rfl))
  show (Option.map _ (if Int32.ofInt y = 0 then none else some (vI (iRem x y)))).bind _ = _
  rw [if_neg this]
  rfl
theorem r_max {bp ln ix : Nat} {z x y : Int} {ar : List Nat} (hcd : cds k = cdl) (hc : cdl[i]? = some (bp, .invokestatic ix, ln, 904 :: ar, z)) (hx : InR x) (hy : InR y) (h8 : catS st ≤ 8) (g : Ev X k (i + 1) L (vI (max x y) :: st) σ Q) : Ev X k i L (vI y :: vI x :: st) σ Q := by
  refine e_nx hcd hc ?_ g
  show (if catS st ≤ 8 then nx (i + 1) L (vI (if Int32.ofInt x < Int32.ofInt y then y else x) :: st) (hp σ) 0 0 else none) = _
  rw [if_pos h8, show (if Int32.ofInt x < Int32.ofInt y then y else x) = max x y from by simp only [o_lt hx hy]; omega]
  rfl
theorem r_min {bp ln ix : Nat} {z x y : Int} {ar : List Nat} (hcd : cds k = cdl) (hc : cdl[i]? = some (bp, .invokestatic ix, ln, 905 :: ar, z)) (hx : InR x) (hy : InR y) (h8 : catS st ≤ 8) (g : Ev X k (i + 1) L (vI (min x y) :: st) σ Q) : Ev X k i L (vI y :: vI x :: st) σ Q := by
  refine e_nx hcd hc ?_ g
  show (if catS st ≤ 8 then nx (i + 1) L (vI (if Int32.ofInt y < Int32.ofInt x then y else x) :: st) (hp σ) 0 0 else none) = _
  rw [if_pos h8, show (if Int32.ofInt y < Int32.ofInt x then y else x) = min x y from by simp only [o_lt hy hx]; omega]
  rfl
theorem r_abs {bp ln ix : Nat} {z x : Int} {ar : List Nat} (hcd : cds k = cdl) (hc : cdl[i]? = some (bp, .invokestatic ix, ln, 906 :: ar, z)) (hx : InR x) (h8 : catS st ≤ 8) (g : Ev X k (i + 1) L (vI (if x < 0 then -x else x) :: st) σ Q) : Ev X k i L (vI x :: st) σ Q := by
  refine e_nx hcd hc ?_ g
  show (if catS st ≤ 8 then nx (i + 1) L (vI (if Int32.ofInt x < 0 then -x else x) :: st) (hp σ) 0 0 else none) = _
  rw [if_pos h8, show (if Int32.ofInt x < 0 then -x else x) = (if x < 0 then -x else x) from by simp only [show Int32.ofInt x < 0 ↔ x < 0 from o_lt hx (show InR 0 by omega)]]
  rfl
theorem r_stl {bp ln ix c : Nat} {z : Int} {ar : List Nat} (hcd : cds k = cdl) (hc : cdl[i]? = some (bp, .invokevirtual ix, ln, 902 :: ar, z)) (h1 : PK ≤ c) (h2 : c < PK + 11) (h8 : catS st ≤ 8) (g : Ev X k (i + 1) L (vI (X (c - PK)).1 :: st) σ Q) : Ev X k i L (vR (some c) :: st) σ Q := by
  refine e_nx hcd hc ?_ g
  show (if PK ≤ c ∧ c < PK + 11 ∧ catS st ≤ 8 then _ else none) = _
  rw [if_pos ⟨h1, h2, h8⟩]
  rfl
theorem r_stc {bp ln ix c : Nat} {z j : Int} {ar : List Nat} (hcd : cds k = cdl) (hc : cdl[i]? = some (bp, .invokevirtual ix, ln, 903 :: ar, z)) (h1 : PK ≤ c) (h2 : c < PK + 11) (h8 : catS st ≤ 8) (hj : 0 ≤ j ∧ j < (X (c - PK)).1) (g : Ev X k (i + 1) L (vI ((X (c - PK)).2 j.toNat) :: st) σ Q) : Ev X k i L (vI j :: vR (some c) :: st) σ Q := by
  refine e_nx hcd hc ?_ g
  show (if PK ≤ c ∧ c < PK + 11 ∧ catS st ≤ 8 then (at2 (X (c - PK)).1 (X (c - PK)).2 j).bind _ else none) = _
  rw [if_pos ⟨h1, h2, h8⟩, at2_in hj]
  rfl
/-- a virtual call: the arguments lie ahead of the receiver, last on top -/
theorem r_cv {bp ln ix k2 n ci c : Nat} {z : Int} {ar : List Nat} {fs : List (Option Nat)} {as r : List PV} (hcd : cds k = cdl) (hc : cdl[i]? = some (bp, .invokevirtual ix, ln, k2 :: n :: ci :: ar, z)) (hk : k2 < 900) (hS : SHs[c]? = some (0, ci, fs)) (hd : st.drop n = vR (some c) :: r) (ha : (st.take n).reverse = as) (h8 : catS r ≤ 8) (g : Cl X k2 (vR (some c) :: as) σ (fun v τ => Ev X k (i + 1) L (v.toList ++ r) τ Q)) : Ev X k i L st σ Q := by
  refine e_call hcd hc ?_ g
  subst ha
  have h2 : ¬ k2 = 902 := by omega
  have h3 : ¬ k2 = 903 := by omega
  show (if k2 = 902 then _ else if k2 = 903 then _ else match st.drop n with | .inr (.inr (some c)) :: r => (if (hObj (hp σ) c ci).isSome = true ∧ catS r ≤ 8 then _ else none) | _ => none) = _
  rw [if_neg h2, if_neg h3, hd]
  show (if (hObj (hp σ) c ci).isSome = true ∧ catS r ≤ 8 then _ else none) = _
  rw [if_pos ⟨by rw [hp_obj hS]; rfl, h8⟩]
  rfl
theorem r_cs {bp ln ix k2 n : Nat} {z : Int} {ar : List Nat} {as r : List PV} (hcd : cds k = cdl) (hc : cdl[i]? = some (bp, .invokestatic ix, ln, k2 :: n :: ar, z)) (hk : k2 < 900) (hn : n ≤ st.length) (hd : st.drop n = r) (ha : (st.take n).reverse = as) (h8 : catS r ≤ 8) (g : Cl X k2 as σ (fun v τ => Ev X k (i + 1) L (v.toList ++ r) τ Q)) : Ev X k i L st σ Q := by
  refine e_call hcd hc ?_ g
  subst ha hd
  show (if k2 = 901 then _ else if k2 = 904 then _ else if k2 = 905 then _ else if k2 = 906 then _ else if n ≤ st.length ∧ catS (st.drop n) ≤ 8 then _ else none) = _
  rw [if_neg (by omega), if_neg (by omega), if_neg (by omega), if_neg (by omega), if_pos ⟨hn, h8⟩]
  rfl
theorem r_iret {bp ln : Nat} {z x : Int} (hcd : cds k = cdl) (hc : cdl[i]? = some (bp, .ireturn, ln, [0, 0, 0], z)) (q : Q (some (vI x)) σ) : Ev X k i L [vI x] σ Q := e_ret hcd hc rfl q
theorem r_zret {bp ln : Nat} {z x : Int} (hcd : cds k = cdl) (hc : cdl[i]? = some (bp, .ireturn, ln, [1, 0, 0], z)) (hx : x = 0 ∨ x = 1) (q : Q (some (vI x)) σ) : Ev X k i L [vI x] σ Q := by
  refine e_ret hcd hc ?_ q
  exact if_pos ⟨rfl, rfl, Or.inr hx⟩
theorem r_lret {bp ln : Nat} {z x : Int} {ar : List Nat} (hcd : cds k = cdl) (hc : cdl[i]? = some (bp, .lreturn, ln, [ord ar 0, 0, 0], z)) (q : Q (some (vL x)) σ) : Ev X k i L [vL x] σ Q := e_ret hcd hc rfl q
theorem r_vret {bp ln r : Nat} {z : Int} (hcd : cds k = cdl) (hc : cdl[i]? = some (bp, .return_, ln, [r, 0, 0], z)) (q : Q none σ) : Ev X k i L [] σ Q := e_ret hcd hc rfl q
/-- locals that nobody reads again -/
def lleq (A B : PL) : Prop := A.length = B.length ∧ ∀ (j : Nat) (v : PV), A[j]? = some (some v) → B[j]? = some (some v)
theorem lleq.get {A B : PL} (h : lleq A B) {j : Nat} {v : PV} (q : lget A j = some v) : lget B j = some v := by
  unfold lget at q
  split at q
  · next w hw => cases q; unfold lget; rw [h.2 j _ hw]
  · cases q
theorem lput_at {L : PL} {i j : Nat} {v w : PV} (h : (lput L i v)[j]? = some (some w)) : (j = i ∧ w = v) ∨ (j ≠ i ∧ L[j]? = some (some w) ∧ ¬ (j + 1 = i ∧ isLg L[j]? = true)) := by
  unfold lput at h
  rw [List.getElem?_set] at h
  split at h
  · next e =>
    split at h
    · cases h; exact Or.inl ⟨e.symm, rfl⟩
    · cases h
  · next e => exact Or.inr ⟨fun q => e q.symm, lclr_at h⟩
theorem lput_of {L : PL} {i j : Nat} {v w : PV} (hi : i < L.length) (h : (j = i ∧ w = v) ∨ (j ≠ i ∧ L[j]? = some (some w) ∧ ¬ (j + 1 = i ∧ isLg L[j]? = true))) : (lput L i v)[j]? = some (some w) := by
  unfold lput
  rw [List.getElem?_set]
  rcases h with ⟨rfl, rfl⟩ | ⟨h1, h2, h3⟩
  · rw [if_pos rfl, lclr_len, if_pos hi]
  · rw [if_neg (fun q => h1 q.symm)]
    cases i with
    | zero => exact h2
    | succ m =>
      simp only [lclr]
      split
      · next hl =>
        rw [List.getElem?_set]
        split
        · next e => subst e; exact absurd ⟨rfl, hl⟩ h3
        · exact h2
      · exact h2
theorem lleq.put {A B : PL} (h : lleq A B) {i : Nat} (v : PV) (hi : i < A.length) : lleq (lput A i v) (lput B i v) := by
  refine ⟨by unfold lput; rw [List.length_set, List.length_set, lclr_len, lclr_len]; exact h.1, fun j w q => ?_⟩
  refine lput_of (by rw [← h.1]; exact hi) ?_
  rcases lput_at q with q | ⟨q1, q2, q3⟩
  · exact Or.inl q
  · have q4 := h.2 j w q2
    refine Or.inr ⟨q1, q4, fun e => q3 ⟨e.1, ?_⟩⟩
    rw [q2]
    rw [q4] at e
    exact e.2
theorem lput2_eq {L : PL} {i : Nat} {v : PV} : lput2 L i v = (lput L i v).set (i + 1) none := rfl
theorem lleq.put2 {A B : PL} (h : lleq A B) {i : Nat} (v : PV) (hi : i < A.length) : lleq (lput2 A i v) (lput2 B i v) := by
  have h1 := h.put v hi
  refine ⟨by rw [lput2_eq, lput2_eq, List.length_set, List.length_set]; exact h1.1, fun j w q => ?_⟩
  rw [lput2_eq, List.getElem?_set] at q ⊢
  split at q
  · split at q <;> cases q
  · next e => rw [if_neg e]; exact h1.2 j w q
def fg (ks : List Nat) (B : PL) : PL := ks.foldl (fun B k => B.set k none) B
theorem fg_le : ∀ (ks : List Nat) (B : PL), lleq (fg ks B) B
  | [], B => ⟨rfl, fun _ _ h => h⟩
  | k :: ks, B => by
    obtain ⟨h1, h2⟩ := fg_le ks (B.set k none)
    refine ⟨by show (fg ks (B.set k none)).length = _; rw [h1, List.length_set], fun j v h => ?_⟩
    have h3 := h2 j v h
    rw [List.getElem?_set] at h3
    split at h3
    · split at h3 <;> cases h3
    · exact h3
def setL (L : PL) (o : PO) : PO := match o with
  | .inl (i, _, st, h, cs, sl) => .inl (i, L, st, h, cs, sl)
  | .inr w => .inr w
def isLoc (ins : Instr) : Bool := match ins with
  | .iload_n _ | .iload _ | .lload_n _ | .lload _ | .aload_n _ | .aload _ | .istore_n _ | .istore _ | .lstore_n _ | .lstore _ | .astore_n _ | .astore _ | .iinc _ _ => true
  | _ => false
theorem bind_map {α β γ : Type} {o : Option α} {f : α → Option β} {g : α → Option γ} {m : β → γ} (h : ∀ a, g a = (f a).map m) : o.bind g = (o.bind f).map m := by
  cases o with
  | none => rfl
  | some a => exact h a
set_option maxHeartbeats 4000000 in
theorem stp_L {X : PX} {bp ln : Nat} {ins : Instr} {ar : List Nat} {z : Int} (hloc : isLoc ins = false) (i : Nat) (L : PL) (st : List PV) (h : PHp) (cs sl : Nat) : stp X (bp, ins, ln, ar, z) (i, L, st, h, cs, sl) = (stp X (bp, ins, ln, ar, z) (i, [], st, h, cs, sl)).map (setL L) := by
  cases ins <;> first
    | (cases hloc; done)
    | rfl
    | (dsimp only [stp]; exact bind_map (fun _ => rfl))
    | (dsimp only [stp]; split <;> first | rfl | exact bind_map (fun _ => rfl) | (split <;> first | rfl | (split <;> first | rfl | (split <;> rfl))))
    | (dsimp only [stp]; split <;> first | rfl | (refine bind_map (fun _ => ?_); first | rfl | (split <;> rfl) | exact bind_map (fun _ => rfl) | (refine bind_map (fun _ => ?_); split <;> rfl)))
    | (dsimp only [stp]; repeat' split
       all_goals first | rfl | exact bind_map (fun _ => rfl) | (refine bind_map (fun _ => ?_); first | rfl | (split <;> rfl) | (refine bind_map (fun _ => ?_); first | rfl | (split <;> rfl))))
theorem ld_fg {A B : PL} (h : lleq A B) {kd j : Nat} {f : PV → Option PO} {r : PO} (q : (ld A kd j).bind f = some r) : ∃ v, (ld A kd j) = some v ∧ ld B kd j = some v ∧ f v = some r := by
  obtain ⟨v, h1, h2⟩ := Option.bind_eq_some_iff.mp q
  refine ⟨v, h1, ?_, h2⟩
  cases hg : lget A j with
  | none => unfold ld at h1; rw [hg] at h1; cases h1
  | some w =>
    unfold ld at h1 ⊢
    rw [hg] at h1
    rw [h.get hg]
    exact h1
theorem stp_fg {X : PX} {en : PEn} {A B : PL} (h : lleq A B) {i : Nat} {st : List PV} {hh : PHp} {cs sl : Nat} {o : PO} (q : stp X en (i, A, st, hh, cs, sl) = some o) : (∃ w, o = .inr w ∧ stp X en (i, B, st, hh, cs, sl) = some (.inr w)) ∨ ∃ i2 A2 B2 st2 h2 cs2 sl2, o = .inl (i2, A2, st2, h2, cs2, sl2) ∧ stp X en (i, B, st, hh, cs, sl) = some (.inl (i2, B2, st2, h2, cs2, sl2)) ∧ lleq A2 B2 := by
  obtain ⟨bp, ins, ln, ar, z⟩ := en
  by_cases hl : isLoc ins = false
  · rw [stp_L hl] at q
    rw [stp_L hl]
    cases hs : stp X (bp, ins, ln, ar, z) (i, [], st, hh, cs, sl) with
    | none => rw [hs] at q; cases q
    | some p =>
      rw [hs] at q
      match p with
      | .inr w => cases q; exact Or.inl ⟨w, rfl, rfl⟩
      | .inl (i2, _, st2, h2, cs2, sl2) => cases q; exact Or.inr ⟨i2, A, B, st2, h2, cs2, sl2, rfl, rfl, h⟩
  · right
    cases ins <;> first | (exact absurd rfl hl) | skip
    case iload_n j => obtain ⟨v, h1, h2, h3⟩ := ld_fg h q; cases h3; exact ⟨_, _, B, _, _, _, _, rfl, by show (ld B 0 j).bind _ = _; rw [h2]; rfl, h⟩
    case iload j => obtain ⟨v, h1, h2, h3⟩ := ld_fg h q; cases h3; exact ⟨_, _, B, _, _, _, _, rfl, by show (ld B 0 j).bind _ = _; rw [h2]; rfl, h⟩
    case lload_n j => obtain ⟨v, h1, h2, h3⟩ := ld_fg h q; cases h3; exact ⟨_, _, B, _, _, _, _, rfl, by show (ld B 1 j).bind _ = _; rw [h2]; rfl, h⟩
    case lload j => obtain ⟨v, h1, h2, h3⟩ := ld_fg h q; cases h3; exact ⟨_, _, B, _, _, _, _, rfl, by show (ld B 1 j).bind _ = _; rw [h2]; rfl, h⟩
    case aload_n j => obtain ⟨v, h1, h2, h3⟩ := ld_fg h q; cases h3; exact ⟨_, _, B, _, _, _, _, rfl, by show (ld B 2 j).bind _ = _; rw [h2]; rfl, h⟩
    case aload j => obtain ⟨v, h1, h2, h3⟩ := ld_fg h q; cases h3; exact ⟨_, _, B, _, _, _, _, rfl, by show (ld B 2 j).bind _ = _; rw [h2]; rfl, h⟩
    case iinc j n =>
      dsimp only [stp] at q
      split at q
      · next x hx =>
        cases q
        have hj : j < A.length := by
          unfold lget at hx
          split at hx
          · next w hw => exact (List.getElem?_eq_some_iff.mp hw).1
          · cases hx
        exact ⟨_, _, lput B j (vI (x + n)), _, _, _, _, rfl, by dsimp only [stp]; rw [h.get hx]; rfl, h.put _ hj⟩
      · cases q
    case istore_n j =>
      dsimp only [stp] at q
      split at q
      · split at q
        · next x r hj => cases q; exact ⟨_, _, lput B j (vI x), _, _, _, _, rfl, by dsimp only [stp]; rw [if_pos (by rw [← h.1]; exact hj)]; rfl, h.put _ hj⟩
        · cases q
      · cases q
    case istore j =>
      dsimp only [stp] at q
      split at q
      · split at q
        · next x r hj => cases q; exact ⟨_, _, lput B j (vI x), _, _, _, _, rfl, by dsimp only [stp]; rw [if_pos (by rw [← h.1]; exact hj)]; rfl, h.put _ hj⟩
        · cases q
      · cases q
    case astore_n j =>
      dsimp only [stp] at q
      split at q
      · split at q
        · next x r hj => cases q; exact ⟨_, _, lput B j (vR (some x)), _, _, _, _, rfl, by dsimp only [stp]; rw [if_pos (by rw [← h.1]; exact hj)]; rfl, h.put _ hj⟩
        · cases q
      · cases q
    case astore j =>
      dsimp only [stp] at q
      split at q
      · split at q
        · next x r hj => cases q; exact ⟨_, _, lput B j (vR (some x)), _, _, _, _, rfl, by dsimp only [stp]; rw [if_pos (by rw [← h.1]; exact hj)]; rfl, h.put _ hj⟩
        · cases q
      · cases q
    case lstore_n j =>
      dsimp only [stp] at q
      split at q
      · split at q
        · next x r hj => cases q; exact ⟨_, _, lput2 B j (vL x), _, _, _, _, rfl, by dsimp only [stp]; rw [if_pos (by rw [← h.1]; exact hj)]; rfl, h.put2 _ (by omega)⟩
        · cases q
      · cases q
    case lstore j =>
      dsimp only [stp] at q
      split at q
      · split at q
        · next x r hj => cases q; exact ⟨_, _, lput2 B j (vL x), _, _, _, _, rfl, by dsimp only [stp]; rw [if_pos (by rw [← h.1]; exact hj)]; rfl, h.put2 _ (by omega)⟩
        · cases q
      · cases q
theorem run_fg {X : PX} : ∀ (n k i : Nat) (A B : PL) (st : List PV) (h : PHp) (cs sl : Nat) (r : Option PV × PHp), lleq A B → run X cds mi n k (i, A, st, h, cs, sl) = some r → run X cds mi n k (i, B, st, h, cs, sl) = some r := by
  intro n
  induction n with
  | zero => intro k i A B st h cs sl r hl q; simp [run] at q
  | succ n ih =>
    intro k i A B st h cs sl r hl q
    rw [run] at q ⊢
    dsimp only at q ⊢
    split at q
    · cases q
    · next e he =>
      try rw [he]
      try dsimp only at q ⊢
      cases hs : stp X e (i, A, st, h, cs, sl) with
      | none => rw [hs] at q; cases q
      | some o =>
        rw [hs] at q
        rcases stp_fg hl hs with ⟨w, rfl, h1⟩ | ⟨i2, A2, B2, st2, h2, cs2, sl2, rfl, h1, h3⟩
        · rw [h1]
          match w with
          | .inl v => exact q
          | .inr (k2, as, r2) =>
            dsimp only at q ⊢
            split at q
            · next hb =>
              rw [if_pos hb]
              split at q
              · cases q
              · next v h4 hr =>
                try rw [hr]
                exact ih _ _ _ _ _ _ _ _ _ hl q
            · cases q
        · rw [h1]
          dsimp only at q ⊢
          split at q
          · next hb => rw [if_pos hb]; exact ih _ _ _ _ _ _ _ _ _ h3 q
          · cases q
theorem e_fg (ks : List Nat) (g : Ev X k i (fg ks L) st σ Q) : Ev X k i L st σ Q := by
  obtain ⟨n, v, τ, h1, h2⟩ := g
  exact ⟨n, v, τ, run_fg n k i _ _ st _ 0 0 _ (fg_le ks L) h1, h2⟩
theorem tab_def {ar : List Nat} {lo hi x : Int} (h : lo ≤ x → x ≤ hi → ord ar (1 + (x - lo).toNat) = ord ar 0) : (if x < lo ∨ hi < x then ord ar 0 else ord ar (1 + (x - lo).toNat)) = ord ar 0 := by
  split
  · rfl
  · exact h (by omega) (by omega)
theorem fit1 {x : Int} (h : x = 0 ∨ x = 1) : fitF 1 (vI x) = true := by rcases h with rfl | rfl <;> rfl
theorem c_in {as : List PV} (h1 : (pargs as).length ≤ mL k) (h2 : mMc k = 0) (h3 : mMs k = 0) (g : Ev X k 0 (pent (mL k) as) [] σ Q) : Cl X k as σ Q := ⟨h1, h2, h3, g⟩
end RULES
end
