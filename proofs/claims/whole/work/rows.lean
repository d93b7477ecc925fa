section
-- ===== PART A: goes FIRST, ahead of the names: the tables' words, and 'selects' of the private methods out of them =====
/-- a private method of a class that the tables say can be made, by its rows of tables_1 -/
def lw_okq (q : MethodName × Nat) : Prop := (q.1.cls ≠ "java/lang/invoke/MethodHandle" ∧ q.1.cls ≠ "java/lang/invoke/VarHandle") ∧ Cond.instantiable q.1.cls q.2 ∈ tables_1 ∧ Cond.privateMethod q.1 ∈ tables_1 ∧ Cond.instanceMethod q.1 ∈ tables_1
theorem lw_p0 : lw_okq (⟨"NowhereMoney$Reader", "scan", "(LNowhereMoney$Tape;)V"⟩, 9) := ⟨⟨by decide +kernel, by decide +kernel⟩, List.mem_of_getElem? (i := 47) (by decide +kernel), List.mem_of_getElem? (i := 422) (by decide +kernel), List.mem_of_getElem? (i := 423) (by decide +kernel)⟩
theorem lw_p1 : lw_okq (⟨"NowhereMoney$Reader", "addWord", "(LNowhereMoney$Tape;II)V"⟩, 9) := ⟨⟨by decide +kernel, by decide +kernel⟩, List.mem_of_getElem? (i := 47) (by decide +kernel), List.mem_of_getElem? (i := 429) (by decide +kernel), List.mem_of_getElem? (i := 430) (by decide +kernel)⟩
theorem lw_p2 : lw_okq (⟨"NowhereMoney$Reader", "addToken", "(III)V"⟩, 9) := ⟨⟨by decide +kernel, by decide +kernel⟩, List.mem_of_getElem? (i := 47) (by decide +kernel), List.mem_of_getElem? (i := 510) (by decide +kernel), List.mem_of_getElem? (i := 511) (by decide +kernel)⟩
theorem lw_p3 : lw_okq (⟨"NowhereMoney$Reader", "addNumber", "(LNowhereMoney$Tape;II)V"⟩, 9) := ⟨⟨by decide +kernel, by decide +kernel⟩, List.mem_of_getElem? (i := 47) (by decide +kernel), List.mem_of_getElem? (i := 517) (by decide +kernel), List.mem_of_getElem? (i := 518) (by decide +kernel)⟩
theorem lw_p4 : lw_okq (⟨"NowhereMoney$Reader", "kind", "()I"⟩, 9) := ⟨⟨by decide +kernel, by decide +kernel⟩, List.mem_of_getElem? (i := 47) (by decide +kernel), List.mem_of_getElem? (i := 585) (by decide +kernel), List.mem_of_getElem? (i := 586) (by decide +kernel)⟩
theorem lw_p5 : lw_okq (⟨"NowhereMoney$Reader", "isLineWord", "(I)Z"⟩, 9) := ⟨⟨by decide +kernel, by decide +kernel⟩, List.mem_of_getElem? (i := 47) (by decide +kernel), List.mem_of_getElem? (i := 589) (by decide +kernel), List.mem_of_getElem? (i := 590) (by decide +kernel)⟩
theorem lw_p6 : lw_okq (⟨"NowhereMoney$Reader", "fails", "(I)Z"⟩, 9) := ⟨⟨by decide +kernel, by decide +kernel⟩, List.mem_of_getElem? (i := 47) (by decide +kernel), List.mem_of_getElem? (i := 593) (by decide +kernel), List.mem_of_getElem? (i := 594) (by decide +kernel)⟩
theorem lw_p7 : lw_okq (⟨"NowhereMoney$Reader", "sum", "()Z"⟩, 9) := ⟨⟨by decide +kernel, by decide +kernel⟩, List.mem_of_getElem? (i := 47) (by decide +kernel), List.mem_of_getElem? (i := 601) (by decide +kernel), List.mem_of_getElem? (i := 602) (by decide +kernel)⟩
theorem lw_p8 : lw_okq (⟨"NowhereMoney$Reader", "product", "()Z"⟩, 9) := ⟨⟨by decide +kernel, by decide +kernel⟩, List.mem_of_getElem? (i := 47) (by decide +kernel), List.mem_of_getElem? (i := 605) (by decide +kernel), List.mem_of_getElem? (i := 606) (by decide +kernel)⟩
theorem lw_p9 : lw_okq (⟨"NowhereMoney$Reader", "either", "(I)Z"⟩, 9) := ⟨⟨by decide +kernel, by decide +kernel⟩, List.mem_of_getElem? (i := 47) (by decide +kernel), List.mem_of_getElem? (i := 617) (by decide +kernel), List.mem_of_getElem? (i := 618) (by decide +kernel)⟩
theorem lw_p10 : lw_okq (⟨"NowhereMoney$Reader", "both", "(I)Z"⟩, 9) := ⟨⟨by decide +kernel, by decide +kernel⟩, List.mem_of_getElem? (i := 47) (by decide +kernel), List.mem_of_getElem? (i := 621) (by decide +kernel), List.mem_of_getElem? (i := 622) (by decide +kernel)⟩
theorem lw_p11 : lw_okq (⟨"NowhereMoney$Reader", "single", "(I)Z"⟩, 9) := ⟨⟨by decide +kernel, by decide +kernel⟩, List.mem_of_getElem? (i := 47) (by decide +kernel), List.mem_of_getElem? (i := 625) (by decide +kernel), List.mem_of_getElem? (i := 626) (by decide +kernel)⟩
theorem lw_p12 : lw_okq (⟨"NowhereMoney$Script", "isSo", "(I[I)Z"⟩, 8) := ⟨⟨by decide +kernel, by decide +kernel⟩, List.mem_of_getElem? (i := 53) (by decide +kernel), List.mem_of_getElem? (i := 691) (by decide +kernel), List.mem_of_getElem? (i := 692) (by decide +kernel)⟩
theorem lw_p13 : lw_okq (⟨"NowhereMoney$Script", "run", "(II[I)I"⟩, 8) := ⟨⟨by decide +kernel, by decide +kernel⟩, List.mem_of_getElem? (i := 53) (by decide +kernel), List.mem_of_getElem? (i := 695) (by decide +kernel), List.mem_of_getElem? (i := 696) (by decide +kernel)⟩
theorem lw_p14 : lw_okq (⟨"NowhereMoney$Ledger", "put", "(III)V"⟩, 10) := ⟨⟨by decide +kernel, by decide +kernel⟩, List.mem_of_getElem? (i := 175) (by decide +kernel), List.mem_of_getElem? (i := 730) (by decide +kernel), List.mem_of_getElem? (i := 731) (by decide +kernel)⟩
theorem lw_p15 : lw_okq (⟨"NowhereMoney$Ledger", "rideTrains", "()V"⟩, 10) := ⟨⟨by decide +kernel, by decide +kernel⟩, List.mem_of_getElem? (i := 175) (by decide +kernel), List.mem_of_getElem? (i := 743) (by decide +kernel), List.mem_of_getElem? (i := 744) (by decide +kernel)⟩
def lw_privs_1 : List (MethodName × Nat) := [(⟨"NowhereMoney$Reader", "scan", "(LNowhereMoney$Tape;)V"⟩, 9), (⟨"NowhereMoney$Reader", "addWord", "(LNowhereMoney$Tape;II)V"⟩, 9), (⟨"NowhereMoney$Reader", "addToken", "(III)V"⟩, 9), (⟨"NowhereMoney$Reader", "addNumber", "(LNowhereMoney$Tape;II)V"⟩, 9), (⟨"NowhereMoney$Reader", "kind", "()I"⟩, 9), (⟨"NowhereMoney$Reader", "isLineWord", "(I)Z"⟩, 9), (⟨"NowhereMoney$Reader", "fails", "(I)Z"⟩, 9), (⟨"NowhereMoney$Reader", "sum", "()Z"⟩, 9), (⟨"NowhereMoney$Reader", "product", "()Z"⟩, 9), (⟨"NowhereMoney$Reader", "either", "(I)Z"⟩, 9), (⟨"NowhereMoney$Reader", "both", "(I)Z"⟩, 9), (⟨"NowhereMoney$Reader", "single", "(I)Z"⟩, 9), (⟨"NowhereMoney$Script", "isSo", "(I[I)Z"⟩, 8), (⟨"NowhereMoney$Script", "run", "(II[I)I"⟩, 8), (⟨"NowhereMoney$Ledger", "put", "(III)V"⟩, 10), (⟨"NowhereMoney$Ledger", "rideTrains", "()V"⟩, 10)]
theorem lw_r1 : ∀ q ∈ lw_privs_1, lw_okq q := List.forall_mem_cons.mpr ⟨lw_p0, List.forall_mem_cons.mpr ⟨lw_p1, List.forall_mem_cons.mpr ⟨lw_p2, List.forall_mem_cons.mpr ⟨lw_p3, List.forall_mem_cons.mpr ⟨lw_p4, List.forall_mem_cons.mpr ⟨lw_p5, List.forall_mem_cons.mpr ⟨lw_p6, List.forall_mem_cons.mpr ⟨lw_p7, List.forall_mem_cons.mpr ⟨lw_p8, List.forall_mem_cons.mpr ⟨lw_p9, List.forall_mem_cons.mpr ⟨lw_p10, List.forall_mem_cons.mpr ⟨lw_p11, List.forall_mem_cons.mpr ⟨lw_p12, List.forall_mem_cons.mpr ⟨lw_p13, List.forall_mem_cons.mpr ⟨lw_p14, List.forall_mem_cons.mpr ⟨lw_p15, fun _ h => absurd h List.not_mem_nil⟩⟩⟩⟩⟩⟩⟩⟩⟩⟩⟩⟩⟩⟩⟩⟩
theorem lw_p16 : lw_okq (⟨"NowhereMoney$Ledger", "comeBack", "()V"⟩, 10) := ⟨⟨by decide +kernel, by decide +kernel⟩, List.mem_of_getElem? (i := 175) (by decide +kernel), List.mem_of_getElem? (i := 757) (by decide +kernel), List.mem_of_getElem? (i := 758) (by decide +kernel)⟩
theorem lw_p17 : lw_okq (⟨"NowhereMoney$Ledger", "listAsked", "(II)I"⟩, 10) := ⟨⟨by decide +kernel, by decide +kernel⟩, List.mem_of_getElem? (i := 175) (by decide +kernel), List.mem_of_getElem? (i := 761) (by decide +kernel), List.mem_of_getElem? (i := 762) (by decide +kernel)⟩
theorem lw_p18 : lw_okq (⟨"NowhereMoney$Ledger", "isAhead", "(III)Z"⟩, 10) := ⟨⟨by decide +kernel, by decide +kernel⟩, List.mem_of_getElem? (i := 175) (by decide +kernel), List.mem_of_getElem? (i := 765) (by decide +kernel), List.mem_of_getElem? (i := 766) (by decide +kernel)⟩
theorem lw_p19 : lw_okq (⟨"NowhereMoney$Ledger", "askFor", "(I)Z"⟩, 10) := ⟨⟨by decide +kernel, by decide +kernel⟩, List.mem_of_getElem? (i := 175) (by decide +kernel), List.mem_of_getElem? (i := 769) (by decide +kernel), List.mem_of_getElem? (i := 770) (by decide +kernel)⟩
theorem lw_p20 : lw_okq (⟨"NowhereMoney$Watch", "isAmong", "(III)Z"⟩, 2) := ⟨⟨by decide +kernel, by decide +kernel⟩, List.mem_of_getElem? (i := 270) (by decide +kernel), List.mem_of_getElem? (i := 799) (by decide +kernel), List.mem_of_getElem? (i := 800) (by decide +kernel)⟩
theorem lw_p21 : lw_okq (⟨"NowhereMoney$Watch", "hasMatch", "(III)Z"⟩, 2) := ⟨⟨by decide +kernel, by decide +kernel⟩, List.mem_of_getElem? (i := 270) (by decide +kernel), List.mem_of_getElem? (i := 805) (by decide +kernel), List.mem_of_getElem? (i := 806) (by decide +kernel)⟩
theorem lw_p22 : lw_okq (⟨"NowhereMoney$Watch", "lowOf", "(III)I"⟩, 2) := ⟨⟨by decide +kernel, by decide +kernel⟩, List.mem_of_getElem? (i := 270) (by decide +kernel), List.mem_of_getElem? (i := 813) (by decide +kernel), List.mem_of_getElem? (i := 814) (by decide +kernel)⟩
theorem lw_p23 : lw_okq (⟨"NowhereMoney", "isCheque", "(I)Z"⟩, 15) := ⟨⟨by decide +kernel, by decide +kernel⟩, List.mem_of_getElem? (i := 22) (by decide +kernel), List.mem_of_getElem? (i := 837) (by decide +kernel), List.mem_of_getElem? (i := 838) (by decide +kernel)⟩
theorem lw_p24 : lw_okq (⟨"NowhereMoney", "isBusinessDay", "(I)Z"⟩, 15) := ⟨⟨by decide +kernel, by decide +kernel⟩, List.mem_of_getElem? (i := 22) (by decide +kernel), List.mem_of_getElem? (i := 870) (by decide +kernel), List.mem_of_getElem? (i := 871) (by decide +kernel)⟩
theorem lw_p25 : lw_okq (⟨"NowhereMoney", "isRing", "(III)Z"⟩, 15) := ⟨⟨by decide +kernel, by decide +kernel⟩, List.mem_of_getElem? (i := 22) (by decide +kernel), List.mem_of_getElem? (i := 885) (by decide +kernel), List.mem_of_getElem? (i := 886) (by decide +kernel)⟩
theorem lw_p26 : lw_okq (⟨"NowhereMoney", "fillRings", "(III)V"⟩, 15) := ⟨⟨by decide +kernel, by decide +kernel⟩, List.mem_of_getElem? (i := 22) (by decide +kernel), List.mem_of_getElem? (i := 889) (by decide +kernel), List.mem_of_getElem? (i := 890) (by decide +kernel)⟩
theorem lw_p27 : lw_okq (⟨"NowhereMoney$Rings", "unfold", "(II)Z"⟩, 4) := ⟨⟨by decide +kernel, by decide +kernel⟩, List.mem_of_getElem? (i := 284) (by decide +kernel), List.mem_of_getElem? (i := 898) (by decide +kernel), List.mem_of_getElem? (i := 899) (by decide +kernel)⟩
theorem lw_p28 : lw_okq (⟨"NowhereMoney", "thinkEnd", "(I)I"⟩, 15) := ⟨⟨by decide +kernel, by decide +kernel⟩, List.mem_of_getElem? (i := 22) (by decide +kernel), List.mem_of_getElem? (i := 982) (by decide +kernel), List.mem_of_getElem? (i := 983) (by decide +kernel)⟩
theorem lw_p29 : lw_okq (⟨"NowhereMoney$Ways", "isWay", "(LNowhereMoney$World;I)Z"⟩, 6) := ⟨⟨by decide +kernel, by decide +kernel⟩, List.mem_of_getElem? (i := 306) (by decide +kernel), List.mem_of_getElem? (i := 1019) (by decide +kernel), List.mem_of_getElem? (i := 1020) (by decide +kernel)⟩
theorem lw_p30 : lw_okq (⟨"NowhereMoney$Ways", "floatOf", "(LNowhereMoney$World;I)I"⟩, 6) := ⟨⟨by decide +kernel, by decide +kernel⟩, List.mem_of_getElem? (i := 306) (by decide +kernel), List.mem_of_getElem? (i := 1027) (by decide +kernel), List.mem_of_getElem? (i := 1028) (by decide +kernel)⟩
theorem lw_p31 : lw_okq (⟨"NowhereMoney", "netOut", "(I)V"⟩, 15) := ⟨⟨by decide +kernel, by decide +kernel⟩, List.mem_of_getElem? (i := 22) (by decide +kernel), List.mem_of_getElem? (i := 1036) (by decide +kernel), List.mem_of_getElem? (i := 1037) (by decide +kernel)⟩
def lw_privs_2 : List (MethodName × Nat) := [(⟨"NowhereMoney$Ledger", "comeBack", "()V"⟩, 10), (⟨"NowhereMoney$Ledger", "listAsked", "(II)I"⟩, 10), (⟨"NowhereMoney$Ledger", "isAhead", "(III)Z"⟩, 10), (⟨"NowhereMoney$Ledger", "askFor", "(I)Z"⟩, 10), (⟨"NowhereMoney$Watch", "isAmong", "(III)Z"⟩, 2), (⟨"NowhereMoney$Watch", "hasMatch", "(III)Z"⟩, 2), (⟨"NowhereMoney$Watch", "lowOf", "(III)I"⟩, 2), (⟨"NowhereMoney", "isCheque", "(I)Z"⟩, 15), (⟨"NowhereMoney", "isBusinessDay", "(I)Z"⟩, 15), (⟨"NowhereMoney", "isRing", "(III)Z"⟩, 15), (⟨"NowhereMoney", "fillRings", "(III)V"⟩, 15), (⟨"NowhereMoney$Rings", "unfold", "(II)Z"⟩, 4), (⟨"NowhereMoney", "thinkEnd", "(I)I"⟩, 15), (⟨"NowhereMoney$Ways", "isWay", "(LNowhereMoney$World;I)Z"⟩, 6), (⟨"NowhereMoney$Ways", "floatOf", "(LNowhereMoney$World;I)I"⟩, 6), (⟨"NowhereMoney", "netOut", "(I)V"⟩, 15)]
theorem lw_r2 : ∀ q ∈ lw_privs_2, lw_okq q := List.forall_mem_cons.mpr ⟨lw_p16, List.forall_mem_cons.mpr ⟨lw_p17, List.forall_mem_cons.mpr ⟨lw_p18, List.forall_mem_cons.mpr ⟨lw_p19, List.forall_mem_cons.mpr ⟨lw_p20, List.forall_mem_cons.mpr ⟨lw_p21, List.forall_mem_cons.mpr ⟨lw_p22, List.forall_mem_cons.mpr ⟨lw_p23, List.forall_mem_cons.mpr ⟨lw_p24, List.forall_mem_cons.mpr ⟨lw_p25, List.forall_mem_cons.mpr ⟨lw_p26, List.forall_mem_cons.mpr ⟨lw_p27, List.forall_mem_cons.mpr ⟨lw_p28, List.forall_mem_cons.mpr ⟨lw_p29, List.forall_mem_cons.mpr ⟨lw_p30, List.forall_mem_cons.mpr ⟨lw_p31, fun _ h => absurd h List.not_mem_nil⟩⟩⟩⟩⟩⟩⟩⟩⟩⟩⟩⟩⟩⟩⟩⟩
theorem lw_p32 : lw_okq (⟨"NowhereMoney", "roundOfRoom", "()I"⟩, 15) := ⟨⟨by decide +kernel, by decide +kernel⟩, List.mem_of_getElem? (i := 22) (by decide +kernel), List.mem_of_getElem? (i := 1040) (by decide +kernel), List.mem_of_getElem? (i := 1041) (by decide +kernel)⟩
theorem lw_p33 : lw_okq (⟨"NowhereMoneyModel", "next0", "()V"⟩, 31) := ⟨⟨by decide +kernel, by decide +kernel⟩, List.mem_of_getElem? (i := 1086) (by decide +kernel), List.mem_of_getElem? (i := 1216) (by decide +kernel), List.mem_of_getElem? (i := 1217) (by decide +kernel)⟩
theorem lw_p34 : lw_okq (⟨"NowhereMoneyModel", "see", "(I)I"⟩, 31) := ⟨⟨by decide +kernel, by decide +kernel⟩, List.mem_of_getElem? (i := 1086) (by decide +kernel), List.mem_of_getElem? (i := 1220) (by decide +kernel), List.mem_of_getElem? (i := 1221) (by decide +kernel)⟩
theorem lw_p35 : lw_okq (⟨"NowhereMoneyModel", "word", "()I"⟩, 31) := ⟨⟨by decide +kernel, by decide +kernel⟩, List.mem_of_getElem? (i := 1086) (by decide +kernel), List.mem_of_getElem? (i := 1227) (by decide +kernel), List.mem_of_getElem? (i := 1228) (by decide +kernel)⟩
theorem lw_p36 : lw_okq (⟨"NowhereMoneyModel", "is", "(Ljava/lang/String;)Z"⟩, 31) := ⟨⟨by decide +kernel, by decide +kernel⟩, List.mem_of_getElem? (i := 1086) (by decide +kernel), List.mem_of_getElem? (i := 1232) (by decide +kernel), List.mem_of_getElem? (i := 1233) (by decide +kernel)⟩
theorem lw_p37 : lw_okq (⟨"NowhereMoneyModel", "lawWord", "()I"⟩, 31) := ⟨⟨by decide +kernel, by decide +kernel⟩, List.mem_of_getElem? (i := 1086) (by decide +kernel), List.mem_of_getElem? (i := 1244) (by decide +kernel), List.mem_of_getElem? (i := 1245) (by decide +kernel)⟩
theorem lw_p38 : lw_okq (⟨"NowhereMoneyModel", "signWord", "()I"⟩, 31) := ⟨⟨by decide +kernel, by decide +kernel⟩, List.mem_of_getElem? (i := 1086) (by decide +kernel), List.mem_of_getElem? (i := 1255) (by decide +kernel), List.mem_of_getElem? (i := 1256) (by decide +kernel)⟩
theorem lw_p39 : lw_okq (⟨"NowhereMoneyModel", "aLine", "()Z"⟩, 31) := ⟨⟨by decide +kernel, by decide +kernel⟩, List.mem_of_getElem? (i := 1086) (by decide +kernel), List.mem_of_getElem? (i := 1267) (by decide +kernel), List.mem_of_getElem? (i := 1268) (by decide +kernel)⟩
theorem lw_p40 : lw_okq (⟨"NowhereMoneyModel", "bad", "(I)Z"⟩, 31) := ⟨⟨by decide +kernel, by decide +kernel⟩, List.mem_of_getElem? (i := 1086) (by decide +kernel), List.mem_of_getElem? (i := 1271) (by decide +kernel), List.mem_of_getElem? (i := 1272) (by decide +kernel)⟩
theorem lw_p41 : lw_okq (⟨"NowhereMoneyModel", "sumUp", "()Z"⟩, 31) := ⟨⟨by decide +kernel, by decide +kernel⟩, List.mem_of_getElem? (i := 1086) (by decide +kernel), List.mem_of_getElem? (i := 1275) (by decide +kernel), List.mem_of_getElem? (i := 1276) (by decide +kernel)⟩
theorem lw_p42 : lw_okq (⟨"NowhereMoneyModel", "product", "()Z"⟩, 31) := ⟨⟨by decide +kernel, by decide +kernel⟩, List.mem_of_getElem? (i := 1086) (by decide +kernel), List.mem_of_getElem? (i := 1279) (by decide +kernel), List.mem_of_getElem? (i := 1280) (by decide +kernel)⟩
theorem lw_p43 : lw_okq (⟨"NowhereMoneyModel", "unit", "()Z"⟩, 31) := ⟨⟨by decide +kernel, by decide +kernel⟩, List.mem_of_getElem? (i := 1086) (by decide +kernel), List.mem_of_getElem? (i := 1283) (by decide +kernel), List.mem_of_getElem? (i := 1284) (by decide +kernel)⟩
theorem lw_p44 : lw_okq (⟨"NowhereMoneyModel", "lay", "(II)V"⟩, 31) := ⟨⟨by decide +kernel, by decide +kernel⟩, List.mem_of_getElem? (i := 1086) (by decide +kernel), List.mem_of_getElem? (i := 1287) (by decide +kernel), List.mem_of_getElem? (i := 1288) (by decide +kernel)⟩
theorem lw_p45 : lw_okq (⟨"NowhereMoneyModel", "need", "(I)Z"⟩, 31) := ⟨⟨by decide +kernel, by decide +kernel⟩, List.mem_of_getElem? (i := 1086) (by decide +kernel), List.mem_of_getElem? (i := 1291) (by decide +kernel), List.mem_of_getElem? (i := 1292) (by decide +kernel)⟩
theorem lw_p46 : lw_okq (⟨"NowhereMoneyModel", "any", "()Z"⟩, 31) := ⟨⟨by decide +kernel, by decide +kernel⟩, List.mem_of_getElem? (i := 1086) (by decide +kernel), List.mem_of_getElem? (i := 1295) (by decide +kernel), List.mem_of_getElem? (i := 1296) (by decide +kernel)⟩
theorem lw_p47 : lw_okq (⟨"NowhereMoneyModel", "every", "()Z"⟩, 31) := ⟨⟨by decide +kernel, by decide +kernel⟩, List.mem_of_getElem? (i := 1086) (by decide +kernel), List.mem_of_getElem? (i := 1299) (by decide +kernel), List.mem_of_getElem? (i := 1300) (by decide +kernel)⟩
def lw_privs_3 : List (MethodName × Nat) := [(⟨"NowhereMoney", "roundOfRoom", "()I"⟩, 15), (⟨"NowhereMoneyModel", "next0", "()V"⟩, 31), (⟨"NowhereMoneyModel", "see", "(I)I"⟩, 31), (⟨"NowhereMoneyModel", "word", "()I"⟩, 31), (⟨"NowhereMoneyModel", "is", "(Ljava/lang/String;)Z"⟩, 31), (⟨"NowhereMoneyModel", "lawWord", "()I"⟩, 31), (⟨"NowhereMoneyModel", "signWord", "()I"⟩, 31), (⟨"NowhereMoneyModel", "aLine", "()Z"⟩, 31), (⟨"NowhereMoneyModel", "bad", "(I)Z"⟩, 31), (⟨"NowhereMoneyModel", "sumUp", "()Z"⟩, 31), (⟨"NowhereMoneyModel", "product", "()Z"⟩, 31), (⟨"NowhereMoneyModel", "unit", "()Z"⟩, 31), (⟨"NowhereMoneyModel", "lay", "(II)V"⟩, 31), (⟨"NowhereMoneyModel", "need", "(I)Z"⟩, 31), (⟨"NowhereMoneyModel", "any", "()Z"⟩, 31), (⟨"NowhereMoneyModel", "every", "()Z"⟩, 31)]
theorem lw_r3 : ∀ q ∈ lw_privs_3, lw_okq q := List.forall_mem_cons.mpr ⟨lw_p32, List.forall_mem_cons.mpr ⟨lw_p33, List.forall_mem_cons.mpr ⟨lw_p34, List.forall_mem_cons.mpr ⟨lw_p35, List.forall_mem_cons.mpr ⟨lw_p36, List.forall_mem_cons.mpr ⟨lw_p37, List.forall_mem_cons.mpr ⟨lw_p38, List.forall_mem_cons.mpr ⟨lw_p39, List.forall_mem_cons.mpr ⟨lw_p40, List.forall_mem_cons.mpr ⟨lw_p41, List.forall_mem_cons.mpr ⟨lw_p42, List.forall_mem_cons.mpr ⟨lw_p43, List.forall_mem_cons.mpr ⟨lw_p44, List.forall_mem_cons.mpr ⟨lw_p45, List.forall_mem_cons.mpr ⟨lw_p46, List.forall_mem_cons.mpr ⟨lw_p47, fun _ h => absurd h List.not_mem_nil⟩⟩⟩⟩⟩⟩⟩⟩⟩⟩⟩⟩⟩⟩⟩⟩
theorem lw_p48 : lw_okq (⟨"NowhereMoneyModel", "one", "()Z"⟩, 31) := ⟨⟨by decide +kernel, by decide +kernel⟩, List.mem_of_getElem? (i := 1086) (by decide +kernel), List.mem_of_getElem? (i := 1303) (by decide +kernel), List.mem_of_getElem? (i := 1304) (by decide +kernel)⟩
theorem lw_p49 : lw_okq (⟨"NowhereMoneyModel", "opens", "()Z"⟩, 31) := ⟨⟨by decide +kernel, by decide +kernel⟩, List.mem_of_getElem? (i := 1086) (by decide +kernel), List.mem_of_getElem? (i := 1307) (by decide +kernel), List.mem_of_getElem? (i := 1308) (by decide +kernel)⟩
theorem lw_p50 : lw_okq (⟨"NowhereMoneyModel", "isBusiness", "(I)Z"⟩, 31) := ⟨⟨by decide +kernel, by decide +kernel⟩, List.mem_of_getElem? (i := 1086) (by decide +kernel), List.mem_of_getElem? (i := 1329) (by decide +kernel), List.mem_of_getElem? (i := 1330) (by decide +kernel)⟩
theorem lw_p51 : lw_okq (⟨"NowhereMoneyModel", "gathers", "(IIIIZI)V"⟩, 31) := ⟨⟨by decide +kernel, by decide +kernel⟩, List.mem_of_getElem? (i := 1086) (by decide +kernel), List.mem_of_getElem? (i := 1333) (by decide +kernel), List.mem_of_getElem? (i := 1334) (by decide +kernel)⟩
theorem lw_p52 : lw_okq (⟨"NowhereMoneyModel", "countOf", "(II)I"⟩, 31) := ⟨⟨by decide +kernel, by decide +kernel⟩, List.mem_of_getElem? (i := 1086) (by decide +kernel), List.mem_of_getElem? (i := 1337) (by decide +kernel), List.mem_of_getElem? (i := 1338) (by decide +kernel)⟩
theorem lw_p53 : lw_okq (⟨"NowhereMoneyModel", "of", "(II)I"⟩, 31) := ⟨⟨by decide +kernel, by decide +kernel⟩, List.mem_of_getElem? (i := 1086) (by decide +kernel), List.mem_of_getElem? (i := 1341) (by decide +kernel), List.mem_of_getElem? (i := 1342) (by decide +kernel)⟩
theorem lw_p54 : lw_okq (⟨"NowhereMoneyModel", "usable", "(II)I"⟩, 31) := ⟨⟨by decide +kernel, by decide +kernel⟩, List.mem_of_getElem? (i := 1086) (by decide +kernel), List.mem_of_getElem? (i := 1345) (by decide +kernel), List.mem_of_getElem? (i := 1346) (by decide +kernel)⟩
theorem lw_p55 : lw_okq (⟨"NowhereMoneyModel", "heldOf", "(II)I"⟩, 31) := ⟨⟨by decide +kernel, by decide +kernel⟩, List.mem_of_getElem? (i := 1086) (by decide +kernel), List.mem_of_getElem? (i := 1349) (by decide +kernel), List.mem_of_getElem? (i := 1350) (by decide +kernel)⟩
theorem lw_p56 : lw_okq (⟨"NowhereMoneyModel", "tells", "(II)I"⟩, 31) := ⟨⟨by decide +kernel, by decide +kernel⟩, List.mem_of_getElem? (i := 1086) (by decide +kernel), List.mem_of_getElem? (i := 1353) (by decide +kernel), List.mem_of_getElem? (i := 1354) (by decide +kernel)⟩
theorem lw_p57 : lw_okq (⟨"NowhereMoneyModel", "comesTo", "(III)I"⟩, 31) := ⟨⟨by decide +kernel, by decide +kernel⟩, List.mem_of_getElem? (i := 1086) (by decide +kernel), List.mem_of_getElem? (i := 1357) (by decide +kernel), List.mem_of_getElem? (i := 1358) (by decide +kernel)⟩
theorem lw_p58 : lw_okq (⟨"NowhereMoneyModel", "books", "(IIIII)V"⟩, 31) := ⟨⟨by decide +kernel, by decide +kernel⟩, List.mem_of_getElem? (i := 1086) (by decide +kernel), List.mem_of_getElem? (i := 1364) (by decide +kernel), List.mem_of_getElem? (i := 1365) (by decide +kernel)⟩
theorem lw_p59 : lw_okq (⟨"NowhereMoneyModel", "railBetween", "(II)I"⟩, 31) := ⟨⟨by decide +kernel, by decide +kernel⟩, List.mem_of_getElem? (i := 1086) (by decide +kernel), List.mem_of_getElem? (i := 1373) (by decide +kernel), List.mem_of_getElem? (i := 1374) (by decide +kernel)⟩
theorem lw_p60 : lw_okq (⟨"NowhereMoneyModel", "isFar", "(II)Z"⟩, 31) := ⟨⟨by decide +kernel, by decide +kernel⟩, List.mem_of_getElem? (i := 1086) (by decide +kernel), List.mem_of_getElem? (i := 1377) (by decide +kernel), List.mem_of_getElem? (i := 1378) (by decide +kernel)⟩
theorem lw_p61 : lw_okq (⟨"NowhereMoneyModel", "restsOn", "(I)I"⟩, 31) := ⟨⟨by decide +kernel, by decide +kernel⟩, List.mem_of_getElem? (i := 1086) (by decide +kernel), List.mem_of_getElem? (i := 1393) (by decide +kernel), List.mem_of_getElem? (i := 1394) (by decide +kernel)⟩
theorem lw_p62 : lw_okq (⟨"NowhereMoneyModel", "booksOf", "(I)I"⟩, 31) := ⟨⟨by decide +kernel, by decide +kernel⟩, List.mem_of_getElem? (i := 1086) (by decide +kernel), List.mem_of_getElem? (i := 1401) (by decide +kernel), List.mem_of_getElem? (i := 1402) (by decide +kernel)⟩
theorem lw_p63 : lw_okq (⟨"NowhereMoneyModel", "waterOf", "(I)I"⟩, 31) := ⟨⟨by decide +kernel, by decide +kernel⟩, List.mem_of_getElem? (i := 1086) (by decide +kernel), List.mem_of_getElem? (i := 1405) (by decide +kernel), List.mem_of_getElem? (i := 1406) (by decide +kernel)⟩
def lw_privs_4 : List (MethodName × Nat) := [(⟨"NowhereMoneyModel", "one", "()Z"⟩, 31), (⟨"NowhereMoneyModel", "opens", "()Z"⟩, 31), (⟨"NowhereMoneyModel", "isBusiness", "(I)Z"⟩, 31), (⟨"NowhereMoneyModel", "gathers", "(IIIIZI)V"⟩, 31), (⟨"NowhereMoneyModel", "countOf", "(II)I"⟩, 31), (⟨"NowhereMoneyModel", "of", "(II)I"⟩, 31), (⟨"NowhereMoneyModel", "usable", "(II)I"⟩, 31), (⟨"NowhereMoneyModel", "heldOf", "(II)I"⟩, 31), (⟨"NowhereMoneyModel", "tells", "(II)I"⟩, 31), (⟨"NowhereMoneyModel", "comesTo", "(III)I"⟩, 31), (⟨"NowhereMoneyModel", "books", "(IIIII)V"⟩, 31), (⟨"NowhereMoneyModel", "railBetween", "(II)I"⟩, 31), (⟨"NowhereMoneyModel", "isFar", "(II)Z"⟩, 31), (⟨"NowhereMoneyModel", "restsOn", "(I)I"⟩, 31), (⟨"NowhereMoneyModel", "booksOf", "(I)I"⟩, 31), (⟨"NowhereMoneyModel", "waterOf", "(I)I"⟩, 31)]
theorem lw_r4 : ∀ q ∈ lw_privs_4, lw_okq q := List.forall_mem_cons.mpr ⟨lw_p48, List.forall_mem_cons.mpr ⟨lw_p49, List.forall_mem_cons.mpr ⟨lw_p50, List.forall_mem_cons.mpr ⟨lw_p51, List.forall_mem_cons.mpr ⟨lw_p52, List.forall_mem_cons.mpr ⟨lw_p53, List.forall_mem_cons.mpr ⟨lw_p54, List.forall_mem_cons.mpr ⟨lw_p55, List.forall_mem_cons.mpr ⟨lw_p56, List.forall_mem_cons.mpr ⟨lw_p57, List.forall_mem_cons.mpr ⟨lw_p58, List.forall_mem_cons.mpr ⟨lw_p59, List.forall_mem_cons.mpr ⟨lw_p60, List.forall_mem_cons.mpr ⟨lw_p61, List.forall_mem_cons.mpr ⟨lw_p62, List.forall_mem_cons.mpr ⟨lw_p63, fun _ h => absurd h List.not_mem_nil⟩⟩⟩⟩⟩⟩⟩⟩⟩⟩⟩⟩⟩⟩⟩⟩
theorem lw_p64 : lw_okq (⟨"NowhereMoneyModel", "flying", "(Z)I"⟩, 31) := ⟨⟨by decide +kernel, by decide +kernel⟩, List.mem_of_getElem? (i := 1086) (by decide +kernel), List.mem_of_getElem? (i := 1417) (by decide +kernel), List.mem_of_getElem? (i := 1418) (by decide +kernel)⟩
theorem lw_p65 : lw_okq (⟨"NowhereMoneyModel", "isFlying", "(I)Z"⟩, 31) := ⟨⟨by decide +kernel, by decide +kernel⟩, List.mem_of_getElem? (i := 1086) (by decide +kernel), List.mem_of_getElem? (i := 1421) (by decide +kernel), List.mem_of_getElem? (i := 1422) (by decide +kernel)⟩
theorem lw_p66 : lw_okq (⟨"NowhereMoneyModel", "morning", "(I)I"⟩, 31) := ⟨⟨by decide +kernel, by decide +kernel⟩, List.mem_of_getElem? (i := 1086) (by decide +kernel), List.mem_of_getElem? (i := 1429) (by decide +kernel), List.mem_of_getElem? (i := 1430) (by decide +kernel)⟩
theorem lw_p67 : lw_okq (⟨"NowhereMoneyModel", "hasTrain", "(I)Z"⟩, 31) := ⟨⟨by decide +kernel, by decide +kernel⟩, List.mem_of_getElem? (i := 1086) (by decide +kernel), List.mem_of_getElem? (i := 1433) (by decide +kernel), List.mem_of_getElem? (i := 1434) (by decide +kernel)⟩
theorem lw_p68 : lw_okq (⟨"NowhereMoneyModel", "isDue", "(II)Z"⟩, 31) := ⟨⟨by decide +kernel, by decide +kernel⟩, List.mem_of_getElem? (i := 1086) (by decide +kernel), List.mem_of_getElem? (i := 1437) (by decide +kernel), List.mem_of_getElem? (i := 1438) (by decide +kernel)⟩
theorem lw_p69 : lw_okq (⟨"NowhereMoneyModel", "gathersAsked", "(II)V"⟩, 31) := ⟨⟨by decide +kernel, by decide +kernel⟩, List.mem_of_getElem? (i := 1086) (by decide +kernel), List.mem_of_getElem? (i := 1441) (by decide +kernel), List.mem_of_getElem? (i := 1442) (by decide +kernel)⟩
theorem lw_p70 : lw_okq (⟨"NowhereMoneyModel", "isBehind", "(III)Z"⟩, 31) := ⟨⟨by decide +kernel, by decide +kernel⟩, List.mem_of_getElem? (i := 1086) (by decide +kernel), List.mem_of_getElem? (i := 1445) (by decide +kernel), List.mem_of_getElem? (i := 1446) (by decide +kernel)⟩
theorem lw_p71 : lw_okq (⟨"NowhereMoneyModel", "isReturned", "(I)Z"⟩, 31) := ⟨⟨by decide +kernel, by decide +kernel⟩, List.mem_of_getElem? (i := 1086) (by decide +kernel), List.mem_of_getElem? (i := 1449) (by decide +kernel), List.mem_of_getElem? (i := 1450) (by decide +kernel)⟩
theorem lw_p72 : lw_okq (⟨"NowhereMoneyModel", "gathersOf", "(III)V"⟩, 31) := ⟨⟨by decide +kernel, by decide +kernel⟩, List.mem_of_getElem? (i := 1086) (by decide +kernel), List.mem_of_getElem? (i := 1453) (by decide +kernel), List.mem_of_getElem? (i := 1454) (by decide +kernel)⟩
theorem lw_p73 : lw_okq (⟨"NowhereMoneyModel", "cryOf", "(II)Z"⟩, 31) := ⟨⟨by decide +kernel, by decide +kernel⟩, List.mem_of_getElem? (i := 1086) (by decide +kernel), List.mem_of_getElem? (i := 1457) (by decide +kernel), List.mem_of_getElem? (i := 1458) (by decide +kernel)⟩
theorem lw_p74 : lw_okq (⟨"NowhereMoneyModel", "signs", "(II)V"⟩, 31) := ⟨⟨by decide +kernel, by decide +kernel⟩, List.mem_of_getElem? (i := 1086) (by decide +kernel), List.mem_of_getElem? (i := 1461) (by decide +kernel), List.mem_of_getElem? (i := 1462) (by decide +kernel)⟩
theorem lw_p75 : lw_okq (⟨"NowhereMoneyModel", "isMatched", "(I)Z"⟩, 31) := ⟨⟨by decide +kernel, by decide +kernel⟩, List.mem_of_getElem? (i := 1086) (by decide +kernel), List.mem_of_getElem? (i := 1465) (by decide +kernel), List.mem_of_getElem? (i := 1466) (by decide +kernel)⟩
theorem lw_p76 : lw_okq (⟨"NowhereMoneyModel", "isDay", "(I)Z"⟩, 31) := ⟨⟨by decide +kernel, by decide +kernel⟩, List.mem_of_getElem? (i := 1086) (by decide +kernel), List.mem_of_getElem? (i := 1476) (by decide +kernel), List.mem_of_getElem? (i := 1477) (by decide +kernel)⟩
theorem lw_p77 : lw_okq (⟨"NowhereMoneyModel", "flightOf", "(III)I"⟩, 31) := ⟨⟨by decide +kernel, by decide +kernel⟩, List.mem_of_getElem? (i := 1086) (by decide +kernel), List.mem_of_getElem? (i := 1480) (by decide +kernel), List.mem_of_getElem? (i := 1481) (by decide +kernel)⟩
theorem lw_p78 : lw_okq (⟨"NowhereMoneyModel", "rings", "(IIIII)V"⟩, 31) := ⟨⟨by decide +kernel, by decide +kernel⟩, List.mem_of_getElem? (i := 1086) (by decide +kernel), List.mem_of_getElem? (i := 1488) (by decide +kernel), List.mem_of_getElem? (i := 1489) (by decide +kernel)⟩
theorem lw_p79 : lw_okq (⟨"NowhereMoneyModel", "holdsUp", "(IIII)I"⟩, 31) := ⟨⟨by decide +kernel, by decide +kernel⟩, List.mem_of_getElem? (i := 1086) (by decide +kernel), List.mem_of_getElem? (i := 1492) (by decide +kernel), List.mem_of_getElem? (i := 1493) (by decide +kernel)⟩
def lw_privs_5 : List (MethodName × Nat) := [(⟨"NowhereMoneyModel", "flying", "(Z)I"⟩, 31), (⟨"NowhereMoneyModel", "isFlying", "(I)Z"⟩, 31), (⟨"NowhereMoneyModel", "morning", "(I)I"⟩, 31), (⟨"NowhereMoneyModel", "hasTrain", "(I)Z"⟩, 31), (⟨"NowhereMoneyModel", "isDue", "(II)Z"⟩, 31), (⟨"NowhereMoneyModel", "gathersAsked", "(II)V"⟩, 31), (⟨"NowhereMoneyModel", "isBehind", "(III)Z"⟩, 31), (⟨"NowhereMoneyModel", "isReturned", "(I)Z"⟩, 31), (⟨"NowhereMoneyModel", "gathersOf", "(III)V"⟩, 31), (⟨"NowhereMoneyModel", "cryOf", "(II)Z"⟩, 31), (⟨"NowhereMoneyModel", "signs", "(II)V"⟩, 31), (⟨"NowhereMoneyModel", "isMatched", "(I)Z"⟩, 31), (⟨"NowhereMoneyModel", "isDay", "(I)Z"⟩, 31), (⟨"NowhereMoneyModel", "flightOf", "(III)I"⟩, 31), (⟨"NowhereMoneyModel", "rings", "(IIIII)V"⟩, 31), (⟨"NowhereMoneyModel", "holdsUp", "(IIII)I"⟩, 31)]
theorem lw_r5 : ∀ q ∈ lw_privs_5, lw_okq q := List.forall_mem_cons.mpr ⟨lw_p64, List.forall_mem_cons.mpr ⟨lw_p65, List.forall_mem_cons.mpr ⟨lw_p66, List.forall_mem_cons.mpr ⟨lw_p67, List.forall_mem_cons.mpr ⟨lw_p68, List.forall_mem_cons.mpr ⟨lw_p69, List.forall_mem_cons.mpr ⟨lw_p70, List.forall_mem_cons.mpr ⟨lw_p71, List.forall_mem_cons.mpr ⟨lw_p72, List.forall_mem_cons.mpr ⟨lw_p73, List.forall_mem_cons.mpr ⟨lw_p74, List.forall_mem_cons.mpr ⟨lw_p75, List.forall_mem_cons.mpr ⟨lw_p76, List.forall_mem_cons.mpr ⟨lw_p77, List.forall_mem_cons.mpr ⟨lw_p78, List.forall_mem_cons.mpr ⟨lw_p79, fun _ h => absurd h List.not_mem_nil⟩⟩⟩⟩⟩⟩⟩⟩⟩⟩⟩⟩⟩⟩⟩⟩
theorem lw_p80 : lw_okq (⟨"NowhereMoneyModel", "ends", "(II)I"⟩, 31) := ⟨⟨by decide +kernel, by decide +kernel⟩, List.mem_of_getElem? (i := 1086) (by decide +kernel), List.mem_of_getElem? (i := 1539) (by decide +kernel), List.mem_of_getElem? (i := 1540) (by decide +kernel)⟩
theorem lw_p81 : lw_okq (⟨"NowhereMoneyModel", "lossOfAll", "()I"⟩, 31) := ⟨⟨by decide +kernel, by decide +kernel⟩, List.mem_of_getElem? (i := 1086) (by decide +kernel), List.mem_of_getElem? (i := 1543) (by decide +kernel), List.mem_of_getElem? (i := 1544) (by decide +kernel)⟩
theorem lw_p82 : lw_okq (⟨"NowhereMoneyModel", "lossOf", "(I)I"⟩, 31) := ⟨⟨by decide +kernel, by decide +kernel⟩, List.mem_of_getElem? (i := 1086) (by decide +kernel), List.mem_of_getElem? (i := 1547) (by decide +kernel), List.mem_of_getElem? (i := 1548) (by decide +kernel)⟩
theorem lw_p83 : lw_okq (⟨"NowhereMoneyModel", "floats", "(II)I"⟩, 31) := ⟨⟨by decide +kernel, by decide +kernel⟩, List.mem_of_getElem? (i := 1086) (by decide +kernel), List.mem_of_getElem? (i := 1563) (by decide +kernel), List.mem_of_getElem? (i := 1564) (by decide +kernel)⟩
def lw_privs_6 : List (MethodName × Nat) := [(⟨"NowhereMoneyModel", "ends", "(II)I"⟩, 31), (⟨"NowhereMoneyModel", "lossOfAll", "()I"⟩, 31), (⟨"NowhereMoneyModel", "lossOf", "(I)I"⟩, 31), (⟨"NowhereMoneyModel", "floats", "(II)I"⟩, 31)]
theorem lw_r6 : ∀ q ∈ lw_privs_6, lw_okq q := List.forall_mem_cons.mpr ⟨lw_p80, List.forall_mem_cons.mpr ⟨lw_p81, List.forall_mem_cons.mpr ⟨lw_p82, List.forall_mem_cons.mpr ⟨lw_p83, fun _ h => absurd h List.not_mem_nil⟩⟩⟩⟩
def lw_privs : List (MethodName × Nat) := lw_privs_1 ++ (lw_privs_2 ++ (lw_privs_3 ++ (lw_privs_4 ++ (lw_privs_5 ++ (lw_privs_6)))))
def lw_tbl : List Cond := k2_sels lw_privs ++ tables_1
theorem lw_privs_ok : ∀ q ∈ lw_privs, lw_okq q := by
  show ∀ q ∈ lw_privs_1 ++ (lw_privs_2 ++ (lw_privs_3 ++ (lw_privs_4 ++ (lw_privs_5 ++ (lw_privs_6))))), lw_okq q
  exact List.forall_mem_append.mpr ⟨lw_r1, List.forall_mem_append.mpr ⟨lw_r2, List.forall_mem_append.mpr ⟨lw_r3, List.forall_mem_append.mpr ⟨lw_r4, List.forall_mem_append.mpr ⟨lw_r5, lw_r6⟩⟩⟩⟩⟩
end
section
def RX0 : String := "NowhereMoney$Country"
def TX0 : u_T := fun k => match k with
  | 0 => ("NowhereMoney$Country", "towns", "[I", true)
  | 1 => ("NowhereMoney$Country", "rails", "[I", true)
  | 2 => ("NowhereMoney$Country", "closed", "[I", true)
  | 3 => ("NowhereMoney$Country", "snow", "[I", true)
  | 4 => ("NowhereMoney$Country", "scripts", "[LNowhereMoney$Script;", true)
  | _ => ("NowhereMoney$Country", "thoughtSnow", "I", false)
def tyX0 : Nat → FieldType := fun k => match k with
  | 0 => .array .int
  | 1 => .array .int
  | 2 => .array .int
  | 3 => .array .int
  | 4 => .array (.object "NowhereMoney$Script")
  | _ => .int
abbrev wsX00 : List Cond := u_ws RX0 TX0 6
theorem nmX0 : ∀ a, a < 6 → ∀ b, b < 6 → a ≠ b → (TX0 a).2.1 ≠ (TX0 b).2.1 := by decide +kernel
theorem tyX0_ok : ∀ k, k < 6 → parseFieldDescriptor (TX0 k).2.2.1 = some (tyX0 k) := by decide +kernel
abbrev cX0_init : ByteArray := prog_2_method_1_code
def yX0_init : MethodName := ⟨RX0, "<init>", "()V"⟩
abbrev cX0_copyFrom : ByteArray := prog_2_method_2_code
def yX0_copyFrom : MethodName := ⟨RX0, "copyFrom", "(LNowhereMoney$Country;)V"⟩
abbrev cX0_isBusiness : ByteArray := prog_2_method_3_code
def yX0_isBusiness : MethodName := ⟨RX0, "isBusiness", "(I)Z"⟩
abbrev cX0_hasSnow : ByteArray := prog_2_method_4_code
def yX0_hasSnow : MethodName := ⟨RX0, "hasSnow", "(I)Z"⟩
abbrev cX0_areFar : ByteArray := prog_2_method_5_code
def yX0_areFar : MethodName := ⟨RX0, "areFar", "(II)Z"⟩
abbrev cX0_railBetween : ByteArray := prog_2_method_6_code
def yX0_railBetween : MethodName := ⟨RX0, "railBetween", "(II)I"⟩
abbrev cX0_flightDays : ByteArray := prog_2_method_7_code
def yX0_flightDays : MethodName := ⟨RX0, "flightDays", "(III)I"⟩
def RX1 : String := "NowhereMoney$Entries"
def TX1 : u_T := fun k => match k with
  | 0 => ("NowhereMoney$Entries", "rows", "[I", true)
  | _ => ("NowhereMoney$Entries", "count", "I", false)
def tyX1 : Nat → FieldType := fun k => match k with
  | 0 => .array .int
  | _ => .int
abbrev wsX10 : List Cond := u_ws RX1 TX1 2
theorem nmX1 : ∀ a, a < 2 → ∀ b, b < 2 → a ≠ b → (TX1 a).2.1 ≠ (TX1 b).2.1 := by decide +kernel
theorem tyX1_ok : ∀ k, k < 2 → parseFieldDescriptor (TX1 k).2.2.1 = some (tyX1 k) := by decide +kernel
abbrev cX1_init : ByteArray := prog_3_method_1_code
def yX1_init : MethodName := ⟨RX1, "<init>", "()V"⟩
abbrev cX1_add : ByteArray := prog_3_method_2_code
def yX1_add : MethodName := ⟨RX1, "add", "(IIIIII)V"⟩
abbrev cX1_copyFrom : ByteArray := prog_3_method_3_code
def yX1_copyFrom : MethodName := ⟨RX1, "copyFrom", "(LNowhereMoney$Entries;)V"⟩
def RX2 : String := "NowhereMoney$Ledger"
def TX2 : u_T := fun k => match k with
  | 0 => ("NowhereMoney$Ledger", "country", "LNowhereMoney$Country;", true)
  | 1 => ("NowhereMoney$Ledger", "entries", "LNowhereMoney$Entries;", true)
  | 2 => ("NowhereMoney$Ledger", "rows", "[I", true)
  | 3 => ("NowhereMoney$Ledger", "books", "[I", true)
  | 4 => ("NowhereMoney$Ledger", "cash", "[I", true)
  | 5 => ("NowhereMoney$Ledger", "fees", "[I", true)
  | 6 => ("NowhereMoney$Ledger", "asked", "[I", true)
  | 7 => ("NowhereMoney$Ledger", "facts", "[I", true)
  | 8 => ("NowhereMoney$Ledger", "now", "I", false)
  | _ => ("NowhereMoney$Ledger", "count", "I", false)
def tyX2 : Nat → FieldType := fun k => match k with
  | 0 => .object "NowhereMoney$Country"
  | 1 => .object "NowhereMoney$Entries"
  | 2 => .array .int
  | 3 => .array .int
  | 4 => .array .int
  | 5 => .array .int
  | 6 => .array .int
  | 7 => .array .int
  | 8 => .int
  | _ => .int
abbrev wsX20 : List Cond := u_ws RX2 TX2 10
theorem nmX2 : ∀ a, a < 10 → ∀ b, b < 10 → a ≠ b → (TX2 a).2.1 ≠ (TX2 b).2.1 := by decide +kernel
theorem tyX2_ok : ∀ k, k < 10 → parseFieldDescriptor (TX2 k).2.2.1 = some (tyX2 k) := by decide +kernel
abbrev cX2_init : ByteArray := prog_4_method_1_code
def yX2_init : MethodName := ⟨RX2, "<init>", "(LNowhereMoney$Country;LNowhereMoney$Entries;)V"⟩
abbrev cX2_copyFrom : ByteArray := prog_4_method_2_code
def yX2_copyFrom : MethodName := ⟨RX2, "copyFrom", "(LNowhereMoney$Ledger;)V"⟩
abbrev cX2_part : ByteArray := prog_4_method_3_code
def yX2_part : MethodName := ⟨RX2, "part", "(II)I"⟩
abbrev cX2_put : ByteArray := prog_4_method_4_code
def yX2_put : MethodName := ⟨RX2, "put", "(III)V"⟩
abbrev cX2_isInFlight : ByteArray := prog_4_method_5_code
def yX2_isInFlight : MethodName := ⟨RX2, "isInFlight", "(I)Z"⟩
abbrev cX2_isPaidIn : ByteArray := prog_4_method_6_code
def yX2_isPaidIn : MethodName := ⟨RX2, "isPaidIn", "(III)Z"⟩
abbrev cX2_isOfLastWeek : ByteArray := prog_4_method_7_code
def yX2_isOfLastWeek : MethodName := ⟨RX2, "isOfLastWeek", "(I)Z"⟩
abbrev cX2_held : ByteArray := prog_4_method_8_code
def yX2_held : MethodName := ⟨RX2, "held", "(II)I"⟩
abbrev cX2_usable : ByteArray := prog_4_method_9_code
def yX2_usable : MethodName := ⟨RX2, "usable", "(II)I"⟩
abbrev cX2_paidInLately : ByteArray := prog_4_method_10_code
def yX2_paidInLately : MethodName := ⟨RX2, "paidInLately", "(II)I"⟩
abbrev cX2_lawValue : ByteArray := prog_4_method_11_code
def yX2_lawValue : MethodName := ⟨RX2, "lawValue", "(IIIIII)I"⟩
abbrev cX2_change : ByteArray := prog_4_method_12_code
def yX2_change : MethodName := ⟨RX2, "change", "(IIIII)V"⟩
abbrev cX2_takeIn : ByteArray := prog_4_method_13_code
def yX2_takeIn : MethodName := ⟨RX2, "takeIn", "(IIIII)I"⟩
abbrev cX2_morning : ByteArray := prog_4_method_14_code
def yX2_morning : MethodName := ⟨RX2, "morning", "(I)I"⟩
abbrev cX2_rideTrains : ByteArray := prog_4_method_15_code
def yX2_rideTrains : MethodName := ⟨RX2, "rideTrains", "()V"⟩
abbrev cX2_comeBack : ByteArray := prog_4_method_16_code
def yX2_comeBack : MethodName := ⟨RX2, "comeBack", "()V"⟩
abbrev cX2_listAsked : ByteArray := prog_4_method_17_code
def yX2_listAsked : MethodName := ⟨RX2, "listAsked", "(II)I"⟩
abbrev cX2_isAhead : ByteArray := prog_4_method_18_code
def yX2_isAhead : MethodName := ⟨RX2, "isAhead", "(III)Z"⟩
abbrev cX2_askFor : ByteArray := prog_4_method_19_code
def yX2_askFor : MethodName := ⟨RX2, "askFor", "(I)Z"⟩
abbrev cX2_booksOf : ByteArray := prog_4_method_20_code
def yX2_booksOf : MethodName := ⟨RX2, "booksOf", "(I)I"⟩
abbrev cX2_waterOf : ByteArray := prog_4_method_21_code
def yX2_waterOf : MethodName := ⟨RX2, "waterOf", "(I)I"⟩
abbrev cX2_sumInFlight : ByteArray := prog_4_method_22_code
def yX2_sumInFlight : MethodName := ⟨RX2, "sumInFlight", "()I"⟩
abbrev cX2_countInFlight : ByteArray := prog_4_method_23_code
def yX2_countInFlight : MethodName := ⟨RX2, "countInFlight", "()I"⟩
abbrev cX2_lossOf : ByteArray := prog_4_method_24_code
def yX2_lossOf : MethodName := ⟨RX2, "lossOf", "(I)I"⟩
abbrev cX2_lossOfAll : ByteArray := prog_4_method_25_code
def yX2_lossOfAll : MethodName := ⟨RX2, "lossOfAll", "()I"⟩
abbrev cX2_restsOn : ByteArray := prog_4_method_26_code
def yX2_restsOn : MethodName := ⟨RX2, "restsOn", "(I)I"⟩
abbrev cX2_provenBook : ByteArray := prog_4_method_27_code
def yX2_provenBook : MethodName := ⟨RX2, "provenBook", "(II)I"⟩
def RX3 : String := "NowhereMoney$Reader"
def TX3 : u_T := fun k => match k with
  | 0 => ("NowhereMoney$Reader", "draft", "LNowhereMoney$Script;", true)
  | 1 => ("NowhereMoney$Reader", "kinds", "[I", true)
  | 2 => ("NowhereMoney$Reader", "places", "[I", true)
  | 3 => ("NowhereMoney$Reader", "numbers", "[I", true)
  | 4 => ("NowhereMoney$Reader", "tokens", "I", false)
  | 5 => ("NowhereMoney$Reader", "at", "I", false)
  | 6 => ("NowhereMoney$Reader", "ofSigns", "Z", false)
  | 7 => ("NowhereMoney$Reader", "fault", "I", false)
  | _ => ("NowhereMoney$Reader", "faultPlace", "I", false)
def tyX3 : Nat → FieldType := fun k => match k with
  | 0 => .object "NowhereMoney$Script"
  | 1 => .array .int
  | 2 => .array .int
  | 3 => .array .int
  | 4 => .int
  | 5 => .int
  | 6 => .boolean
  | 7 => .int
  | _ => .int
abbrev wsX30 : List Cond := u_ws RX3 TX3 9
theorem nmX3 : ∀ a, a < 9 → ∀ b, b < 9 → a ≠ b → (TX3 a).2.1 ≠ (TX3 b).2.1 := by decide +kernel
theorem tyX3_ok : ∀ k, k < 9 → parseFieldDescriptor (TX3 k).2.2.1 = some (tyX3 k) := by decide +kernel
abbrev cX3_init : ByteArray := prog_5_method_1_code
def yX3_init : MethodName := ⟨RX3, "<init>", "()V"⟩
abbrev cX3_compile : ByteArray := prog_5_method_2_code
def yX3_compile : MethodName := ⟨RX3, "compile", "(LNowhereMoney$Tape;Z)Z"⟩
abbrev cX3_isLineWord : ByteArray := prog_5_method_3_code
def yX3_isLineWord : MethodName := ⟨RX3, "isLineWord", "(I)Z"⟩
abbrev cX3_kind : ByteArray := prog_5_method_4_code
def yX3_kind : MethodName := ⟨RX3, "kind", "()I"⟩
abbrev cX3_fails : ByteArray := prog_5_method_5_code
def yX3_fails : MethodName := ⟨RX3, "fails", "(I)Z"⟩
abbrev cX3_either : ByteArray := prog_5_method_6_code
def yX3_either : MethodName := ⟨RX3, "either", "(I)Z"⟩
abbrev cX3_both : ByteArray := prog_5_method_7_code
def yX3_both : MethodName := ⟨RX3, "both", "(I)Z"⟩
abbrev cX3_single : ByteArray := prog_5_method_8_code
def yX3_single : MethodName := ⟨RX3, "single", "(I)Z"⟩
abbrev cX3_sum : ByteArray := prog_5_method_9_code
def yX3_sum : MethodName := ⟨RX3, "sum", "()Z"⟩
abbrev cX3_product : ByteArray := prog_5_method_10_code
def yX3_product : MethodName := ⟨RX3, "product", "()Z"⟩
abbrev cX3_scan : ByteArray := prog_5_method_11_code
def yX3_scan : MethodName := ⟨RX3, "scan", "(LNowhereMoney$Tape;)V"⟩
abbrev cX3_isLetter : ByteArray := prog_5_method_12_code
def yX3_isLetter : MethodName := ⟨RX3, "isLetter", "(I)Z"⟩
abbrev cX3_isDigit : ByteArray := prog_5_method_13_code
def yX3_isDigit : MethodName := ⟨RX3, "isDigit", "(I)Z"⟩
abbrev cX3_addToken : ByteArray := prog_5_method_14_code
def yX3_addToken : MethodName := ⟨RX3, "addToken", "(III)V"⟩
abbrev cX3_addNumber : ByteArray := prog_5_method_15_code
def yX3_addNumber : MethodName := ⟨RX3, "addNumber", "(LNowhereMoney$Tape;II)V"⟩
abbrev cX3_addWord : ByteArray := prog_5_method_16_code
def yX3_addWord : MethodName := ⟨RX3, "addWord", "(LNowhereMoney$Tape;II)V"⟩
abbrev cX3_isWord : ByteArray := prog_5_method_17_code
def yX3_isWord : MethodName := ⟨RX3, "isWord", "(LNowhereMoney$Tape;IILjava/lang/String;)Z"⟩
abbrev cX3_lawWord : ByteArray := prog_5_method_18_code
def yX3_lawWord : MethodName := ⟨RX3, "lawWord", "(I)Ljava/lang/String;"⟩
abbrev cX3_signWord : ByteArray := prog_5_method_19_code
def yX3_signWord : MethodName := ⟨RX3, "signWord", "(I)Ljava/lang/String;"⟩
def RX4 : String := "NowhereMoney$Rings"
def TX4 : u_T := fun k => match k with
  | 0 => ("NowhereMoney$Rings", "heldUp", "[I", true)
  | 1 => ("NowhereMoney$Rings", "order", "[I", true)
  | 2 => ("NowhereMoney$Rings", "most", "I", false)
  | _ => ("NowhereMoney$Rings", "mostRing", "I", false)
def tyX4 : Nat → FieldType := fun k => match k with
  | 0 => .array .int
  | 1 => .array .int
  | 2 => .int
  | _ => .int
abbrev wsX40 : List Cond := u_ws RX4 TX4 4
theorem nmX4 : ∀ a, a < 4 → ∀ b, b < 4 → a ≠ b → (TX4 a).2.1 ≠ (TX4 b).2.1 := by decide +kernel
theorem tyX4_ok : ∀ k, k < 4 → parseFieldDescriptor (TX4 k).2.2.1 = some (tyX4 k) := by decide +kernel
abbrev cX4_init : ByteArray := prog_6_method_1_code
def yX4_init : MethodName := ⟨RX4, "<init>", "()V"⟩
abbrev cX4_search : ByteArray := prog_6_method_2_code
def yX4_search : MethodName := ⟨RX4, "search", "(I)V"⟩
abbrev cX4_unfold : ByteArray := prog_6_method_3_code
def yX4_unfold : MethodName := ⟨RX4, "unfold", "(II)Z"⟩
def RX5 : String := "NowhereMoney$Script"
def TX5 : u_T := fun k => match k with
  | 0 => ("NowhereMoney$Script", "codes", "[I", true)
  | 1 => ("NowhereMoney$Script", "words", "[I", true)
  | 2 => ("NowhereMoney$Script", "starts", "[I", true)
  | 3 => ("NowhereMoney$Script", "conditions", "[I", true)
  | 4 => ("NowhereMoney$Script", "stops", "[I", true)
  | 5 => ("NowhereMoney$Script", "stack", "[I", true)
  | 6 => ("NowhereMoney$Script", "lines", "I", false)
  | _ => ("NowhereMoney$Script", "length", "I", false)
def tyX5 : Nat → FieldType := fun k => match k with
  | 0 => .array .int
  | 1 => .array .int
  | 2 => .array .int
  | 3 => .array .int
  | 4 => .array .int
  | 5 => .array .int
  | 6 => .int
  | _ => .int
abbrev wsX50 : List Cond := u_ws RX5 TX5 8
theorem nmX5 : ∀ a, a < 8 → ∀ b, b < 8 → a ≠ b → (TX5 a).2.1 ≠ (TX5 b).2.1 := by decide +kernel
theorem tyX5_ok : ∀ k, k < 8 → parseFieldDescriptor (TX5 k).2.2.1 = some (tyX5 k) := by decide +kernel
abbrev cX5_init : ByteArray := prog_7_method_1_code
def yX5_init : MethodName := ⟨RX5, "<init>", "()V"⟩
abbrev cX5_clear : ByteArray := prog_7_method_2_code
def yX5_clear : MethodName := ⟨RX5, "clear", "()V"⟩
abbrev cX5_add : ByteArray := prog_7_method_3_code
def yX5_add : MethodName := ⟨RX5, "add", "(I)V"⟩
abbrev cX5_openLine : ByteArray := prog_7_method_4_code
def yX5_openLine : MethodName := ⟨RX5, "openLine", "(I)V"⟩
abbrev cX5_openCondition : ByteArray := prog_7_method_5_code
def yX5_openCondition : MethodName := ⟨RX5, "openCondition", "()V"⟩
abbrev cX5_closeLine : ByteArray := prog_7_method_6_code
def yX5_closeLine : MethodName := ⟨RX5, "closeLine", "()V"⟩
abbrev cX5_copyFrom : ByteArray := prog_7_method_7_code
def yX5_copyFrom : MethodName := ⟨RX5, "copyFrom", "(LNowhereMoney$Script;)V"⟩
abbrev cX5_firstValue : ByteArray := prog_7_method_8_code
def yX5_firstValue : MethodName := ⟨RX5, "firstValue", "(I[I)I"⟩
abbrev cX5_anyIsSo : ByteArray := prog_7_method_9_code
def yX5_anyIsSo : MethodName := ⟨RX5, "anyIsSo", "([I)Z"⟩
abbrev cX5_isSo : ByteArray := prog_7_method_10_code
def yX5_isSo : MethodName := ⟨RX5, "isSo", "(I[I)Z"⟩
abbrev cX5_run : ByteArray := prog_7_method_11_code
def yX5_run : MethodName := ⟨RX5, "run", "(II[I)I"⟩
def RX6 : String := "NowhereMoney$Tape"
def TX6 : u_T := fun k => match k with
  | 0 => ("NowhereMoney$Tape", "bytes", "[I", true)
  | _ => ("NowhereMoney$Tape", "length", "I", false)
def tyX6 : Nat → FieldType := fun k => match k with
  | 0 => .array .int
  | _ => .int
abbrev wsX60 : List Cond := u_ws RX6 TX6 2
theorem nmX6 : ∀ a, a < 2 → ∀ b, b < 2 → a ≠ b → (TX6 a).2.1 ≠ (TX6 b).2.1 := by decide +kernel
theorem tyX6_ok : ∀ k, k < 2 → parseFieldDescriptor (TX6 k).2.2.1 = some (tyX6 k) := by decide +kernel
abbrev cX6_init : ByteArray := prog_8_method_1_code
def yX6_init : MethodName := ⟨RX6, "<init>", "()V"⟩
abbrev cX6_put : ByteArray := prog_8_method_2_code
def yX6_put : MethodName := ⟨RX6, "put", "(I)V"⟩
def RX7 : String := "NowhereMoney$Watch"
def TX7 : u_T := fun k => match k with
  | 0 => ("NowhereMoney$Watch", "world", "LNowhereMoney$World;", true)
  | _ => ("NowhereMoney$Watch", "facts", "[I", true)
def tyX7 : Nat → FieldType := fun k => match k with
  | 0 => .object "NowhereMoney$World"
  | _ => .array .int
abbrev wsX70 : List Cond := u_ws RX7 TX7 2
theorem nmX7 : ∀ a, a < 2 → ∀ b, b < 2 → a ≠ b → (TX7 a).2.1 ≠ (TX7 b).2.1 := by decide +kernel
theorem tyX7_ok : ∀ k, k < 2 → parseFieldDescriptor (TX7 k).2.2.1 = some (tyX7 k) := by decide +kernel
abbrev cX7_init : ByteArray := prog_9_method_1_code
def yX7_init : MethodName := ⟨RX7, "<init>", "(LNowhereMoney$World;)V"⟩
abbrev cX7_criesFor : ByteArray := prog_9_method_2_code
def yX7_criesFor : MethodName := ⟨RX7, "criesFor", "(II)Z"⟩
abbrev cX7_cryingHouses : ByteArray := prog_9_method_3_code
def yX7_cryingHouses : MethodName := ⟨RX7, "cryingHouses", "(I)I"⟩
abbrev cX7_lookAlone : ByteArray := prog_9_method_4_code
def yX7_lookAlone : MethodName := ⟨RX7, "lookAlone", "()V"⟩
abbrev cX7_turnOf : ByteArray := prog_9_method_5_code
def yX7_turnOf : MethodName := ⟨RX7, "turnOf", "(II)I"⟩
abbrev cX7_gather : ByteArray := prog_9_method_6_code
def yX7_gather : MethodName := ⟨RX7, "gather", "(II)V"⟩
abbrev cX7_isAmong : ByteArray := prog_9_method_7_code
def yX7_isAmong : MethodName := ⟨RX7, "isAmong", "(III)Z"⟩
abbrev cX7_hasMatch : ByteArray := prog_9_method_8_code
def yX7_hasMatch : MethodName := ⟨RX7, "hasMatch", "(III)Z"⟩
abbrev cX7_lowOf : ByteArray := prog_9_method_9_code
def yX7_lowOf : MethodName := ⟨RX7, "lowOf", "(III)I"⟩
def RX8 : String := "NowhereMoney$Ways"
def TX8 : u_T := fun k => match k with
  | 0 => ("NowhereMoney$Ways", "spent", "[I", true)
  | 1 => ("NowhereMoney$Ways", "usable", "[I", true)
  | 2 => ("NowhereMoney$Ways", "most", "I", false)
  | 3 => ("NowhereMoney$Ways", "least", "I", false)
  | 4 => ("NowhereMoney$Ways", "mostWay", "I", false)
  | _ => ("NowhereMoney$Ways", "leastWay", "I", false)
def tyX8 : Nat → FieldType := fun k => match k with
  | 0 => .array .int
  | 1 => .array .int
  | 2 => .int
  | 3 => .int
  | 4 => .int
  | _ => .int
abbrev wsX80 : List Cond := u_ws RX8 TX8 6
theorem nmX8 : ∀ a, a < 6 → ∀ b, b < 6 → a ≠ b → (TX8 a).2.1 ≠ (TX8 b).2.1 := by decide +kernel
theorem tyX8_ok : ∀ k, k < 6 → parseFieldDescriptor (TX8 k).2.2.1 = some (tyX8 k) := by decide +kernel
abbrev cX8_init : ByteArray := prog_10_method_1_code
def yX8_init : MethodName := ⟨RX8, "<init>", "()V"⟩
abbrev cX8_search : ByteArray := prog_10_method_2_code
def yX8_search : MethodName := ⟨RX8, "search", "(LNowhereMoney$World;I)Z"⟩
abbrev cX8_bankOf : ByteArray := prog_10_method_3_code
def yX8_bankOf : MethodName := ⟨RX8, "bankOf", "(III)I"⟩
abbrev cX8_isWay : ByteArray := prog_10_method_4_code
def yX8_isWay : MethodName := ⟨RX8, "isWay", "(LNowhereMoney$World;I)Z"⟩
abbrev cX8_floatOf : ByteArray := prog_10_method_5_code
def yX8_floatOf : MethodName := ⟨RX8, "floatOf", "(LNowhereMoney$World;I)I"⟩
def RX9 : String := "NowhereMoney$World"
def TX9 : u_T := fun k => match k with
  | 0 => ("NowhereMoney$World", "country", "LNowhereMoney$Country;", true)
  | 1 => ("NowhereMoney$World", "entries", "LNowhereMoney$Entries;", true)
  | 2 => ("NowhereMoney$World", "ledger", "LNowhereMoney$Ledger;", true)
  | 3 => ("NowhereMoney$World", "kept", "[I", true)
  | 4 => ("NowhereMoney$World", "firstCries", "[I", true)
  | 5 => ("NowhereMoney$World", "payAmounts", "[I", true)
  | 6 => ("NowhereMoney$World", "payTowns", "[I", true)
  | 7 => ("NowhereMoney$World", "payments", "I", false)
  | _ => ("NowhereMoney$World", "kiters", "I", false)
def tyX9 : Nat → FieldType := fun k => match k with
  | 0 => .object "NowhereMoney$Country"
  | 1 => .object "NowhereMoney$Entries"
  | 2 => .object "NowhereMoney$Ledger"
  | 3 => .array .int
  | 4 => .array .int
  | 5 => .array .int
  | 6 => .array .int
  | 7 => .int
  | _ => .int
abbrev wsX90 : List Cond := u_ws RX9 TX9 9
theorem nmX9 : ∀ a, a < 9 → ∀ b, b < 9 → a ≠ b → (TX9 a).2.1 ≠ (TX9 b).2.1 := by decide +kernel
theorem tyX9_ok : ∀ k, k < 9 → parseFieldDescriptor (TX9 k).2.2.1 = some (tyX9 k) := by decide +kernel
abbrev cX9_init : ByteArray := prog_11_method_1_code
def yX9_init : MethodName := ⟨RX9, "<init>", "()V"⟩
abbrev cX9_copyFrom : ByteArray := prog_11_method_2_code
def yX9_copyFrom : MethodName := ⟨RX9, "copyFrom", "(LNowhereMoney$World;)V"⟩
abbrev cX9_isKiter : ByteArray := prog_11_method_3_code
def yX9_isKiter : MethodName := ⟨RX9, "isKiter", "(I)Z"⟩
abbrev cX9_keep : ByteArray := prog_11_method_4_code
def yX9_keep : MethodName := ⟨RX9, "keep", "()V"⟩
abbrev cX9_keptAt : ByteArray := prog_11_method_5_code
def yX9_keptAt : MethodName := ⟨RX9, "keptAt", "(III)I"⟩
def RX10 : String := "NowhereMoney"
def TX10 : u_T := fun k => match k with
  | 0 => ("NowhereMoney", "tape", "LNowhereMoney$Tape;", true)
  | 1 => ("NowhereMoney", "reader", "LNowhereMoney$Reader;", true)
  | 2 => ("NowhereMoney", "world", "LNowhereMoney$World;", true)
  | 3 => ("NowhereMoney", "picture", "LNowhereMoney$World;", true)
  | 4 => ("NowhereMoney", "thought", "LNowhereMoney$Ledger;", true)
  | 5 => ("NowhereMoney", "watch", "LNowhereMoney$Watch;", true)
  | 6 => ("NowhereMoney", "rings", "LNowhereMoney$Rings;", true)
  | 7 => ("NowhereMoney", "ways", "LNowhereMoney$Ways;", true)
  | 8 => ("NowhereMoney", "nets", "[I", true)
  | 9 => ("NowhereMoney", "hasPicture", "Z", false)
  | 10 => ("NowhereMoney", "latestFault", "I", false)
  | 11 => ("NowhereMoney", "latestPlace", "I", false)
  | 12 => ("NowhereMoney", "gross", "I", false)
  | 13 => ("NowhereMoney", "endDays", "I", false)
  | _ => ("NowhereMoney", "endReturned", "I", false)
def tyX10 : Nat → FieldType := fun k => match k with
  | 0 => .object "NowhereMoney$Tape"
  | 1 => .object "NowhereMoney$Reader"
  | 2 => .object "NowhereMoney$World"
  | 3 => .object "NowhereMoney$World"
  | 4 => .object "NowhereMoney$Ledger"
  | 5 => .object "NowhereMoney$Watch"
  | 6 => .object "NowhereMoney$Rings"
  | 7 => .object "NowhereMoney$Ways"
  | 8 => .array .int
  | 9 => .boolean
  | 10 => .int
  | 11 => .int
  | 12 => .int
  | 13 => .int
  | _ => .int
abbrev wsX100 : List Cond := u_ws RX10 TX10 15
theorem nmX10 : ∀ a, a < 15 → ∀ b, b < 15 → a ≠ b → (TX10 a).2.1 ≠ (TX10 b).2.1 := by decide +kernel
theorem tyX10_ok : ∀ k, k < 15 → parseFieldDescriptor (TX10 k).2.2.1 = some (tyX10 k) := by decide +kernel
abbrev cX10_init : ByteArray := prog_1_method_1_code
def yX10_init : MethodName := ⟨RX10, "<init>", "()V"⟩
abbrev cX10_town : ByteArray := prog_1_method_2_code
def yX10_town : MethodName := ⟨RX10, "town", "(II)Z"⟩
abbrev cX10_rail : ByteArray := prog_1_method_3_code
def yX10_rail : MethodName := ⟨RX10, "rail", "(III)Z"⟩
abbrev cX10_told : ByteArray := prog_1_method_4_code
def yX10_told : MethodName := ⟨RX10, "told", "(IIZ)Z"⟩
abbrev cX10_feed : ByteArray := prog_1_method_5_code
def yX10_feed : MethodName := ⟨RX10, "feed", "(IIIII)I"⟩
abbrev cX10_end : ByteArray := prog_1_method_6_code
def yX10_end : MethodName := ⟨RX10, "end", "(I)Z"⟩
abbrev cX10_text : ByteArray := prog_1_method_7_code
def yX10_text : MethodName := ⟨RX10, "text", "(I)I"⟩
abbrev cX10_fault : ByteArray := prog_1_method_8_code
def yX10_fault : MethodName := ⟨RX10, "fault", "(I)I"⟩
abbrev cX10_cash : ByteArray := prog_1_method_9_code
def yX10_cash : MethodName := ⟨RX10, "cash", "(III)Z"⟩
abbrev cX10_pay : ByteArray := prog_1_method_10_code
def yX10_pay : MethodName := ⟨RX10, "pay", "(IIIII)I"⟩
abbrev cX10_day : ByteArray := prog_1_method_11_code
def yX10_day : MethodName := ⟨RX10, "day", "()I"⟩
abbrev cX10_book : ByteArray := prog_1_method_12_code
def yX10_book : MethodName := ⟨RX10, "book", "(III)I"⟩
abbrev cX10_cheque : ByteArray := prog_1_method_13_code
def yX10_cheque : MethodName := ⟨RX10, "cheque", "(II)I"⟩
abbrev cX10_really : ByteArray := prog_1_method_14_code
def yX10_really : MethodName := ⟨RX10, "really", "(II)I"⟩
abbrev cX10_kept : ByteArray := prog_1_method_15_code
def yX10_kept : MethodName := ⟨RX10, "kept", "(III)I"⟩
abbrev cX10_sums : ByteArray := prog_1_method_16_code
def yX10_sums : MethodName := ⟨RX10, "sums", "(I)I"⟩
abbrev cX10_flight : ByteArray := prog_1_method_17_code
def yX10_flight : MethodName := ⟨RX10, "flight", "(III)I"⟩
abbrev cX10_ring : ByteArray := prog_1_method_18_code
def yX10_ring : MethodName := ⟨RX10, "ring", "(IIII)I"⟩
abbrev cX10_letIn : ByteArray := prog_1_method_19_code
def yX10_letIn : MethodName := ⟨RX10, "letIn", "(IIII)I"⟩
abbrev cX10_leastHold : ByteArray := prog_1_method_20_code
def yX10_leastHold : MethodName := ⟨RX10, "leastHold", "(III)I"⟩
abbrev cX10_chain : ByteArray := prog_1_method_21_code
def yX10_chain : MethodName := ⟨RX10, "chain", "(II)I"⟩
abbrev cX10_entry : ByteArray := prog_1_method_22_code
def yX10_entry : MethodName := ⟨RX10, "entry", "(II)I"⟩
abbrev cX10_growth : ByteArray := prog_1_method_23_code
def yX10_growth : MethodName := ⟨RX10, "growth", "(III)I"⟩
abbrev cX10_sign : ByteArray := prog_1_method_24_code
def yX10_sign : MethodName := ⟨RX10, "sign", "(III)I"⟩
abbrev cX10_kiters : ByteArray := prog_1_method_25_code
def yX10_kiters : MethodName := ⟨RX10, "kiters", "(I)Z"⟩
abbrev cX10_cries : ByteArray := prog_1_method_26_code
def yX10_cries : MethodName := ⟨RX10, "cries", "(II)I"⟩
abbrev cX10_like : ByteArray := prog_1_method_27_code
def yX10_like : MethodName := ⟨RX10, "like", "(III)I"⟩
abbrev cX10_alone : ByteArray := prog_1_method_28_code
def yX10_alone : MethodName := ⟨RX10, "alone", "(II)I"⟩
abbrev cX10_ending : ByteArray := prog_1_method_29_code
def yX10_ending : MethodName := ⟨RX10, "ending", "(II)I"⟩
abbrev cX10_snowed : ByteArray := prog_1_method_30_code
def yX10_snowed : MethodName := ⟨RX10, "snowed", "()I"⟩
abbrev cX10_payment : ByteArray := prog_1_method_31_code
def yX10_payment : MethodName := ⟨RX10, "payment", "(II)I"⟩
abbrev cX10_payFloat : ByteArray := prog_1_method_32_code
def yX10_payFloat : MethodName := ⟨RX10, "payFloat", "(II)I"⟩
abbrev cX10_room : ByteArray := prog_1_method_33_code
def yX10_room : MethodName := ⟨RX10, "room", "(II)I"⟩
abbrev cX10_seen : ByteArray := prog_1_method_34_code
def yX10_seen : MethodName := ⟨RX10, "seen", "(I)I"⟩
abbrev cX10_burnt : ByteArray := prog_1_method_35_code
def yX10_burnt : MethodName := ⟨RX10, "burnt", "(IIII)I"⟩
abbrev cX10_honest : ByteArray := prog_1_method_36_code
def yX10_honest : MethodName := ⟨RX10, "honest", "(I)I"⟩
abbrev cX10_image : ByteArray := prog_1_method_37_code
def yX10_image : MethodName := ⟨RX10, "image", "(Z)Z"⟩
abbrev cX10_look : ByteArray := prog_1_method_38_code
def yX10_look : MethodName := ⟨RX10, "look", "(I)I"⟩
abbrev cX10_isBank : ByteArray := prog_1_method_39_code
def yX10_isBank : MethodName := ⟨RX10, "isBank", "(I)Z"⟩
abbrev cX10_isHouse : ByteArray := prog_1_method_40_code
def yX10_isHouse : MethodName := ⟨RX10, "isHouse", "(I)Z"⟩
abbrev cX10_isTown : ByteArray := prog_1_method_41_code
def yX10_isTown : MethodName := ⟨RX10, "isTown", "(I)Z"⟩
abbrev cX10_isDay : ByteArray := prog_1_method_42_code
def yX10_isDay : MethodName := ⟨RX10, "isDay", "(I)Z"⟩
abbrev cX10_isAmount : ByteArray := prog_1_method_43_code
def yX10_isAmount : MethodName := ⟨RX10, "isAmount", "(I)Z"⟩
abbrev cX10_isBankSet : ByteArray := prog_1_method_44_code
def yX10_isBankSet : MethodName := ⟨RX10, "isBankSet", "(I)Z"⟩
abbrev cX10_isCheque : ByteArray := prog_1_method_45_code
def yX10_isCheque : MethodName := ⟨RX10, "isCheque", "(I)Z"⟩
abbrev cX10_isBusinessDay : ByteArray := prog_1_method_46_code
def yX10_isBusinessDay : MethodName := ⟨RX10, "isBusinessDay", "(I)Z"⟩
abbrev cX10_isRing : ByteArray := prog_1_method_47_code
def yX10_isRing : MethodName := ⟨RX10, "isRing", "(III)Z"⟩
abbrev cX10_sumOf : ByteArray := prog_1_method_48_code
def yX10_sumOf : MethodName := ⟨RX10, "sumOf", "([I)I"⟩
abbrev cX10_fillRings : ByteArray := prog_1_method_49_code
def yX10_fillRings : MethodName := ⟨RX10, "fillRings", "(III)V"⟩
abbrev cX10_thinkEnd : ByteArray := prog_1_method_50_code
def yX10_thinkEnd : MethodName := ⟨RX10, "thinkEnd", "(I)I"⟩
abbrev cX10_netOut : ByteArray := prog_1_method_51_code
def yX10_netOut : MethodName := ⟨RX10, "netOut", "(I)V"⟩
abbrev cX10_roundOfRoom : ByteArray := prog_1_method_52_code
def yX10_roundOfRoom : MethodName := ⟨RX10, "roundOfRoom", "()I"⟩
def RX11 : String := "NowhereMoneyModel"
def TX11 : u_T := fun k => match k with
  | 0 => ("NowhereMoneyModel", "w", "[I", true)
  | 1 => ("NowhereMoneyModel", "kept", "[I", true)
  | 2 => ("NowhereMoneyModel", "thought", "[I", true)
  | 3 => ("NowhereMoneyModel", "hasImage", "Z", false)
  | 4 => ("NowhereMoneyModel", "freshLine", "[I", true)
  | 5 => ("NowhereMoneyModel", "freshStep", "[I", true)
  | 6 => ("NowhereMoneyModel", "tape", "[I", true)
  | 7 => ("NowhereMoneyModel", "pile", "[I", true)
  | 8 => ("NowhereMoneyModel", "facts", "[I", true)
  | 9 => ("NowhereMoneyModel", "which", "I", false)
  | 10 => ("NowhereMoneyModel", "lines", "I", false)
  | 11 => ("NowhereMoneyModel", "steps", "I", false)
  | 12 => ("NowhereMoneyModel", "taped", "I", false)
  | 13 => ("NowhereMoneyModel", "at", "I", false)
  | 14 => ("NowhereMoneyModel", "token", "I", false)
  | 15 => ("NowhereMoneyModel", "tokenAt", "I", false)
  | 16 => ("NowhereMoneyModel", "value", "I", false)
  | 17 => ("NowhereMoneyModel", "wrong", "I", false)
  | 18 => ("NowhereMoneyModel", "wrongAt", "I", false)
  | 19 => ("NowhereMoneyModel", "faultKind", "I", false)
  | 20 => ("NowhereMoneyModel", "depth", "I", false)
  | 21 => ("NowhereMoneyModel", "faultPlace", "I", false)
  | 22 => ("NowhereMoneyModel", "asked", "[I", true)
  | 23 => ("NowhereMoneyModel", "askedMany", "I", false)
  | 24 => ("NowhereMoneyModel", "ring", "[I", true)
  | 25 => ("NowhereMoneyModel", "bestRing", "[I", true)
  | 26 => ("NowhereMoneyModel", "most", "I", false)
  | 27 => ("NowhereMoneyModel", "oneHold", "I", false)
  | 28 => ("NowhereMoneyModel", "endDays", "I", false)
  | 29 => ("NowhereMoneyModel", "endReturned", "I", false)
  | _ => ("NowhereMoneyModel", "onBank", "[I", true)
def tyX11 : Nat → FieldType := fun k => match k with
  | 0 => .array .int
  | 1 => .array .int
  | 2 => .array .int
  | 3 => .boolean
  | 4 => .array .int
  | 5 => .array .int
  | 6 => .array .int
  | 7 => .array .int
  | 8 => .array .int
  | 9 => .int
  | 10 => .int
  | 11 => .int
  | 12 => .int
  | 13 => .int
  | 14 => .int
  | 15 => .int
  | 16 => .int
  | 17 => .int
  | 18 => .int
  | 19 => .int
  | 20 => .int
  | 21 => .int
  | 22 => .array .int
  | 23 => .int
  | 24 => .array .int
  | 25 => .array .int
  | 26 => .int
  | 27 => .int
  | 28 => .int
  | 29 => .int
  | _ => .array .int
abbrev wsX110 : List Cond := u_ws RX11 TX11 31
theorem nmX11 : ∀ a, a < 31 → ∀ b, b < 31 → a ≠ b → (TX11 a).2.1 ≠ (TX11 b).2.1 := by decide +kernel
theorem tyX11_ok : ∀ k, k < 31 → parseFieldDescriptor (TX11 k).2.2.1 = some (tyX11 k) := by decide +kernel
abbrev cX11_isIn : ByteArray := prog_13_method_1_code
def yX11_isIn : MethodName := ⟨RX11, "isIn", "(III)Z"⟩
abbrev cX11_apart : ByteArray := prog_13_method_2_code
def yX11_apart : MethodName := ⟨RX11, "apart", "(II)I"⟩
abbrev cX11_init : ByteArray := prog_13_method_3_code
def yX11_init : MethodName := ⟨RX11, "<init>", "()V"⟩
abbrev cX11_isBank : ByteArray := prog_13_method_4_code
def yX11_isBank : MethodName := ⟨RX11, "isBank", "(I)Z"⟩
abbrev cX11_isHouse : ByteArray := prog_13_method_5_code
def yX11_isHouse : MethodName := ⟨RX11, "isHouse", "(I)Z"⟩
abbrev cX11_town : ByteArray := prog_13_method_6_code
def yX11_town : MethodName := ⟨RX11, "town", "(II)Z"⟩
abbrev cX11_rail : ByteArray := prog_13_method_7_code
def yX11_rail : MethodName := ⟨RX11, "rail", "(III)Z"⟩
abbrev cX11_told : ByteArray := prog_13_method_8_code
def yX11_told : MethodName := ⟨RX11, "told", "(IIZ)Z"⟩
abbrev cX11_isBusiness : ByteArray := prog_13_method_9_code
def yX11_isBusiness : MethodName := ⟨RX11, "isBusiness", "(I)Z"⟩
abbrev cX11_hasTrain : ByteArray := prog_13_method_10_code
def yX11_hasTrain : MethodName := ⟨RX11, "hasTrain", "(I)Z"⟩
abbrev cX11_railBetween : ByteArray := prog_13_method_11_code
def yX11_railBetween : MethodName := ⟨RX11, "railBetween", "(II)I"⟩
abbrev cX11_feed : ByteArray := prog_13_method_12_code
def yX11_feed : MethodName := ⟨RX11, "feed", "(IIIII)I"⟩
abbrev cX11_end : ByteArray := prog_13_method_13_code
def yX11_end : MethodName := ⟨RX11, "end", "(I)Z"⟩
abbrev cX11_see : ByteArray := prog_13_method_14_code
def yX11_see : MethodName := ⟨RX11, "see", "(I)I"⟩
abbrev cX11_isLetter : ByteArray := prog_13_method_15_code
def yX11_isLetter : MethodName := ⟨RX11, "isLetter", "(I)Z"⟩
abbrev cX11_isDigit : ByteArray := prog_13_method_16_code
def yX11_isDigit : MethodName := ⟨RX11, "isDigit", "(I)Z"⟩
abbrev cX11_is : ByteArray := prog_13_method_17_code
def yX11_is : MethodName := ⟨RX11, "is", "(Ljava/lang/String;)Z"⟩
abbrev cX11_lawWord : ByteArray := prog_13_method_18_code
def yX11_lawWord : MethodName := ⟨RX11, "lawWord", "()I"⟩
abbrev cX11_signWord : ByteArray := prog_13_method_19_code
def yX11_signWord : MethodName := ⟨RX11, "signWord", "()I"⟩
abbrev cX11_word : ByteArray := prog_13_method_20_code
def yX11_word : MethodName := ⟨RX11, "word", "()I"⟩
abbrev cX11_next0 : ByteArray := prog_13_method_21_code
def yX11_next0 : MethodName := ⟨RX11, "next0", "()V"⟩
abbrev cX11_bad : ByteArray := prog_13_method_22_code
def yX11_bad : MethodName := ⟨RX11, "bad", "(I)Z"⟩
abbrev cX11_need : ByteArray := prog_13_method_23_code
def yX11_need : MethodName := ⟨RX11, "need", "(I)Z"⟩
abbrev cX11_lay : ByteArray := prog_13_method_24_code
def yX11_lay : MethodName := ⟨RX11, "lay", "(II)V"⟩
abbrev cX11_opens : ByteArray := prog_13_method_25_code
def yX11_opens : MethodName := ⟨RX11, "opens", "()Z"⟩
abbrev cX11_sumUp : ByteArray := prog_13_method_26_code
def yX11_sumUp : MethodName := ⟨RX11, "sumUp", "()Z"⟩
abbrev cX11_product : ByteArray := prog_13_method_27_code
def yX11_product : MethodName := ⟨RX11, "product", "()Z"⟩
abbrev cX11_unit : ByteArray := prog_13_method_28_code
def yX11_unit : MethodName := ⟨RX11, "unit", "()Z"⟩
abbrev cX11_any : ByteArray := prog_13_method_29_code
def yX11_any : MethodName := ⟨RX11, "any", "()Z"⟩
abbrev cX11_every : ByteArray := prog_13_method_30_code
def yX11_every : MethodName := ⟨RX11, "every", "()Z"⟩
abbrev cX11_one : ByteArray := prog_13_method_31_code
def yX11_one : MethodName := ⟨RX11, "one", "()Z"⟩
abbrev cX11_aLine : ByteArray := prog_13_method_32_code
def yX11_aLine : MethodName := ⟨RX11, "aLine", "()Z"⟩
abbrev cX11_text : ByteArray := prog_13_method_33_code
def yX11_text : MethodName := ⟨RX11, "text", "(I)I"⟩
abbrev cX11_fault : ByteArray := prog_13_method_34_code
def yX11_fault : MethodName := ⟨RX11, "fault", "(I)I"⟩
abbrev cX11_both : ByteArray := prog_13_method_35_code
def yX11_both : MethodName := ⟨RX11, "both", "(III)I"⟩
abbrev cX11_comesTo : ByteArray := prog_13_method_36_code
def yX11_comesTo : MethodName := ⟨RX11, "comesTo", "(III)I"⟩
abbrev cX11_tells : ByteArray := prog_13_method_37_code
def yX11_tells : MethodName := ⟨RX11, "tells", "(II)I"⟩
abbrev cX11_of : ByteArray := prog_13_method_38_code
def yX11_of : MethodName := ⟨RX11, "of", "(II)I"⟩
abbrev cX11_countOf : ByteArray := prog_13_method_39_code
def yX11_countOf : MethodName := ⟨RX11, "countOf", "(II)I"⟩
abbrev cX11_gathers : ByteArray := prog_13_method_40_code
def yX11_gathers : MethodName := ⟨RX11, "gathers", "(IIIIZI)V"⟩
abbrev cX11_isFar : ByteArray := prog_13_method_41_code
def yX11_isFar : MethodName := ⟨RX11, "isFar", "(II)Z"⟩
abbrev cX11_gathersOf : ByteArray := prog_13_method_42_code
def yX11_gathersOf : MethodName := ⟨RX11, "gathersOf", "(III)V"⟩
abbrev cX11_heldOf : ByteArray := prog_13_method_43_code
def yX11_heldOf : MethodName := ⟨RX11, "heldOf", "(II)I"⟩
abbrev cX11_usable : ByteArray := prog_13_method_44_code
def yX11_usable : MethodName := ⟨RX11, "usable", "(II)I"⟩
abbrev cX11_books : ByteArray := prog_13_method_45_code
def yX11_books : MethodName := ⟨RX11, "books", "(IIIII)V"⟩
abbrev cX11_entry : ByteArray := prog_13_method_46_code
def yX11_entry : MethodName := ⟨RX11, "entry", "(II)I"⟩
abbrev cX11_cash : ByteArray := prog_13_method_47_code
def yX11_cash : MethodName := ⟨RX11, "cash", "(III)Z"⟩
abbrev cX11_pay : ByteArray := prog_13_method_48_code
def yX11_pay : MethodName := ⟨RX11, "pay", "(IIIII)I"⟩
abbrev cX11_book : ByteArray := prog_13_method_49_code
def yX11_book : MethodName := ⟨RX11, "book", "(III)I"⟩
abbrev cX11_cheque : ByteArray := prog_13_method_50_code
def yX11_cheque : MethodName := ⟨RX11, "cheque", "(II)I"⟩
abbrev cX11_restsOn : ByteArray := prog_13_method_51_code
def yX11_restsOn : MethodName := ⟨RX11, "restsOn", "(I)I"⟩
abbrev cX11_chain : ByteArray := prog_13_method_52_code
def yX11_chain : MethodName := ⟨RX11, "chain", "(II)I"⟩
abbrev cX11_booksOf : ByteArray := prog_13_method_53_code
def yX11_booksOf : MethodName := ⟨RX11, "booksOf", "(I)I"⟩
abbrev cX11_waterOf : ByteArray := prog_13_method_54_code
def yX11_waterOf : MethodName := ⟨RX11, "waterOf", "(I)I"⟩
abbrev cX11_really : ByteArray := prog_13_method_55_code
def yX11_really : MethodName := ⟨RX11, "really", "(II)I"⟩
abbrev cX11_kept : ByteArray := prog_13_method_56_code
def yX11_kept : MethodName := ⟨RX11, "kept", "(III)I"⟩
abbrev cX11_isFlying : ByteArray := prog_13_method_57_code
def yX11_isFlying : MethodName := ⟨RX11, "isFlying", "(I)Z"⟩
abbrev cX11_flying : ByteArray := prog_13_method_58_code
def yX11_flying : MethodName := ⟨RX11, "flying", "(Z)I"⟩
abbrev cX11_sums : ByteArray := prog_13_method_59_code
def yX11_sums : MethodName := ⟨RX11, "sums", "(I)I"⟩
abbrev cX11_isDue : ByteArray := prog_13_method_60_code
def yX11_isDue : MethodName := ⟨RX11, "isDue", "(II)Z"⟩
abbrev cX11_isBehind : ByteArray := prog_13_method_61_code
def yX11_isBehind : MethodName := ⟨RX11, "isBehind", "(III)Z"⟩
abbrev cX11_gathersAsked : ByteArray := prog_13_method_62_code
def yX11_gathersAsked : MethodName := ⟨RX11, "gathersAsked", "(II)V"⟩
abbrev cX11_isReturned : ByteArray := prog_13_method_63_code
def yX11_isReturned : MethodName := ⟨RX11, "isReturned", "(I)Z"⟩
abbrev cX11_morning : ByteArray := prog_13_method_64_code
def yX11_morning : MethodName := ⟨RX11, "morning", "(I)I"⟩
abbrev cX11_day : ByteArray := prog_13_method_65_code
def yX11_day : MethodName := ⟨RX11, "day", "()I"⟩
abbrev cX11_flightOf : ByteArray := prog_13_method_66_code
def yX11_flightOf : MethodName := ⟨RX11, "flightOf", "(III)I"⟩
abbrev cX11_isDay : ByteArray := prog_13_method_67_code
def yX11_isDay : MethodName := ⟨RX11, "isDay", "(I)Z"⟩
abbrev cX11_flight : ByteArray := prog_13_method_68_code
def yX11_flight : MethodName := ⟨RX11, "flight", "(III)I"⟩
abbrev cX11_holdsUp : ByteArray := prog_13_method_69_code
def yX11_holdsUp : MethodName := ⟨RX11, "holdsUp", "(IIII)I"⟩
abbrev cX11_rings : ByteArray := prog_13_method_70_code
def yX11_rings : MethodName := ⟨RX11, "rings", "(IIIII)V"⟩
abbrev cX11_ring : ByteArray := prog_13_method_71_code
def yX11_ring : MethodName := ⟨RX11, "ring", "(IIII)I"⟩
abbrev cX11_letIn : ByteArray := prog_13_method_72_code
def yX11_letIn : MethodName := ⟨RX11, "letIn", "(IIII)I"⟩
abbrev cX11_leastHold : ByteArray := prog_13_method_73_code
def yX11_leastHold : MethodName := ⟨RX11, "leastHold", "(III)I"⟩
abbrev cX11_growth : ByteArray := prog_13_method_74_code
def yX11_growth : MethodName := ⟨RX11, "growth", "(III)I"⟩
abbrev cX11_isMatched : ByteArray := prog_13_method_75_code
def yX11_isMatched : MethodName := ⟨RX11, "isMatched", "(I)Z"⟩
abbrev cX11_signs : ByteArray := prog_13_method_76_code
def yX11_signs : MethodName := ⟨RX11, "signs", "(II)V"⟩
abbrev cX11_cryOf : ByteArray := prog_13_method_77_code
def yX11_cryOf : MethodName := ⟨RX11, "cryOf", "(II)Z"⟩
abbrev cX11_sign : ByteArray := prog_13_method_78_code
def yX11_sign : MethodName := ⟨RX11, "sign", "(III)I"⟩
abbrev cX11_kiters : ByteArray := prog_13_method_79_code
def yX11_kiters : MethodName := ⟨RX11, "kiters", "(I)Z"⟩
abbrev cX11_count : ByteArray := prog_13_method_80_code
def yX11_count : MethodName := ⟨RX11, "count", "(I)I"⟩
abbrev cX11_cries : ByteArray := prog_13_method_81_code
def yX11_cries : MethodName := ⟨RX11, "cries", "(II)I"⟩
abbrev cX11_like : ByteArray := prog_13_method_82_code
def yX11_like : MethodName := ⟨RX11, "like", "(III)I"⟩
abbrev cX11_alone : ByteArray := prog_13_method_83_code
def yX11_alone : MethodName := ⟨RX11, "alone", "(II)I"⟩
abbrev cX11_lossOf : ByteArray := prog_13_method_84_code
def yX11_lossOf : MethodName := ⟨RX11, "lossOf", "(I)I"⟩
abbrev cX11_lossOfAll : ByteArray := prog_13_method_85_code
def yX11_lossOfAll : MethodName := ⟨RX11, "lossOfAll", "()I"⟩
abbrev cX11_ends : ByteArray := prog_13_method_86_code
def yX11_ends : MethodName := ⟨RX11, "ends", "(II)I"⟩
abbrev cX11_ending : ByteArray := prog_13_method_87_code
def yX11_ending : MethodName := ⟨RX11, "ending", "(II)I"⟩
abbrev cX11_snowed : ByteArray := prog_13_method_88_code
def yX11_snowed : MethodName := ⟨RX11, "snowed", "()I"⟩
abbrev cX11_payment : ByteArray := prog_13_method_89_code
def yX11_payment : MethodName := ⟨RX11, "payment", "(II)I"⟩
abbrev cX11_floats : ByteArray := prog_13_method_90_code
def yX11_floats : MethodName := ⟨RX11, "floats", "(II)I"⟩
abbrev cX11_payFloat : ByteArray := prog_13_method_91_code
def yX11_payFloat : MethodName := ⟨RX11, "payFloat", "(II)I"⟩
abbrev cX11_room : ByteArray := prog_13_method_92_code
def yX11_room : MethodName := ⟨RX11, "room", "(II)I"⟩
abbrev cX11_seen : ByteArray := prog_13_method_93_code
def yX11_seen : MethodName := ⟨RX11, "seen", "(I)I"⟩
abbrev cX11_burnt : ByteArray := prog_13_method_94_code
def yX11_burnt : MethodName := ⟨RX11, "burnt", "(IIII)I"⟩
abbrev cX11_honest : ByteArray := prog_13_method_95_code
def yX11_honest : MethodName := ⟨RX11, "honest", "(I)I"⟩
abbrev cX11_image : ByteArray := prog_13_method_96_code
def yX11_image : MethodName := ⟨RX11, "image", "(Z)Z"⟩
abbrev cX11_look : ByteArray := prog_13_method_97_code
def yX11_look : MethodName := ⟨RX11, "look", "(I)I"⟩
def RJ11 : String := "java/lang/Character"
abbrev cJ11_isValidCodePoint_9a6ad : ByteArray := prog_14_method_11_code
def yJ11_isValidCodePoint_9a6ad : MethodName := ⟨RJ11, "isValidCodePoint", "(I)Z"⟩
abbrev cJ11_highSurrogate_5068e : ByteArray := prog_14_method_28_code
def yJ11_highSurrogate_5068e : MethodName := ⟨RJ11, "highSurrogate", "(I)C"⟩
abbrev cJ11_lowSurrogate_5068e : ByteArray := prog_14_method_29_code
def yJ11_lowSurrogate_5068e : MethodName := ⟨RJ11, "lowSurrogate", "(I)C"⟩
def RJ6 : String := "java/lang/Integer"
abbrev cJ6_bitCount_0f7a4 : ByteArray := prog_15_method_49_code
def yJ6_bitCount_0f7a4 : MethodName := ⟨RJ6, "bitCount", "(I)I"⟩
def RJ9 : String := "java/lang/Math"
abbrev cJ9_abs_0f7a4 : ByteArray := prog_16_method_59_code
def yJ9_abs_0f7a4 : MethodName := ⟨RJ9, "abs", "(I)I"⟩
abbrev cJ9_max_7cf53 : ByteArray := prog_16_method_65_code
def yJ9_max_7cf53 : MethodName := ⟨RJ9, "max", "(II)I"⟩
abbrev cJ9_min_7cf53 : ByteArray := prog_16_method_69_code
def yJ9_min_7cf53 : MethodName := ⟨RJ9, "min", "(II)I"⟩
abbrev cJ9_min_f86c9 : ByteArray := prog_16_method_70_code
def yJ9_min_f86c9 : MethodName := ⟨RJ9, "min", "(JJ)J"⟩
def RJ0 : String := "java/lang/String"
abbrev cJ0_length_8abf5 : ByteArray := prog_17_method_54_code
def yJ0_length_8abf5 : MethodName := ⟨RJ0, "length", "()I"⟩
abbrev cJ0_charAt_5068e : ByteArray := prog_17_method_56_code
def yJ0_charAt_5068e : MethodName := ⟨RJ0, "charAt", "(I)C"⟩
abbrev cJ0_indexOf_0f7a4 : ByteArray := prog_17_method_79_code
def yJ0_indexOf_0f7a4 : MethodName := ⟨RJ0, "indexOf", "(I)I"⟩
abbrev cJ0_indexOf_7cf53 : ByteArray := prog_17_method_80_code
def yJ0_indexOf_7cf53 : MethodName := ⟨RJ0, "indexOf", "(II)I"⟩
abbrev cJ0_coder_7d493 : ByteArray := prog_17_method_152_code
def yJ0_coder_7d493 : MethodName := ⟨RJ0, "coder", "()B"⟩
abbrev cJ0_isLatin1_aae02 : ByteArray := prog_17_method_154_code
def yJ0_isLatin1_aae02 : MethodName := ⟨RJ0, "isLatin1", "()Z"⟩
abbrev cJ0_checkIndex_df160 : ByteArray := prog_17_method_155_code
def yJ0_checkIndex_df160 : MethodName := ⟨RJ0, "checkIndex", "(II)V"⟩
abbrev cJ0_checkBoundsBeginEnd_23922 : ByteArray := prog_17_method_158_code
def yJ0_checkBoundsBeginEnd_23922 : MethodName := ⟨RJ0, "checkBoundsBeginEnd", "(III)V"⟩
def RJ1 : String := "java/lang/StringLatin1"
abbrev cJ1_charAt_3b067 : ByteArray := prog_18_method_2_code
def yJ1_charAt_3b067 : MethodName := ⟨RJ1, "charAt", "([BI)C"⟩
abbrev cJ1_canEncode_9a6ad : ByteArray := prog_18_method_4_code
def yJ1_canEncode_9a6ad : MethodName := ⟨RJ1, "canEncode", "(I)Z"⟩
abbrev cJ1_indexOf_4cfef : ByteArray := prog_18_method_22_code
def yJ1_indexOf_4cfef : MethodName := ⟨RJ1, "indexOf", "([BIII)I"⟩
abbrev cJ1_indexOfChar_4cfef : ByteArray := prog_18_method_23_code
def yJ1_indexOfChar_4cfef : MethodName := ⟨RJ1, "indexOfChar", "([BIII)I"⟩
def RJ2 : String := "java/lang/StringUTF16"
abbrev cJ2_getChar_3b067 : ByteArray := prog_19_method_5_code
def yJ2_getChar_3b067 : MethodName := ⟨RJ2, "getChar", "([BI)C"⟩
abbrev cJ2_length_9d52b : ByteArray := prog_19_method_6_code
def yJ2_length_9d52b : MethodName := ⟨RJ2, "length", "([B)I"⟩
abbrev cJ2_indexOf_4cfef : ByteArray := prog_19_method_40_code
def yJ2_indexOf_4cfef : MethodName := ⟨RJ2, "indexOf", "([BIII)I"⟩
abbrev cJ2_indexOfChar_4cfef : ByteArray := prog_19_method_47_code
def yJ2_indexOfChar_4cfef : MethodName := ⟨RJ2, "indexOfChar", "([BIII)I"⟩
abbrev cJ2_indexOfCharUnsafe_4cfef : ByteArray := prog_19_method_48_code
def yJ2_indexOfCharUnsafe_4cfef : MethodName := ⟨RJ2, "indexOfCharUnsafe", "([BIII)I"⟩
abbrev cJ2_indexOfSupplementary_4cfef : ByteArray := prog_19_method_49_code
def yJ2_indexOfSupplementary_4cfef : MethodName := ⟨RJ2, "indexOfSupplementary", "([BIII)I"⟩
abbrev cJ2_charAt_3b067 : ByteArray := prog_19_method_83_code
def yJ2_charAt_3b067 : MethodName := ⟨RJ2, "charAt", "([BI)C"⟩
abbrev cJ2_checkIndex_2214a : ByteArray := prog_19_method_91_code
def yJ2_checkIndex_2214a : MethodName := ⟨RJ2, "checkIndex", "(I[B)V"⟩
abbrev cJ2_checkBoundsBeginEnd_d044e : ByteArray := prog_19_method_93_code
def yJ2_checkBoundsBeginEnd_d044e : MethodName := ⟨RJ2, "checkBoundsBeginEnd", "(II[B)V"⟩
def RJ10 : String := "java/lang/System"
def RJ3 : String := "jdk/internal/util/Preconditions"
abbrev cJ3_checkIndex_8e157 : ByteArray := prog_21_method_11_code
def yJ3_checkIndex_8e157 : MethodName := ⟨RJ3, "checkIndex", "(IILjava/util/function/BiFunction;)I"⟩
abbrev cJ3_checkFromToIndex_8c36e : ByteArray := prog_21_method_12_code
def yJ3_checkFromToIndex_8c36e : MethodName := ⟨RJ3, "checkFromToIndex", "(IIILjava/util/function/BiFunction;)I"⟩
def RL : String := "NowhereMoneyLaw"
abbrev cL_law : ByteArray := code
def yL_law : MethodName := ⟨RL, "law", "([I)Z"⟩
abbrev vwCl : List vw_C := [(RX0, TX0, 6), (RX1, TX1, 2), (RX2, TX2, 10), (RX3, TX3, 9), (RX4, TX4, 4), (RX5, TX5, 8), (RX6, TX6, 2), (RX7, TX7, 2), (RX8, TX8, 6), (RX9, TX9, 9), (RX10, TX10, 15), (RX11, TX11, 31)]
end
section
/-! A small machine of my own: shapes of cells, an int memory, code lists with their pool resolved. -/
abbrev am_R : Type := Nat × Nat × Nat × Nat
abbrev am_I : Type := Nat × Instr × am_R
abbrev am_Sh : Type := List (Nat × List Value)
abbrev am_M : Type := Nat → Nat → Int32
abbrev am_L : Type := List (Option Value)
/-- an int constant: (_, size, sign, _) -/
def am_k (r : am_R) : Int32 := match r.2.2.1 with
  | 0 => nI r.2.1
  | _ => - nI r.2.1
def am_row (μ : am_M) (c : Nat) (f : Nat → Int32) : am_M := fun c' => if c' = c then f else μ c'
def am_get (ls : am_L) (i : Nat) : Option Value := match ls[i]? with
  | some (some v) => some v
  | _ => none
def am_cat2 (o : Option (Option Value)) : Bool := match o with
  | some (some v) => Nat.beq v.category 2
  | _ => false
def am_clr (ls : am_L) (i : Nat) : am_L := match i with
  | 0 => ls
  | j + 1 => match am_cat2 ls[j]? with
    | true => ls.set j none
    | false => ls
def am_set (ls : am_L) (i : Nat) (v : Value) : am_L := (am_clr ls i).set i (some v)
def am_set2 (ls : am_L) (i : Nat) (v : Value) : am_L := ((am_clr ls i).set i (some v)).set (i + 1) none
def am_ldI (ls : am_L) (j : Nat) (st : List Value) : Option (am_L × List Value) := match am_get ls j with
  | some (.int x) => some (ls, .int x :: st)
  | _ => none
def am_ldL (ls : am_L) (j : Nat) (st : List Value) : Option (am_L × List Value) := match am_get ls j with
  | some (.long x) => some (ls, .long x :: st)
  | _ => none
def am_ldA (ls : am_L) (j : Nat) (st : List Value) : Option (am_L × List Value) := match am_get ls j with
  | some (.ref x) => some (ls, .ref x :: st)
  | some .null => some (ls, .null :: st)
  | _ => none
def am_stI (ls : am_L) (j : Nat) (st : List Value) : Option (am_L × List Value) := match st with
  | .int x :: t => some (am_set ls j (.int x), t)
  | _ => none
def am_stL (ls : am_L) (j : Nat) (st : List Value) : Option (am_L × List Value) := match st with
  | .long x :: t => some (am_set2 ls j (.long x), t)
  | _ => none
def am_stA (ls : am_L) (j : Nat) (st : List Value) : Option (am_L × List Value) := match st with
  | .ref x :: t => some (am_set ls j (.ref x), t)
  | .null :: t => some (am_set ls j .null, t)
  | _ => none
def am_bin (f : Int32 → Int32 → Int32) (ls : am_L) (st : List Value) : Option (am_L × List Value) := match st with
  | .int y :: .int x :: t => some (ls, .int (f x y) :: t)
  | _ => none
def am_binL (f : Int64 → Int64 → Int64) (ls : am_L) (st : List Value) : Option (am_L × List Value) := match st with
  | .long y :: .long x :: t => some (ls, .long (f x y) :: t)
  | _ => none
def am_un (f : Int32 → Value) (ls : am_L) (st : List Value) : Option (am_L × List Value) := match st with
  | .int x :: t => some (ls, f x :: t)
  | _ => none
/-- strings: how many, their lengths, their bytes -/
def am_sN : Nat := 21
def am_sT : List String := ["hold", "limit", "fee", "when", "o\x72", "and", "not", "amount", "fa\x72", "rail", "house", "weekday", "book", "count", "cry", "turn", "round", "match", "low", "", ";+-*/()<=>"]
def am_sB : List (List Int32) := am_sT.map (fun s => s.toList.map (fun c => nI c.toNat))
def am_sL : List Nat := am_sB.map List.length
/-- the length of what arraylength is asked of; L is 0 where the script is out of sight, else one more than its length -/
def am_alen (L : Nat) (S : am_Sh) (c : Nat) : Option Nat := match S[c]? with
  | some (kd, vs) => bif Nat.ble 100 kd then some (kd - 100) else bif Nat.beq kd 98 then some vs.length else none
  | none => bif Nat.beq c 3000 && Nat.blt 0 L then some (L - 1) else bif Nat.ble 2000 c && Nat.blt c (2000 + am_sN) then some (am_sL.getD (c - 2000) 0) else none
/-- the length of an int array that iaload is asked of -/
def am_ilen (L : Nat) (S : am_Sh) (c : Nat) : Option Nat := match S[c]? with
  | some (kd, _) => bif Nat.ble 100 kd then some (kd - 100) else none
  | none => bif Nat.beq c 3000 && Nat.blt 0 L then some (L - 1) else none
def am_getf (S : am_Sh) (r : am_R) (ls : am_L) (st : List Value) (μ : am_M) : Option (am_L × List Value) := match st with
  | .ref c :: t => match r.1 with
    | 0 => match S[c]? with
      | some (kd, vs) => bif Nat.beq kd r.2.1 then (match vs[r.2.2.1]? with
        | some (.int _) => some (ls, .int (μ c r.2.2.1) :: t)
        | some (.ref a) => some (ls, .ref a :: t)
        | some .null => some (ls, .null :: t)
        | _ => none) else none
      | none => none
    | 6 => bif Nat.ble 1000 c && Nat.blt c (1000 + am_sN) then (match r.2.1 with
      | 0 => some (ls, .ref (c + 1000) :: t)
      | _ => some (ls, .int 0 :: t)) else none
    | _ => none
  | _ => none
def am_pure (L : Nat) (S : am_Sh) (i : Instr) (r : am_R) (ls : am_L) (st : List Value) (μ : am_M) : Option (am_L × List Value) := match i with
  | .iconst _ => some (ls, .int (am_k r) :: st)
  | .bipush _ => some (ls, .int (am_k r) :: st)
  | .sipush _ => some (ls, .int (am_k r) :: st)
  | .ldc _ => (match r.1 with
    | 3 => some (ls, .int (am_k r) :: st)
    | 4 => some (ls, .ref (1000 + r.2.1) :: st)
    | _ => none)
  | .ldc_w _ => (match r.1 with
    | 3 => some (ls, .int (am_k r) :: st)
    | _ => none)
  | .ldc2_w _ => (match r.1 with
    | 5 => some (ls, .long (lN r.2.1) :: st)
    | _ => none)
  | .aconst_null => some (ls, .null :: st)
  | .iload j => am_ldI ls j st
  | .iload_n j => am_ldI ls j.val st
  | .lload j => am_ldL ls j st
  | .lload_n j => am_ldL ls j.val st
  | .aload j => am_ldA ls j st
  | .aload_n j => am_ldA ls j.val st
  | .istore j => am_stI ls j st
  | .istore_n j => am_stI ls j.val st
  | .lstore j => am_stL ls j st
  | .lstore_n j => am_stL ls j.val st
  | .astore j => am_stA ls j st
  | .astore_n j => am_stA ls j.val st
  | .iinc j _ => (match am_get ls j with
    | some (.int x) => some (am_set ls j (.int (x + am_k r)), st)
    | _ => none)
  | .iadd => am_bin (· + ·) ls st
  | .isub => am_bin (· - ·) ls st
  | .imul => am_bin (· * ·) ls st
  | .iand => am_bin (· &&& ·) ls st
  | .ior => am_bin (· ||| ·) ls st
  | .ixor => am_bin (· ^^^ ·) ls st
  | .ishl => am_bin (fun x y => x <<< (y &&& 31)) ls st
  | .ishr => am_bin (fun x y => x >>> (y &&& 31)) ls st
  | .iushr => am_bin (fun x y => (x.toUInt32 >>> (y.toUInt32 &&& Int32.toUInt32 31)).toInt32) ls st
  | .ladd => am_binL (· + ·) ls st
  | .lmul => am_binL (· * ·) ls st
  | .ineg => am_un (fun x => .int (-x)) ls st
  | .i2l => am_un (fun x => .long x.toInt64) ls st
  | .i2c => am_un (fun x => .int (x.toUInt32 % 65536).toInt32) ls st
  | .l2i => (match st with
    | .long x :: t => some (ls, .int x.toInt32 :: t)
    | _ => none)
  | .lcmp => (match st with
    | .long y :: .long x :: t => some (ls, .int (lg_cmp x y) :: t)
    | _ => none)
  | .dup => (match st with
    | .int x :: t => some (ls, .int x :: .int x :: t)
    | .ref x :: t => some (ls, .ref x :: .ref x :: t)
    | _ => none)
  | .dup2 => (match st with
    | .int y :: .int x :: t => some (ls, .int y :: .int x :: .int y :: .int x :: t)
    | .int y :: .ref x :: t => some (ls, .int y :: .ref x :: .int y :: .ref x :: t)
    | _ => none)
  | .pop => (match st with
    | .int _ :: t => some (ls, t)
    | .ref _ :: t => some (ls, t)
    | _ => none)
  | .arraylength => (match st with
    | .ref c :: t => (match am_alen L S c with
      | some n => some (ls, .int (nI n) :: t)
      | none => none)
    | _ => none)
  | .getfield _ => am_getf S r ls st μ
  | .getstatic _ => (match r.1 with
    | 9 => (match r.2.1 with
      | 0 => some (ls, .int 1 :: st)
      | _ => some (ls, .retAddr 0 :: st))
    | _ => none)
  | _ => none
def am_inb (i : Int32) (n : Nat) : Bool := !(decide (i < 0)) && Nat.blt i.toNatClampNeg n
/-- the fields of a new object of a class: marks of its int places, null else -/
def am_def (ci : Nat) : List Value := match ci with
  | 0 => [.null, .null, .null, .null, .null, .int 0]
  | 1 => [.null, .int 0]
  | 2 => [.null, .null, .null, .null, .null, .null, .null, .null, .int 0, .int 0]
  | 3 => [.null, .null, .null, .null, .int 0, .int 0, .int 0, .int 0, .int 0]
  | 4 => [.null, .null, .int 0, .int 0]
  | 5 => [.null, .null, .null, .null, .null, .null, .int 0, .int 0]
  | 6 => [.null, .int 0]
  | 7 => [.null, .null]
  | 8 => [.null, .null, .int 0, .int 0, .int 0, .int 0]
  | 9 => [.null, .null, .null, .null, .null, .null, .null, .int 0, .int 0]
  | 10 => [.null, .null, .null, .null, .null, .null, .null, .null, .null, .int 0, .int 0, .int 0, .int 0, .int 0, .int 0]
  | 11 => [.null, .null, .null, .int 0, .null, .null, .null, .null, .null, .int 0, .int 0, .int 0, .int 0, .int 0, .int 0, .int 0, .int 0, .int 0, .int 0, .int 0, .int 0, .int 0, .null, .int 0, .null, .null, .int 0, .int 0, .int 0, .int 0, .null]
  | _ => []

def am_eff (L : Nat) (d : Nat) (S : am_Sh) (i : Instr) (r : am_R) (st : List Value) (μ : am_M) : Option (Bool × List Value × am_Sh × am_M) := match i with
  | .iaload => (match st with
    | .int i :: .ref c :: t => (match am_ilen L S c with
      | some n => some (am_inb i n, .int (μ c i.toNatClampNeg) :: t, S, μ)
      | none => none)
    | _ => none)
  | .baload => (match st with
    | .int i :: .ref c :: t => bif Nat.ble 2000 c && Nat.blt c (2000 + am_sN) then some (am_inb i (am_sL.getD (c - 2000) 0), .int ((am_sB.getD (c - 2000) []).getD i.toNatClampNeg 0) :: t, S, μ) else none
    | _ => none)
  | .aaload => (match st with
    | .int i :: .ref c :: t => (match S[c]? with
      | some (kd, vs) => bif Nat.beq kd 98 then (match vs[i.toNatClampNeg]? with
        | some (.ref a) => some (am_inb i vs.length, .ref a :: t, S, μ)
        | _ => none) else none
      | none => none)
    | _ => none)
  | .iastore => (match st with
    | .int x :: .int i :: .ref c :: t => (match S[c]? with
      | some (kd, _) => bif Nat.ble 100 kd then some (am_inb i (kd - 100), t, S, am_row μ c (upd (μ c) i.toNatClampNeg x)) else none
      | none => none)
    | _ => none)
  | .aastore => (match st with
    | .ref v :: .int i :: .ref c :: t => (match S[c]?, S[v]? with
      | some (kd, vs), some (5, _) => bif Nat.beq kd 98 then some (am_inb i vs.length, t, S.set c (98, vs.set i.toNatClampNeg (.ref v)), μ) else none
      | _, _ => none)
    | _ => none)
  | .putfield _ => (match st with
    | v :: .ref c :: t => (match r.1, S[c]? with
      | 0, some (kd, vs) => bif Nat.beq kd r.2.1 then (match vs[r.2.2.1]?, v with
        | some (.int _), .int x => some (Nat.beq r.2.2.2 0 || (Nat.beq r.2.2.2 1 && (decide (x = 0) || decide (x = 1))), t, S, am_row μ c (upd (μ c) r.2.2.1 x))
        | some .null, .ref a => some (Nat.beq r.2.2.2 2, t, S.set c (kd, vs.set r.2.2.1 (.ref a)), μ)
        | some .null, .null => some (Nat.beq r.2.2.2 2, t, S.set c (kd, vs.set r.2.2.1 .null), μ)
        | _, _ => none) else none
      | _, _ => none)
    | _ => none)
  | .idiv => (match st with
    | .int y :: .int x :: t => some (!(decide (y = 0)), .int (x / y) :: t, S, μ)
    | _ => none)
  | .irem => (match st with
    | .int y :: .int x :: t => some (!(decide (y = 0)), .int (x - x / y * y) :: t, S, μ)
    | _ => none)
  | .ldiv => (match st with
    | .long y :: .long x :: t => some (!(decide (y = 0)), .long (x / y) :: t, S, μ)
    | _ => none)
  | .invokestatic _ => (match r.1, st with
    | 7, .int n :: .int dp :: .ref c1 :: .int sp :: .ref c0 :: t => (match S[c0]?, S[c1]? with
      | some (k0, _), some (k1, _) => bif Nat.ble 100 k0 && Nat.ble 100 k1 then
          some (Nat.blt 0 d && Nat.ble (t.map Value.category).sum 8 && (!(decide (sp < 0)) && (!(decide (dp < 0)) && (!(decide (n < 0)) && (Nat.ble (sp.toNatClampNeg + n.toNatClampNeg) (k0 - 100) && Nat.ble (dp.toNatClampNeg + n.toNatClampNeg) (k1 - 100))))), t, S, am_row μ c1 (va_cpy (μ c0) (μ c1) sp.toNatClampNeg dp.toNatClampNeg n.toNatClampNeg)) else none
      | _, _ => none)
    | 11, .int y :: .int x :: t => some (Nat.blt 0 d && Nat.ble (t.map Value.category).sum 8, .int (if x < y then y else x) :: t, S, μ)
    | 12, .int y :: .int x :: t => some (Nat.blt 0 d && Nat.ble (t.map Value.category).sum 8, .int (if y < x then y else x) :: t, S, μ)
    | 13, .int x :: t => some (Nat.blt 0 d && Nat.ble (t.map Value.category).sum 8, .int (if 0 ≤ x then x else 0 - x) :: t, S, μ)
    | 14, .long y :: .long x :: t => some (Nat.blt 0 d && Nat.ble (t.map Value.category).sum 8, .long (if y < x then y else x) :: t, S, μ)
    | _, _ => none)
  | .invokespecial _ => (match r.1, st with
    | 8, .ref _ :: t => some (Nat.blt 0 d && Nat.ble (t.map Value.category).sum 8, t, S, μ)
    | _, _ => none)
  | .new _ => (match r.1 with
    | 2 => some (Nat.blt S.length 900, .ref S.length :: st, S ++ [(r.2.1, am_def r.2.1)], am_row μ S.length (fun _ => 0))
    | _ => none)
  | .newarray .int => (match st with
    | .int n :: t => some (Nat.blt S.length 900 && !(decide (n < 0)) && Nat.ble n.toNatClampNeg 100000, .ref S.length :: t, S ++ [(100 + n.toNatClampNeg, [])], am_row μ S.length (fun _ => 0))
    | _ => none)
  | .anewarray _ => (match r.1, st with
    | 10, .int n :: t => some (Nat.blt S.length 900 && !(decide (n < 0)) && Nat.ble n.toNatClampNeg 100000, .ref S.length :: t, S ++ [(98, List.replicate n.toNatClampNeg .null)], μ)
    | _, _ => none)
  | _ => none
def am_cmp (c : ClassFile.Cond) (x y : Int32) : Bool := match c with
  | .eq => decide (x = y)
  | .ne => !(decide (x = y))
  | .lt => decide (x < y)
  | .ge => decide (y ≤ x)
  | .gt => decide (y < x)
  | .le => decide (x ≤ y)
def am_cmpP (c : ClassFile.Cond) (x y : Int32) : Prop := match c with
  | .eq => x = y
  | .ne => ¬ x = y
  | .lt => x < y
  | .ge => y ≤ x
  | .gt => y < x
  | .le => x ≤ y
/-- a jump: whether, whither, the stack -/
def am_jmp (i : Instr) (r : am_R) (pc : Nat) (st : List Value) : Option (Bool × Nat × List Value) := match i with
  | .goto _ => some (true, r.2.1, st)
  | .ifCond c _ => (match st with
    | .int x :: t => some (am_cmp c x 0, r.2.1, t)
    | _ => none)
  | .if_icmp c _ => (match st with
    | .int y :: .int x :: t => some (am_cmp c x y, r.2.1, t)
    | _ => none)
  | .ifnull _ => (match st with
    | .null :: t => some (true, r.2.1, t)
    | .ref _ :: t => some (false, r.2.1, t)
    | _ => none)
  | .tableswitch dflt lo hi offs => (match st with
    | .int x :: t => (match decide (x.toInt < lo) || decide (hi < x.toInt) with
      | true => some (true, ((pc : Int) + dflt).toNat, t)
      | false => (match offs[(x.toInt - lo).toNat]? with
        | some o => some (true, ((pc : Int) + o).toNat, t)
        | none => none))
    | _ => none)
  | _ => none
/-- what a value that is answered must keep to: 1 boolean, 2 byte, 3 char -/
def am_nar (t : Nat) (x : Int32) : Bool := match t with
  | 0 => true
  | 1 => decide (x = 0) || decide (x = 1)
  | 2 => decide (x.toInt8.toInt32 = x)
  | _ => decide (x.toUInt32.toUInt16.toUInt32.toInt32 = x)
def am_ret (i : Instr) (r : am_R) (st : List Value) : Option (Bool × Option Value) := match i with
  | .ireturn => (match st with
    | [.int x] => some (am_nar r.2.1 x, some (.int x))
    | _ => none)
  | .lreturn => (match st with
    | [.long x] => some (true, some (.long x))
    | _ => none)
  | .areturn => (match st with
    | [.ref a] => some (true, some (.ref a))
    | _ => none)
  | .return_ => (match st with
    | [] => some (true, none)
    | _ => none)
  | _ => none
/-- n values off the stack, the lowest first, and the rest -/
def am_pop : Nat → List Value → Option (List Value × List Value)
  | 0, st => some ([], st)
  | _ + 1, [] => none
  | n + 1, v :: st => match am_pop n st with
    | some (a, t) => some (a ++ [v], t)
    | none => none
/-- whether a cell is of a class (20: a string) -/
def am_isA (S : am_Sh) (c ci : Nat) : Bool := match S[c]? with
  | some (kd, _) => Nat.beq kd ci && Nat.blt ci 12
  | none => Nat.beq ci 20 && (Nat.ble 1000 c && Nat.blt c (1000 + am_sN))
/-- a call: the method, its arguments, the rest of the stack -/
def am_cal (S : am_Sh) (i : Instr) (r : am_R) (st : List Value) : Option (Nat × List Value × List Value) := match r.1 with
  | 1 => (match am_pop r.2.2.1 st with
    | some (a, t) => (match i with
      | .invokestatic _ => bif Nat.ble (t.map Value.category).sum 8 then some (r.2.1, a, t) else none
      | .invokevirtual _ => (match t with
        | .ref c :: t2 => bif am_isA S c r.2.2.2 && Nat.ble (t2.map Value.category).sum 8 then some (r.2.1, .ref c :: a, t2) else none
        | _ => none)
      | .invokespecial _ => (match t with
        | .ref c :: t2 => bif Nat.ble (t2.map Value.category).sum 8 then some (r.2.1, .ref c :: a, t2) else none
        | _ => none)
      | _ => none)
    | none => none)
  | _ => none
def am_ent : List Value → am_L
  | [] => []
  | v :: vs => bif Nat.beq v.category 2 then some v :: none :: am_ent vs else some v :: am_ent vs
/-- the locals at a method's entry -/
def am_loc (n : Nat) (vs : List Value) : am_L := am_ent vs ++ List.replicate (n - (am_ent vs).length) none
def am_at (k : List am_I) (t : Nat) : List am_I := k.dropWhile (fun e => !(Nat.beq e.1 t))
def am_okV (n : Nat) (v : Value) : Bool := match v with
  | .ref a => Nat.blt a n || Nat.ble 1000 a
  | _ => true
def am_okS (n : Nat) (st : List Value) : Bool := st.all (am_okV n)
def am_okL (n : Nat) (ls : am_L) : Bool := ls.all (fun o => match o with
  | some v => am_okV n v
  | none => true)
def am_okH (n : Nat) (S : am_Sh) : Bool := S.all (fun e => am_okS n e.2)
/-- no new cells; or no reference is loose -/
def am_gr (S S' : am_Sh) (ls : am_L) (st : List Value) : Bool := Nat.beq S'.length S.length || (am_okL S.length ls && (am_okS S.length st && am_okH S.length S))
def am_run (P : Nat → List am_I) (ML : Nat → Nat) (L : Nat) : Nat → Nat → Nat → List am_I → am_L → List Value → am_Sh → am_M → Option (Option Value × am_Sh × am_M)
  | 0, _, _, _, _, _, _, _ => none
  | _ + 1, _, _, [], _, _, _, _ => none
  | n + 1, d, m, (pc, i, r) :: k, ls, st, S, μ =>
    match am_pure L S i r ls st μ with
    | some (ls', st') => am_run P ML L n d m k ls' st' S μ
    | none => match am_eff L d S i r st μ with
      | some (g, st', S', μ') => (match g && am_gr S S' ls st with
        | true => am_run P ML L n d m k ls st' S' μ'
        | false => none)
      | none => match am_jmp i r pc st with
        | some (b, t, st') => (match b with
          | true => am_run P ML L n d m (am_at (P m) t) ls st' S μ
          | false => am_run P ML L n d m k ls st' S μ)
        | none => match am_ret i r st with
          | some (g, rv) => (match g with
            | true => some (rv, S, μ)
            | false => none)
          | none => match am_cal S i r st with
            | some (m', a, t) => (match d with
              | 0 => none
              | d' + 1 => match Nat.ble (am_ent a).length (ML m') with
                | false => none
                | true => match am_run P ML L n d' m' (P m') (am_loc (ML m') a) [] S μ with
                  | some (rv, S', μ') => (match am_gr S S' ls t with
                    | true => am_run P ML L n (d' + 1) m k ls (rv.toList ++ t) S' μ'
                    | false => none)
                  | none => none)
            | none => none
end
section
/-! The words: what the small machine's cells, locals and values are on the real one. -/
abbrev am_G : Type := (Nat → Nat) × (Nat → Nat) × Nat × Option Nat
/-- the address of a reference of the small machine -/
def am_ad (G : am_G) (al : List Nat) (c : Nat) : Nat := bif Nat.blt c 1000 then al.getD c 0 else bif Nat.blt c 2000 then G.1 (c - 1000) else bif Nat.blt c 3000 then G.2.1 (c - 2000) else bif Nat.beq c 3000 then G.2.2.1 else 0
def am_tr (G : am_G) (al : List Nat) (v : Value) : Value := match v with
  | .ref c => .ref (am_ad G al c)
  | .retAddr _ => va_rf G.2.2.2
  | v => v
theorem am_tr_cat {G : am_G} {al : List Nat} {v : Value} : (am_tr G al v).category = v.category := by
  cases v
  case retAddr p =>
    show (va_rf G.2.2.2).category = 1
    cases G.2.2.2 <;> rfl
  all_goals rfl
/-- the locals that are known, by their places -/
def am_prs (f : Value → Value) : Nat → am_L → List (Nat × Value)
  | _, [] => []
  | k, none :: t => am_prs f (k + 1) t
  | k, some v :: t => (k, f v) :: am_prs f (k + 1) t
theorem am_prs_mem {f : Value → Value} : ∀ (ls : am_L) (k : Nat) (q : Nat × Value), q ∈ am_prs f k ls ↔ ∃ (j : Nat) (u : Value), q.1 = k + j ∧ ls[j]? = some (some u) ∧ q.2 = f u := by
  intro ls
  induction ls with
  | nil => intro k q; simp [am_prs]
  | cons o t ih =>
    intro k q
    cases o with
    | none =>
      rw [am_prs, ih]
      constructor
      · rintro ⟨j, u, h1, h2, h3⟩
        exact ⟨j + 1, u, by omega, by simpa using h2, h3⟩
      · rintro ⟨j, u, h1, h2, h3⟩
        cases j with
        | zero => simp at h2
        | succ j => exact ⟨j, u, by omega, by simpa using h2, h3⟩
    | some v =>
      rw [am_prs, List.mem_cons, ih]
      constructor
      · rintro (h | ⟨j, u, h1, h2, h3⟩)
        · exact ⟨0, v, by rw [h]; rfl, by simp, by rw [h]⟩
        · exact ⟨j + 1, u, by omega, by simpa using h2, h3⟩
      · rintro ⟨j, u, h1, h2, h3⟩
        cases j with
        | zero =>
          left
          simp at h2
          subst h2
          exact Prod.ext (by simpa using h1) h3
        | succ j => exact Or.inr ⟨j, u, by omega, by simpa using h2, h3⟩
theorem lv_less {ls : Array Slot} {nL : Nat} {l l' : List (Nat × Value)} (h : lv_has ls nL l) (hs : ∀ q ∈ l', q ∈ l) : lv_has ls nL l' := ⟨h.1, h.2.1, fun q hq => h.2.2 q (hs q hq)⟩
def am_hasL (f : Value → Value) (ar : Array Slot) (nL : Nat) (ls : am_L) : Prop := ls.length = nL ∧ lv_has ar nL (am_prs f 0 ls)
theorem am_get_some {ls : am_L} {i : Nat} {v : Value} (h : am_get ls i = some v) : ls[i]? = some (some v) := by
  unfold am_get at h
  split at h
  · cases h; assumption
  · cases h
theorem am_hasL.at {f : Value → Value} {ar : Array Slot} {nL : Nat} {ls : am_L} (h : am_hasL f ar nL ls) {i : Nat} {v : Value} (hv : am_get ls i = some v) : ar[i]? = some (.val (f v)) :=
  h.2.2.2 (i, f v) ((am_prs_mem ls 0 _).mpr ⟨i, v, (Nat.zero_add i).symm, am_get_some hv, rfl⟩)
theorem am_clr_len (ls : am_L) (i : Nat) : (am_clr ls i).length = ls.length := by
  unfold am_clr
  cases i with
  | zero => rfl
  | succ j =>
    dsimp only
    cases am_cat2 ls[j]? <;> simp
theorem am_set_len (ls : am_L) (i : Nat) (v : Value) : (am_set ls i v).length = ls.length := by simp [am_set, am_clr_len]
theorem am_set2_len (ls : am_L) (i : Nat) (v : Value) : (am_set2 ls i v).length = ls.length := by simp [am_set2, am_clr_len]
theorem am_clr_at {ls : am_L} {i j : Nat} {u : Value} (h : (am_clr ls i)[j]? = some (some u)) : ls[j]? = some (some u) ∧ ¬ (j + 1 = i ∧ u.category = 2) := by
  unfold am_clr at h
  cases i with
  | zero => exact ⟨h, fun q => by omega⟩
  | succ k =>
    dsimp only at h
    cases hc : am_cat2 ls[k]? with
    | true =>
      rw [hc] at h
      dsimp only at h
      rw [List.getElem?_set] at h
      by_cases hkj : k = j
      · rw [if_pos hkj] at h
        split at h <;> cases h
      · rw [if_neg hkj] at h
        exact ⟨h, fun q => hkj (by omega)⟩
    | false =>
      rw [hc] at h
      refine ⟨h, fun q => ?_⟩
      have hkj : j = k := by omega
      subst hkj
      have h : ls[j]? = some (some u) := h
      rw [h] at hc
      simp only [am_cat2, q.2] at hc
      cases hc
theorem am_hasL.store {f : Value → Value} (hf : ∀ v, (f v).category = v.category) {ar ar' : Array Slot} {nL : Nat} {ls : am_L} {i : Nat} {v : Value} (h : am_hasL f ar nL ls)
    (h' : lv_has ar' nL ((i, f v) :: (am_prs f 0 ls).filter (fun q => !(q.1 == i) && !(q.1 + 1 == i && q.2.category == 2)))) : am_hasL f ar' nL (am_set ls i v) := by
  refine ⟨by rw [am_set_len]; exact h.1, lv_less h' fun q hq => ?_⟩
  obtain ⟨j, u, h1, h2, h3⟩ := (am_prs_mem _ 0 q).mp hq
  unfold am_set at h2
  rw [List.getElem?_set] at h2
  by_cases hij : i = j
  · rw [if_pos hij] at h2
    split at h2
    · cases h2
      exact List.mem_cons.mpr (Or.inl (Prod.ext (by simp; omega) h3))
    · cases h2
  · rw [if_neg hij] at h2
    obtain ⟨g1, g2⟩ := am_clr_at h2
    refine List.mem_cons.mpr (Or.inr (List.mem_filter.mpr ⟨(am_prs_mem _ 0 q).mpr ⟨j, u, h1, g1, h3⟩, ?_⟩))
    have e1 : q.1 = j := by omega
    rw [e1, h3, hf]
    have e2 : (j == i) = false := by simp; omega
    rw [e2]
    by_cases hc : j + 1 = i
    · have : ¬ u.category = 2 := fun e => g2 ⟨hc, e⟩
      simp [this]
    · simp [hc]
theorem am_hasL.store2 {f : Value → Value} (hf : ∀ v, (f v).category = v.category) {ar ar' : Array Slot} {nL : Nat} {ls : am_L} {i : Nat} {v : Value} (h : am_hasL f ar nL ls)
    (h' : lv_has ar' nL ((i, f v) :: (am_prs f 0 ls).filter (fun q => !(q.1 == i) && (!(q.1 == i + 1) && !(q.1 + 1 == i && q.2.category == 2))))) : am_hasL f ar' nL (am_set2 ls i v) := by
  refine ⟨by rw [am_set2_len]; exact h.1, lv_less h' fun q hq => ?_⟩
  obtain ⟨j, u, h1, h2, h3⟩ := (am_prs_mem _ 0 q).mp hq
  unfold am_set2 at h2
  rw [List.getElem?_set] at h2
  by_cases hij2 : i + 1 = j
  · rw [if_pos hij2] at h2
    split at h2 <;> cases h2
  rw [if_neg hij2, List.getElem?_set] at h2
  by_cases hij : i = j
  · rw [if_pos hij] at h2
    split at h2
    · cases h2
      exact List.mem_cons.mpr (Or.inl (Prod.ext (by simp; omega) h3))
    · cases h2
  · rw [if_neg hij] at h2
    obtain ⟨g1, g2⟩ := am_clr_at h2
    refine List.mem_cons.mpr (Or.inr (List.mem_filter.mpr ⟨(am_prs_mem _ 0 q).mpr ⟨j, u, h1, g1, h3⟩, ?_⟩))
    have e1 : q.1 = j := by omega
    rw [e1, h3, hf]
    have e2 : (j == i) = false := by simp; omega
    have e3 : (j == i + 1) = false := by simp; omega
    rw [e2, e3]
    by_cases hc : j + 1 = i
    · have : ¬ u.category = 2 := fun e => g2 ⟨hc, e⟩
      simp [this]
    · simp [hc]
theorem am_prs_congr {f g : Value → Value} : ∀ (ls : am_L) (k : Nat), (∀ u, some u ∈ ls → f u = g u) → am_prs f k ls = am_prs g k ls := by
  intro ls
  induction ls with
  | nil => intro k _; rfl
  | cons o t ih =>
    intro k h
    cases o with
    | none => rw [am_prs, am_prs]; exact ih _ (fun u hu => h u (List.mem_cons_of_mem _ hu))
    | some v => rw [am_prs, am_prs, h v List.mem_cons_self, ih _ (fun u hu => h u (List.mem_cons_of_mem _ hu))]
/-- the locals at a method's entry -/
theorem am_ent_prs {f : Value → Value} (hf : ∀ v, (f v).category = v.category) : ∀ (vs : List Value) (k n : Nat), am_prs f k (am_ent vs ++ List.replicate n none) = lv_args k (vs.map f) := by
  have h0 : ∀ (n k : Nat), am_prs f k (List.replicate n none) = [] := by
    intro n
    induction n with
    | zero => intro k; rfl
    | succ n ih => intro k; rw [List.replicate_succ, am_prs, ih]
  intro vs
  induction vs with
  | nil => intro k n; simp only [am_ent, List.nil_append, List.map_nil, lv_args]; exact h0 n k
  | cons v t ih =>
    intro k n
    rw [am_ent, List.map_cons, lv_args, hf]
    by_cases h : v.category = 2
    · have hb : Nat.beq v.category 2 = true := by rw [h]; rfl
      rw [hb, if_pos h]
      show am_prs f k (some v :: none :: (am_ent t ++ List.replicate n none)) = _
      rw [am_prs, am_prs, ih]
    · have hb : Nat.beq v.category 2 = false := by
        cases hq : Nat.beq v.category 2 with
        | true => exact absurd (Nat.eq_of_beq_eq_true hq) h
        | false => rfl
      rw [hb, if_neg h]
      show am_prs f k (some v :: (am_ent t ++ List.replicate n none)) = _
      rw [am_prs, ih]
theorem am_ent_len {f : Value → Value} (hf : ∀ v, (f v).category = v.category) : ∀ vs : List Value, (am_ent vs).length = (lg_sl (vs.map f)).length := by
  intro vs
  induction vs with
  | nil => rfl
  | cons v t ih =>
    rw [am_ent, List.map_cons]
    have e : lg_sl (f v :: t.map f) = (if (f v).category = 2 then [.val (f v), .second] else [.val (f v)]) ++ lg_sl (t.map f) := rfl
    rw [e, hf]
    by_cases h : v.category = 2
    · have hb : Nat.beq v.category 2 = true := by rw [h]; rfl
      rw [hb, if_pos h]
      simp [ih]
    · have hb : Nat.beq v.category 2 = false := by
        cases hq : Nat.beq v.category 2 with
        | true => exact absurd (Nat.eq_of_beq_eq_true hq) h
        | false => rfl
      rw [hb, if_neg h]
      simp [ih]
/-! cells -/
def am_fld (G : am_G) (al : List Nat) (μ : am_M) (c k : Nat) (v : Value) : Value := match v with
  | .int _ => .int (μ c k)
  | v => am_tr G al v
def am_qf (G : am_G) (al : List Nat) (vs : List Value) (j : Nat) : Option Nat := match vs[j]? with
  | some (.ref a) => some (am_ad G al a)
  | _ => none
def am_cell (G : am_G) (dA dB : ClassId) (al : List Nat) (μ : am_M) (c : Nat) (e : Nat × List Value) : va_E :=
  bif Nat.blt e.1 50 then .inr (e.1, e.2.mapIdx (am_fld G al μ c))
  else bif Nat.ble 100 e.1 then .inl (dA, e.1 - 100, .inl (μ c))
  else .inl (dB, e.2.length, .inr (.inr (.inr (.inr (am_qf G al e.2)))))
def am_conc (G : am_G) (dA dB : ClassId) (al : List Nat) (S : am_Sh) (μ : am_M) : va_W := S.mapIdx (fun c e => (al.getD c 0, am_cell G dA dB al μ c e))
theorem am_conc_at (G : am_G) (dA dB : ClassId) (al : List Nat) (S : am_Sh) (μ : am_M) (c : Nat) : (am_conc G dA dB al S μ)[c]? = S[c]?.map (fun e => (al.getD c 0, am_cell G dA dB al μ c e)) := by
  unfold am_conc
  rw [List.getElem?_mapIdx]
theorem am_cell_row {G : am_G} {dA dB : ClassId} {al : List Nat} {μ : am_M} {c c' : Nat} {f : Nat → Int32} {e : Nat × List Value} (h : c' ≠ c) : am_cell G dA dB al (am_row μ c f) c' e = am_cell G dA dB al μ c' e := by
  have h1 : am_row μ c f c' = μ c' := by unfold am_row; rw [if_neg h]
  have h2 : am_fld G al (am_row μ c f) c' = am_fld G al μ c' := by
    funext k v
    cases v <;> simp [am_fld, h1]
  unfold am_cell
  rw [h1, h2]
theorem am_row_at (μ : am_M) (c : Nat) (f : Nat → Int32) : am_row μ c f c = f := by unfold am_row; rw [if_pos rfl]
theorem am_row_ne {μ : am_M} {c c' : Nat} {f : Nat → Int32} (h : c' ≠ c) : am_row μ c f c' = μ c' := by unfold am_row; rw [if_neg h]
/-- one cell written -/
theorem am_conc_set {G : am_G} {dA dB : ClassId} {al : List Nat} {S : am_Sh} {μ : am_M} {c : Nat} {e' : Nat × List Value} {f : Nat → Int32} {x : va_E} (hc : c < S.length) (hx : am_cell G dA dB al (am_row μ c f) c e' = x) :
    (am_conc G dA dB al S μ).set c (al.getD c 0, x) = am_conc G dA dB al (S.set c e') (am_row μ c f) := by
  apply List.ext_getElem?
  intro j
  rw [List.getElem?_set, am_conc_at, am_conc_at, List.getElem?_set]
  by_cases h : c = j
  · subst h
    have hl : c < (am_conc G dA dB al S μ).length := by unfold am_conc; simpa using hc
    rw [if_pos rfl, if_pos rfl, if_pos hl, if_pos hc]
    simp [hx]
  · rw [if_neg h, if_neg h]
    congr 1
    funext e
    rw [am_cell_row (fun q => h q.symm)]
end
section
/-! What a code list must keep to; the simulation of the rows that change nothing but locals and stack. -/
def am_len (i : Instr) : Nat := match i with
  | .bipush _ | .ldc _ | .iload _ | .lload _ | .aload _ | .istore _ | .lstore _ | .astore _ | .newarray _ => 2
  | .sipush _ | .ldc_w _ | .ldc2_w _ | .iinc _ _ | .getfield _ | .putfield _ | .getstatic _ | .invokestatic _ | .invokevirtual _ | .invokespecial _ | .new _ | .anewarray _ | .goto _ | .ifCond _ _ | .if_icmp _ _ | .ifnull _ => 3
  | .tableswitch _ _ _ _ => 0
  | _ => 1
def am_W (w : Cond) : Prop := w ∈ lw_tbl ∧ goodWord w = true
def am_ws : List Cond := lw_tbl.filter goodWord
theorem am_W.mem {w : Cond} (h : am_W w) : w ∈ am_ws := List.mem_filter.mpr h
/-- names of the classes that own code: 0 .. 11 the program's, 20 .. the JDK's, 30 the law -/
def am_cn (k : Nat) : String := match k with
  | 0 => RX0 | 1 => RX1 | 2 => RX2 | 3 => RX3 | 4 => RX4 | 5 => RX5 | 6 => RX6 | 7 => RX7 | 8 => RX8 | 9 => RX9 | 10 => RX10 | 11 => RX11
  | 20 => RJ0 | 21 => RJ1 | 22 => RJ3 | 23 => RJ9 | 24 => RJ6 | _ => RL
/-- the tables of the program: code, locals, class of the code, names, bytes, answers; the pool; the strings' places (class, index, number) -/
abbrev am_T : Type := (Nat → List am_I) × (Nat → Nat) × (Nat → Nat) × (Nat → MethodName) × (Nat → ByteArray) × (Nat → Option FieldType) × List (Nat × Nat × am_R) × List (Nat × Nat × Nat) × List (Nat × Nat × Nat)
def am_P (t : am_T) := t.1
def am_ML (t : am_T) := t.2.1
def am_O (t : am_T) (m : Nat) : String := am_cn (t.2.2.1 m)
def am_Y (t : am_T) := t.2.2.2.1
def am_B (t : am_T) := t.2.2.2.2.1
def am_RT (t : am_T) := t.2.2.2.2.2.1
def am_pl (t : am_T) := t.2.2.2.2.2.2.1
def am_ss (t : am_T) := t.2.2.2.2.2.2.2.1
def am_ns (t : am_T) := t.2.2.2.2.2.2.2.2
/-- what a pool entry says of the words -/
def am_PW (t : am_T) (own : String) (x : Nat) (r : am_R) : Prop := match r.1 with
  | 0 => ∃ (C : String) (T : u_T) (N : Nat) (ty : FieldType), vwCl[r.2.1]? = some (C, T, N) ∧ r.2.2.1 < N ∧ r.2.1 < 12 ∧ (T r.2.2.1).1 = C ∧ am_W (.fieldLink own x C (T r.2.2.1).2.1 (T r.2.2.1).2.2.1) ∧ parseFieldDescriptor (T r.2.2.1).2.2.1 = some ty ∧ (r.2.2.2 = 0 → ty = .int) ∧ (r.2.2.2 = 1 → ty = .boolean) ∧ (r.2.2.2 = 2 → (∃ n, ty = .object n) ∨ ∃ e, ty = .array e)
  | 1 => ((am_Y t r.2.1).cls ≠ "java/lang/invoke/MethodHandle" ∧ (am_Y t r.2.1).cls ≠ "java/lang/invoke/VarHandle") ∧ (parseMethodDescriptor (am_Y t r.2.1).desc).map (fun d => d.parameters.length) = some r.2.2.1 ∧ plainName (am_Y t r.2.1).cls = true ∧ am_W (.code (am_Y t r.2.1) (am_B t r.2.1) (am_ML t r.2.1) (am_RT t r.2.1)) ∧ am_W (.initialized (am_Y t r.2.1).cls) ∧ (am_W (.methodLink own x (am_Y t r.2.1)) ∨ ∃ oc, own = am_cn oc ∧ (oc, x, r.2.1) ∈ am_ns t) ∧ (r.2.2.2 = 99 → am_W (.static (am_Y t r.2.1))) ∧ (r.2.2.2 = 98 → (am_Y t r.2.1).name = "<init>" ∧ am_RT t r.2.1 = none ∧ am_W (.instanceMethod (am_Y t r.2.1))) ∧ (r.2.2.2 < 98 → (am_Y t r.2.1).cls = am_cn r.2.2.2 ∧ am_W (.instanceMethod (am_Y t r.2.1)) ∧ am_W (.selects (am_Y t r.2.1).cls (am_Y t r.2.1) (am_Y t r.2.1))) ∧ am_ML t r.2.1 ≤ 150 ∧ r.2.1 < 1000
  | 2 => ∃ (C : String) (T : u_T) (N : Nat), vwCl[r.2.1]? = some (C, T, N) ∧ am_W (.classLink own x C) ∧ am_W (.instantiable C N) ∧ am_W (.initialized C)
  | 3 => am_W (.constant own x (am_k r))
  | 5 => am_W (.constantLong own x (lN r.2.1))
  | 6 => (r.2.1 = 0 ∧ am_W (.fieldLink own x "java/lang/String" "value" "[B")) ∨ (r.2.1 = 1 ∧ am_W (.fieldLink own x "java/lang/String" "coder" "B"))
  | 7 => am_W (.methodLink own x arraycopyName) ∧ am_W (.native arraycopyName) ∧ am_W (.static arraycopyName) ∧ am_W (.initialized "java/lang/System")
  | 8 => am_W (.methodLink own x Lib.objectInit) ∧ am_W (.instanceMethod Lib.objectInit) ∧ am_W (.code Lib.objectInit ⟨#[0xb1]⟩ 1 none)
  | 9 => (r.2.1 = 0 ∧ am_W (.fieldLink own x "java/lang/String" "COMPACT_STRINGS" "Z")) ∨ (r.2.1 = 1 ∧ am_W (.fieldLink own x "jdk/internal/util/Preconditions" "SIOOBE_FORMATTER" "Ljava/util/function/BiFunction;"))
  | 10 => am_W (.classLink own x "NowhereMoney$Script")
  | 11 => am_W (.methodLink own x Lib.Math.max.name) ∧ am_W (.static Lib.Math.max.name) ∧ am_W (.initialized "java/lang/Math") ∧ am_W (.code Lib.Math.max.name Lib.Math.max.code 2 (some .int))
  | 12 => am_W (.methodLink own x Lib.Math.min.name) ∧ am_W (.static Lib.Math.min.name) ∧ am_W (.initialized "java/lang/Math") ∧ am_W (.code Lib.Math.min.name Lib.Math.min.code 2 (some .int))
  | 13 => am_W (.methodLink own x Lib.Math.abs.name) ∧ am_W (.static Lib.Math.abs.name) ∧ am_W (.initialized "java/lang/Math") ∧ am_W (.code Lib.Math.abs.name Lib.Math.abs.code 1 (some .int))
  | 14 => am_W (.methodLink own x Lib.MathLoose.min_long.x) ∧ am_W (.static Lib.MathLoose.min_long.x) ∧ am_W (.initialized "java/lang/Math") ∧ am_W (.code Lib.MathLoose.min_long.x Lib.MathLoose.min_long.code 4 (some .long))
  | _ => False
def am_rty (n : Nat) : FieldType := match n with
  | 0 => .int
  | 1 => .boolean
  | 2 => .byte
  | _ => .char
/-- what an instruction asks of what stands beside it -/
def am_GR (t : am_T) (m pc : Nat) (i : Instr) (r : am_R) : Prop := match i with
  | .iconst n => Int32.ofInt n = am_k r
  | .bipush n => (Int8.ofInt n).toInt32 = am_k r
  | .sipush n => (Int16.ofInt n).toInt32 = am_k r
  | .iinc j n => Int32.ofInt n = am_k r ∧ j < am_ML t m
  | .istore j => j < am_ML t m
  | .istore_n j => j.val < am_ML t m
  | .astore j => j < am_ML t m
  | .astore_n j => j.val < am_ML t m
  | .lstore j => j + 1 < am_ML t m
  | .lstore_n j => j.val + 1 < am_ML t m
  | .ldc x => (r.1 = 3 ∧ (t.2.2.1 m, x, r) ∈ am_pl t) ∨ (r.1 = 4 ∧ (t.2.2.1 m, x, r.2.1) ∈ am_ss t ∧ r.2.1 < am_sN)
  | .ldc_w x | .ldc2_w x | .getfield x | .getstatic x | .new x | .anewarray x | .invokevirtual x => (t.2.2.1 m, x, r) ∈ am_pl t
  | .invokestatic x => r.1 ≠ 0 → (t.2.2.1 m, x, r) ∈ am_pl t ∧ (r.1 = 1 → r.2.2.2 = 99)
  | .invokespecial x => (t.2.2.1 m, x, r) ∈ am_pl t ∧ (r.1 = 1 → r.2.2.2 = 98)
  | .putfield x => (t.2.2.1 m, x, r) ∈ am_pl t ∧ (∀ q, vwCl[r.2.1]? = some q → (q.2.1 r.2.2.1).2.2.2 = true → (am_Y t m).name = "<init>" ∧ am_O t m = q.1)
  | .goto o | .ifCond _ o | .if_icmp _ o | .ifnull o => (pc : Int) + o = (r.2.1 : Int)
  | .tableswitch dflt _ _ offs => 0 ≤ (pc : Int) + dflt ∧ ∀ o ∈ offs.toList, 0 ≤ (pc : Int) + o
  | .ireturn => am_RT t m = some (am_rty r.2.1)
  | .lreturn => am_RT t m = some .long
  | .areturn => ∃ n, am_RT t m = some (.object n)
  | .return_ => am_RT t m = none
  | _ => True
def am_dec (b : ByteArray) (pc : Nat) (i : Instr) : Prop := (am_len i ≠ 0 → decode b pc = .ok (i, am_len i)) ∧ (am_len i = 0 → ∃ n, decode b pc = .ok (i, n))
def am_pc (k : List am_I) : Nat := match k with
  | e :: _ => e.1
  | [] => 0
def am_GM (t : am_T) (m : Nat) : Prop := ∀ (e : am_I) (k : List am_I), e :: k <:+ am_P t m → am_dec (am_B t m) e.1 e.2.1 ∧ am_GR t m e.1 e.2.1 e.2.2 ∧ (k ≠ [] → am_len e.2.1 ≠ 0 → am_pc k = e.1 + am_len e.2.1)
def am_Good (t : am_T) : Prop := (∀ m, am_GM t m ∧ am_pc (am_P t m) = 0 ∧ (am_Y t m).cls = am_O t m) ∧ (∀ e ∈ am_pl t, am_PW t (am_cn e.1) e.2.1 e.2.2) ∧ (∀ (ci : Nat) (q : vw_C), vwCl[ci]? = some q → (∀ w ∈ u_ws q.1 q.2.1 q.2.2, am_W w)) ∧ am_W (.arrayClass .int)
/-- the strings: an object each, its coder, its bytes -/
def am_Ss (G : am_G) (A : Nat → Prop) (U : State) (H : Heap) : Prop := ∀ i : Nat, i < am_sN → va_O "java/lang/String" (G.1 i) A U H ∧ va_OF "java/lang/String" "coder" "B" (.int 0) (G.1 i) A U H ∧ va_OF "java/lang/String" "value" "[B" (.ref (G.2.1 i)) (G.1 i) A U H ∧ va_T .byte (G.2.1 i) (am_sL.getD i 0) (fun j => .int ((am_sB.getD i []).getD j 0)) A U H
/-- the static part of the world -/
def am_St (t : am_T) (D : va_G) (G : am_G) (dA dB : ClassId) (N0 L : Nat) (xs : Nat → Int32) (U : State) (H : Heap) : Prop :=
  va_K D vwCl [(dA, .int), (dB, .object "NowhereMoney$Script")] U ∧ va_AO "NowhereMoney$Script" U ∧ (∀ e ∈ am_ss t, vk_R (am_cn e.1) e.2.1 (am_sT.getD e.2.2 "") (G.1 e.2.2) U) ∧ am_Ss G (fun q => N0 ≤ q) U H ∧
  va_Z "java/lang/String" "COMPACT_STRINGS" "Z" (.int 1) (fun q => N0 ≤ q) U H ∧ va_Z "jdk/internal/util/Preconditions" "SIOOBE_FORMATTER" "Ljava/util/function/BiFunction;" (va_rf G.2.2.2) (fun q => N0 ≤ q) U H ∧ (0 < L → va_X G.2.2.1 (L - 1) xs U H) ∧ G.2.2.1 < N0 ∧ N0 ≤ H.size ∧ (∀ e ∈ am_ns t, va_Nw (.methodLinkNest (am_cn e.1) e.2.1 (am_Y t e.2.2) "NowhereMoney") U)
def am_Wd (D : va_G) (G : am_G) (dA dB : ClassId) (N0 L : Nat) (xs : Nat → Int32) (al : List Nat) (S : am_Sh) (μ : am_M) (H : Heap) : Prop :=
  al.length = S.length ∧ S.length ≤ 900 ∧ (0 < L → μ 3000 = xs) ∧ va_P D vwCl (am_conc G dA dB al S μ) H ∧ va_D (fun q => N0 ≤ q) (am_conc G dA dB al S μ)
theorem am_ldI_some {ls ls' : am_L} {j : Nat} {st st' : List Value} (h : am_ldI ls j st = some (ls', st')) : ∃ x, am_get ls j = some (.int x) ∧ ls' = ls ∧ st' = .int x :: st := by
  unfold am_ldI at h
  split at h
  · cases h; exact ⟨_, by assumption, rfl, rfl⟩
  · cases h
theorem am_ldL_some {ls ls' : am_L} {j : Nat} {st st' : List Value} (h : am_ldL ls j st = some (ls', st')) : ∃ x, am_get ls j = some (.long x) ∧ ls' = ls ∧ st' = .long x :: st := by
  unfold am_ldL at h
  split at h
  · cases h; exact ⟨_, by assumption, rfl, rfl⟩
  · cases h
theorem am_ldA_some {ls ls' : am_L} {j : Nat} {st st' : List Value} (h : am_ldA ls j st = some (ls', st')) : (∃ x, am_get ls j = some (.ref x) ∧ ls' = ls ∧ st' = .ref x :: st) ∨ (am_get ls j = some .null ∧ ls' = ls ∧ st' = .null :: st) := by
  unfold am_ldA at h
  split at h
  · cases h; exact Or.inl ⟨_, by assumption, rfl, rfl⟩
  · cases h; exact Or.inr ⟨by assumption, rfl, rfl⟩
  · cases h
theorem am_stI_some {ls ls' : am_L} {j : Nat} {st st' : List Value} (h : am_stI ls j st = some (ls', st')) : ∃ x, st = .int x :: st' ∧ ls' = am_set ls j (.int x) := by
  unfold am_stI at h
  split at h
  · cases h; exact ⟨_, rfl, rfl⟩
  · cases h
theorem am_stL_some {ls ls' : am_L} {j : Nat} {st st' : List Value} (h : am_stL ls j st = some (ls', st')) : ∃ x, st = .long x :: st' ∧ ls' = am_set2 ls j (.long x) := by
  unfold am_stL at h
  split at h
  · cases h; exact ⟨_, rfl, rfl⟩
  · cases h
theorem am_stA_some {ls ls' : am_L} {j : Nat} {st st' : List Value} (h : am_stA ls j st = some (ls', st')) : (∃ x, st = .ref x :: st' ∧ ls' = am_set ls j (.ref x)) ∨ (st = .null :: st' ∧ ls' = am_set ls j .null) := by
  unfold am_stA at h
  split at h
  · cases h; exact Or.inl ⟨_, rfl, rfl⟩
  · cases h; exact Or.inr ⟨rfl, rfl⟩
  · cases h
theorem am_bin_some {f : Int32 → Int32 → Int32} {ls ls' : am_L} {st st' : List Value} (h : am_bin f ls st = some (ls', st')) : ∃ x y u, st = .int y :: .int x :: u ∧ ls' = ls ∧ st' = .int (f x y) :: u := by
  unfold am_bin at h
  split at h
  · cases h; exact ⟨_, _, _, rfl, rfl, rfl⟩
  · cases h
theorem am_binL_some {f : Int64 → Int64 → Int64} {ls ls' : am_L} {st st' : List Value} (h : am_binL f ls st = some (ls', st')) : ∃ x y u, st = .long y :: .long x :: u ∧ ls' = ls ∧ st' = .long (f x y) :: u := by
  unfold am_binL at h
  split at h
  · cases h; exact ⟨_, _, _, rfl, rfl, rfl⟩
  · cases h
theorem am_un_some {f : Int32 → Value} {ls ls' : am_L} {st st' : List Value} (h : am_un f ls st = some (ls', st')) : ∃ x u, st = .int x :: u ∧ ls' = ls ∧ st' = f x :: u := by
  unfold am_un at h
  split at h
  · cases h; exact ⟨_, _, rfl, rfl, rfl⟩
  · cases h
theorem am_sL_of {c : Nat} (h : c < am_sN) : am_sL.getD c 0 < 2 ^ 31 := by
  have : ∀ c, c < 21 → am_sL.getD c 0 < 2 ^ 31 := by decide +kernel
  exact this c h
theorem am_ad_lt {G : am_G} {al : List Nat} {c : Nat} (h : c < 1000) : am_ad G al c = al.getD c 0 := by
  unfold am_ad
  have : Nat.blt c 1000 = true := by unfold Nat.blt; exact Nat.ble_eq_true_of_le h
  rw [this]; rfl
theorem am_blt {a b : Nat} : Nat.blt a b = true ↔ a < b := by unfold Nat.blt; rw [Nat.ble_eq]; exact Iff.rfl
theorem am_ad_str {G : am_G} {al : List Nat} {c : Nat} (h : 1000 ≤ c) (h2 : c < 2000) : am_ad G al c = G.1 (c - 1000) := by
  unfold am_ad
  have e1 : Nat.blt c 1000 = false := by rw [← Bool.not_eq_true, am_blt]; omega
  have e2 : Nat.blt c 2000 = true := am_blt.mpr h2
  rw [e1, e2]; rfl
theorem am_ad_byt {G : am_G} {al : List Nat} {c : Nat} (h : 2000 ≤ c) (h2 : c < 3000) : am_ad G al c = G.2.1 (c - 2000) := by
  unfold am_ad
  have e1 : Nat.blt c 1000 = false := by rw [← Bool.not_eq_true, am_blt]; omega
  have e2 : Nat.blt c 2000 = false := by rw [← Bool.not_eq_true, am_blt]; omega
  have e3 : Nat.blt c 3000 = true := am_blt.mpr h2
  rw [e1, e2, e3]; rfl
theorem am_ad_scr {G : am_G} {al : List Nat} : am_ad G al 3000 = G.2.2.1 := rfl
theorem am_lt_len {α : Type} {l : List α} {i : Nat} {x : α} (h : l[i]? = some x) : i < l.length := (List.getElem?_eq_some_iff.mp h).1
section VAR
variable {p : Program} {l : Launch} {e : Env} {R : Room} {s : State} {mi : MethodId} {args : Array Value} {below : List Frame} {meth : Method} {c : Code} {H : Heap} {locs : List Loc} {cells slots : Nat} {Q : State → Prop}
variable {t : am_T} {D : va_G} {G : am_G} {dA dB : ClassId} {N0 L : Nat} {xs : Nat → Int32} {al : List Nat} {S : am_Sh} {μ : am_M} {m : Nat}
/-- what holds all through a method's body -/
def am_Env (t : am_T) (D : va_G) (G : am_G) (dA dB : ClassId) (N0 L : Nat) (xs : Nat → Int32) (p : Program) (s : State) (mi : MethodId) (args : Array Value) (meth : Method) (c : Code) (m : Nat) : Prop :=
  p.tables.exec = Jvm.exec ∧ c.code = am_B t m ∧ c.maxLocals = am_ML t m ∧ s.vm.findClass (am_O t m) = some mi.cls ∧ (∀ w ∈ am_ws, w.before args s = true) ∧ ((am_Y t m).name = "<init>" → meth.name = "<init>") ∧ am_St t D G dA dB N0 L xs s s.heap
set_option maxHeartbeats 4000000 in
theorem am_sim_pure (hG : am_Good t) (hE : am_Env t D G dA dB N0 L xs p s mi args meth c m) {pc : Nat} {i : Instr} {r : am_R} {ls ls' : am_L} {st st' : List Value} {ar : Array Slot}
    (hrun : am_pure L S i r ls st μ = some (ls', st')) (hdec : am_dec (am_B t m) pc i) (hgr : am_GR t m pc i r) (hW : am_Wd D G dA dB N0 L xs al S μ H) (hS : va_S (fun q => N0 ≤ q) s.heap H locs)
    (hl : am_hasL (am_tr G al) ar (am_ML t m) ls)
    (kk : ∀ ar', am_hasL (am_tr G al) ar' (am_ML t m) ls' → W p l e R s mi args below meth c H locs cells slots Q (F0 mi (pc + am_len i) ar' (st'.map (am_tr G al)))) :
    W p l e R s mi args below meth c H locs cells slots Q (F0 mi pc ar (st.map (am_tr G al))) := by
  obtain ⟨hx, hb, hml, hown, hts, hin, hSt⟩ := hE
  have hd := hdec.1
  cases i
  case iconst n =>
    cases hrun
    refine lv_iconst hx hb (hd (Nat.succ_ne_zero _)) hgr ?_
    exact kk ar hl
  case bipush n =>
    cases hrun
    refine lv_bipush hx hb (hd (Nat.succ_ne_zero _)) hgr ?_
    exact kk ar hl
  case sipush n =>
    cases hrun
    refine lv_sipush hx hb (hd (Nat.succ_ne_zero _)) hgr ?_
    exact kk ar hl
  case iload j =>
    obtain ⟨x, hg, rfl, rfl⟩ := am_ldI_some hrun
    refine lv_iload hx hb (hd (Nat.succ_ne_zero _)) (hl.at hg) ?_
    exact kk ar hl
  case iload_n j =>
    obtain ⟨x, hg, rfl, rfl⟩ := am_ldI_some hrun
    refine lv_iload_n hx hb (hd (Nat.succ_ne_zero _)) rfl (hl.at hg) ?_
    exact kk ar hl
  case lload j =>
    obtain ⟨x, hg, rfl, rfl⟩ := am_ldL_some hrun
    refine lv_lload hx hb (hd (Nat.succ_ne_zero _)) (hl.at hg) ?_
    exact kk ar hl
  case lload_n j =>
    obtain ⟨x, hg, rfl, rfl⟩ := am_ldL_some hrun
    refine lv_lload_n hx hb (hd (Nat.succ_ne_zero _)) rfl (hl.at hg) ?_
    exact kk ar hl
  case aload j =>
    rcases am_ldA_some hrun with ⟨x, hg, rfl, rfl⟩ | ⟨hg, rfl, rfl⟩
    · refine lv_aload hx hb (hd (Nat.succ_ne_zero _)) (hl.at hg) ?_
      exact kk ar hl
    · refine lv_aloadN hx hb (hd (Nat.succ_ne_zero _)) (hl.at hg) ?_
      exact kk ar hl
  case aload_n j =>
    rcases am_ldA_some hrun with ⟨x, hg, rfl, rfl⟩ | ⟨hg, rfl, rfl⟩
    · refine lv_aload_n hx hb (hd (Nat.succ_ne_zero _)) rfl (hl.at hg) ?_
      exact kk ar hl
    · refine lv_aload_nN hx hb (hd (Nat.succ_ne_zero _)) rfl (hl.at hg) ?_
      exact kk ar hl
  case istore j =>
    obtain ⟨x, rfl, rfl⟩ := am_stI_some hrun
    refine lv_istore hx hb (hd (Nat.succ_ne_zero _)) hl.2 hgr rfl (fun ar' hl' => ?_)
    exact kk ar' (am_hasL.store (fun _ => am_tr_cat) hl hl')
  case istore_n j =>
    obtain ⟨x, rfl, rfl⟩ := am_stI_some hrun
    refine lv_istore_n hx hb (hd (Nat.succ_ne_zero _)) rfl hl.2 hgr rfl (fun ar' hl' => ?_)
    exact kk ar' (am_hasL.store (fun _ => am_tr_cat) hl hl')
  case lstore j =>
    obtain ⟨x, rfl, rfl⟩ := am_stL_some hrun
    refine lv_lstore hx hb (hd (Nat.succ_ne_zero _)) hl.2 hgr rfl (fun ar' hl' => ?_)
    exact kk ar' (am_hasL.store2 (fun _ => am_tr_cat) hl hl')
  case lstore_n j =>
    obtain ⟨x, rfl, rfl⟩ := am_stL_some hrun
    refine lv_lstore_n hx hb (hd (Nat.succ_ne_zero _)) rfl hl.2 hgr rfl (fun ar' hl' => ?_)
    exact kk ar' (am_hasL.store2 (fun _ => am_tr_cat) hl hl')
  case astore j =>
    rcases am_stA_some hrun with ⟨x, rfl, rfl⟩ | ⟨rfl, rfl⟩
    · refine lv_astore hx hb (hd (Nat.succ_ne_zero _)) hl.2 hgr rfl (fun ar' hl' => ?_)
      exact kk ar' (am_hasL.store (v := .ref x) (fun _ => am_tr_cat) hl hl')
    · refine lv_astoreN hx hb (hd (Nat.succ_ne_zero _)) hl.2 hgr rfl (fun ar' hl' => ?_)
      exact kk ar' (am_hasL.store (v := .null) (fun _ => am_tr_cat) hl hl')
  case astore_n j =>
    rcases am_stA_some hrun with ⟨x, rfl, rfl⟩ | ⟨rfl, rfl⟩
    · refine lv_astore_n hx hb (hd (Nat.succ_ne_zero _)) rfl hl.2 hgr rfl (fun ar' hl' => ?_)
      exact kk ar' (am_hasL.store (v := .ref x) (fun _ => am_tr_cat) hl hl')
    · refine lv_astore_nN hx hb (hd (Nat.succ_ne_zero _)) rfl hl.2 hgr rfl (fun ar' hl' => ?_)
      exact kk ar' (am_hasL.store (v := .null) (fun _ => am_tr_cat) hl hl')
  case iinc j n =>
    dsimp only [am_pure] at hrun
    split at hrun
    · rename_i x hg
      cases hrun
      obtain ⟨k, hk⟩ := List.getElem?_of_mem ((am_prs_mem (f := am_tr G al) ls 0 (j, .int x)).mpr ⟨j, .int x, (Nat.zero_add j).symm, am_get_some hg, rfl⟩)
      refine lv_iinc hx hb (hd (Nat.succ_ne_zero _)) hl.2 hk (by rw [hgr.1]) hgr.2 rfl (fun ar' hl' => ?_)
      exact kk ar' (am_hasL.store (v := .int (x + am_k r)) (fun _ => am_tr_cat) hl hl')
    · cases hrun
  case iadd =>
    obtain ⟨x, y, u, rfl, rfl, rfl⟩ := am_bin_some hrun
    refine lv_iadd hx hb (hd (Nat.succ_ne_zero _)) ?_
    exact kk ar hl
  case isub =>
    obtain ⟨x, y, u, rfl, rfl, rfl⟩ := am_bin_some hrun
    refine lv_isub hx hb (hd (Nat.succ_ne_zero _)) ?_
    exact kk ar hl
  case imul =>
    obtain ⟨x, y, u, rfl, rfl, rfl⟩ := am_bin_some hrun
    refine lv_imul hx hb (hd (Nat.succ_ne_zero _)) ?_
    exact kk ar hl
  case iand =>
    obtain ⟨x, y, u, rfl, rfl, rfl⟩ := am_bin_some hrun
    refine lv_iand hx hb (hd (Nat.succ_ne_zero _)) ?_
    exact kk ar hl
  case ior =>
    obtain ⟨x, y, u, rfl, rfl, rfl⟩ := am_bin_some hrun
    refine lv_ior hx hb (hd (Nat.succ_ne_zero _)) ?_
    exact kk ar hl
  case ixor =>
    obtain ⟨x, y, u, rfl, rfl, rfl⟩ := am_bin_some hrun
    refine lv_ixor hx hb (hd (Nat.succ_ne_zero _)) ?_
    exact kk ar hl
  case ishl =>
    obtain ⟨x, y, u, rfl, rfl, rfl⟩ := am_bin_some hrun
    refine lv_ishl hx hb (hd (Nat.succ_ne_zero _)) ?_
    exact kk ar hl
  case ishr =>
    obtain ⟨x, y, u, rfl, rfl, rfl⟩ := am_bin_some hrun
    refine lv_ishr hx hb (hd (Nat.succ_ne_zero _)) ?_
    exact kk ar hl
  case iushr =>
    obtain ⟨x, y, u, rfl, rfl, rfl⟩ := am_bin_some hrun
    refine lv_iushr hx hb (hd (Nat.succ_ne_zero _)) rfl ?_
    exact kk ar hl
  case ladd =>
    obtain ⟨x, y, u, rfl, rfl, rfl⟩ := am_binL_some hrun
    refine lv_ladd hx hb (hd (Nat.succ_ne_zero _)) ?_
    exact kk ar hl
  case lmul =>
    obtain ⟨x, y, u, rfl, rfl, rfl⟩ := am_binL_some hrun
    refine lv_lmul hx hb (hd (Nat.succ_ne_zero _)) ?_
    exact kk ar hl
  case ineg =>
    obtain ⟨x, u, rfl, rfl, rfl⟩ := am_un_some hrun
    refine lv_ineg hx hb (hd (Nat.succ_ne_zero _)) ?_
    exact kk ar hl
  case i2l =>
    obtain ⟨x, u, rfl, rfl, rfl⟩ := am_un_some hrun
    refine lv_i2l hx hb (hd (Nat.succ_ne_zero _)) rfl ?_
    exact kk ar hl
  case i2c =>
    obtain ⟨x, u, rfl, rfl, rfl⟩ := am_un_some hrun
    refine lv_i2c hx hb (hd (Nat.succ_ne_zero _)) rfl ?_
    exact kk ar hl
  case l2i =>
    dsimp only [am_pure] at hrun
    split at hrun
    · cases hrun
      refine lv_l2i hx hb (hd (Nat.succ_ne_zero _)) rfl ?_
      exact kk ar hl
    · cases hrun
  case lcmp =>
    dsimp only [am_pure] at hrun
    split at hrun
    · cases hrun
      refine W.lcmp hx hb (hd (Nat.succ_ne_zero _)) ?_
      exact kk ar hl
    · cases hrun
  case dup =>
    dsimp only [am_pure] at hrun
    split at hrun
    · cases hrun
      refine lv_dup hx hb (hd (Nat.succ_ne_zero _)) rfl ?_
      exact kk ar hl
    · cases hrun
      refine lv_dup hx hb (hd (Nat.succ_ne_zero _)) rfl ?_
      exact kk ar hl
    · cases hrun
  case dup2 =>
    dsimp only [am_pure] at hrun
    split at hrun
    · cases hrun
      refine lv_dup2_11 hx hb (hd (Nat.succ_ne_zero _)) rfl rfl ?_
      exact kk ar hl
    · cases hrun
      refine lv_dup2_11 hx hb (hd (Nat.succ_ne_zero _)) rfl rfl ?_
      exact kk ar hl
    · cases hrun
  case pop =>
    dsimp only [am_pure] at hrun
    split at hrun
    · cases hrun
      refine lv_pop hx hb (hd (Nat.succ_ne_zero _)) rfl ?_
      exact kk ar hl
    · cases hrun
      refine lv_pop hx hb (hd (Nat.succ_ne_zero _)) rfl ?_
      exact kk ar hl
    · cases hrun
  case aconst_null =>
    cases hrun
    refine lv_null hx hb (hd (Nat.succ_ne_zero _)) ?_
    exact kk ar hl
  case ldc x =>
    rcases hgr with ⟨h3, hm⟩ | ⟨h4, hm, hlt⟩
    · have hw := hG.2.1 _ hm
      unfold am_PW at hw
      simp only [h3] at hw
      simp only [am_pure, h3] at hrun
      cases hrun
      refine lv_ldc hx hb hown (hts _ hw.mem) (hd (Nat.succ_ne_zero _)) ?_
      exact kk ar hl
    · simp only [am_pure, h4] at hrun
      cases hrun
      have hz := hSt.2.2.1 _ hm
      refine va_ldcS hx hb hown hz (hd (Nat.succ_ne_zero _)) ?_
      have e1 : am_tr G al (.ref (1000 + r.2.1)) = .ref (G.1 r.2.1) := by
        show Value.ref (am_ad G al (1000 + r.2.1)) = _
        have : r.2.1 < 21 := hlt
        rw [am_ad_str (by omega) (by omega), show 1000 + r.2.1 - 1000 = r.2.1 by omega]
      have := kk ar hl
      rw [List.map_cons, e1] at this
      exact this
  case ldc_w x =>
    dsimp only [am_pure] at hrun
    split at hrun
    · rename_i h3
      cases hrun
      have hw := hG.2.1 _ hgr
      unfold am_PW at hw
      simp only [h3] at hw
      refine lv_ldcw hx hb hown (hts _ hw.mem) (hd (Nat.succ_ne_zero _)) ?_
      exact kk ar hl
    · cases hrun
  case ldc2_w x =>
    dsimp only [am_pure] at hrun
    split at hrun
    · rename_i h3
      cases hrun
      have hw := hG.2.1 _ hgr
      unfold am_PW at hw
      simp only [h3] at hw
      refine lv_ldc2 hx hb hown (hts _ hw.mem) (hd (Nat.succ_ne_zero _)) ?_
      exact kk ar hl
    · cases hrun
  case getstatic x =>
    dsimp only [am_pure] at hrun
    split at hrun
    · rename_i h3
      have hw := hG.2.1 _ hgr
      unfold am_PW at hw
      simp only [h3] at hw
      rcases hw with ⟨h0, hw⟩ | ⟨h0, hw⟩
      · rw [h0] at hrun
        cases hrun
        refine va_gets hx hb hSt.2.2.2.2.1 hS hown (hts _ hw.mem) (fun _ h => h) (hd (Nat.succ_ne_zero _)) ?_
        exact kk ar hl
      · rw [h0] at hrun
        cases hrun
        refine va_gets hx hb hSt.2.2.2.2.2.1 hS hown (hts _ hw.mem) (fun _ h => h) (hd (Nat.succ_ne_zero _)) ?_
        exact kk ar hl
    · cases hrun
  case arraylength =>
    dsimp only [am_pure] at hrun
    split at hrun
    · rename_i cc u
      split at hrun
      · rename_i n hn
        cases hrun
        show W p l e R s mi args below meth c H locs cells slots Q (F0 mi pc ar (.ref (am_ad G al cc) :: u.map (am_tr G al)))
        unfold am_alen at hn
        split at hn
        · rename_i kd vs hc
          have hlt := am_lt_len hc
          have hat := am_conc_at G dA dB al S μ cc
          rw [hc] at hat
          rw [am_ad_lt (Nat.lt_of_lt_of_le hlt (Nat.le_trans hW.2.1 (by decide)))]
          cases hk : Nat.ble 100 kd with
          | true =>
            rw [hk] at hn
            cases hn
            have e5 : Nat.blt kd 50 = false := by
              have := Nat.le_of_ble_eq_true hk
              rw [← Bool.not_eq_true, am_blt]; omega
            simp only [Option.map_some, am_cell, e5, hk, cond_true, cond_false] at hat
            exact va_alen hx hb hSt.1 hW.2.2.2.1 cc 0 hat rfl rfl (hd (Nat.succ_ne_zero _)) (kk ar hl)
          | false =>
            rw [hk] at hn
            cases hk2 : Nat.beq kd 98 with
            | true =>
              rw [hk2] at hn
              cases hn
              have := Nat.eq_of_beq_eq_true hk2
              subst this
              exact va_alen hx hb hSt.1 hW.2.2.2.1 cc 1 hat rfl rfl (hd (Nat.succ_ne_zero _)) (kk ar hl)
            | false => rw [hk2] at hn; cases hn
        · cases hk : (Nat.beq cc 3000 && Nat.blt 0 L) with
          | true =>
            rw [hk] at hn
            have hn : L - 1 = n := Option.some.inj hn
            subst hn
            obtain ⟨hk, hL⟩ := (Bool.and_eq_true _ _).mp hk
            have := Nat.eq_of_beq_eq_true hk
            subst this
            exact va_slen hx hb (hSt.2.2.2.2.2.2.1 (am_blt.mp hL)) (Nat.lt_of_lt_of_le hSt.2.2.2.2.2.2.2.1 hSt.2.2.2.2.2.2.2.2.1) (Nat.not_le.mpr hSt.2.2.2.2.2.2.2.1) hS (hd (Nat.succ_ne_zero _)) (kk ar hl)
          | false =>
            rw [hk] at hn
            cases hk2 : (Nat.ble 2000 cc && Nat.blt cc (2000 + am_sN)) with
            | true =>
              rw [hk2] at hn
              have hn : am_sL.getD (cc - 2000) 0 = n := Option.some.inj hn
              subst hn
              obtain ⟨k1, k2⟩ := (Bool.and_eq_true _ _).mp hk2
              have k1 := Nat.le_of_ble_eq_true k1
              have k2 : cc < 2021 := am_blt.mp k2
              rw [am_ad_byt k1 (Nat.lt_trans k2 (by decide))]
              obtain ⟨-, -, -, hT⟩ := hSt.2.2.2.1 (cc - 2000) ((Nat.sub_lt_iff_lt_add k1).mpr k2)
              obtain ⟨cell, g1, g2, g3, g4, g5, g6, g7⟩ := hT
              refine W.alen (cell := cell) (ty := .byte) (n := nI (am_sL.getD (cc - 2000) 0)) hx hb ?_ g2 g5 rfl rfl (hd (Nat.succ_ne_zero _)) (kk ar hl)
              rw [hS.2.1 _ (Array.getElem?_eq_some_iff.mp g1).1 g7]
              exact g1
            | false => rw [hk2] at hn; cases hn
      · cases hrun
    · cases hrun
  case getfield x =>
    change am_getf S r ls st μ = some (ls', st') at hrun
    unfold am_getf at hrun
    split at hrun
    · rename_i cc u
      have hw := hG.2.1 _ hgr
      unfold am_PW at hw
      show W p l e R s mi args below meth c H locs cells slots Q (F0 mi pc ar (.ref (am_ad G al cc) :: u.map (am_tr G al)))
      split at hrun
      · rename_i h0
        simp only [h0] at hw
        obtain ⟨C, T, N, ty, hc, hk, hci, hCd, hlk, -⟩ := hw
        split at hrun
        · rename_i kd vs hcc
          have hlt := am_lt_len hcc
          rw [am_ad_lt (Nat.lt_of_lt_of_le hlt (Nat.le_trans hW.2.1 (by decide)))]
          have hat := am_conc_at G dA dB al S μ cc
          rw [hcc] at hat
          cases hkd : Nat.beq kd r.2.1 with
          | false => rw [hkd] at hrun; cases hrun
          | true =>
            have e0 := Nat.eq_of_beq_eq_true hkd
            subst e0
            rw [hkd] at hrun
            have e5 : Nat.blt r.2.1 50 = true := am_blt.mpr (by omega)
            simp only [Option.map_some, am_cell, e5, cond_true] at hat
            simp only [cond_true] at hrun
            have hfv : ∀ v, vs[r.2.2.1]? = some v → (vs.mapIdx (am_fld G al μ cc))[r.2.2.1]? = some (am_fld G al μ cc r.2.2.1 v) := fun v hv => by rw [List.getElem?_mapIdx, hv]; rfl
            have hget : ∀ v, vs[r.2.2.1]? = some v → W p l e R s mi args below meth c H locs cells slots Q (F0 mi (pc + 3) ar (am_fld G al μ cc r.2.2.1 v :: u.map (am_tr G al))) → W p l e R s mi args below meth c H locs cells slots Q (F0 mi pc ar (.ref (al.getD cc 0) :: u.map (am_tr G al))) := fun v hv kv =>
              va_get hx hb (hts) (fun w hw => (hG.2.2.1 _ _ hc w hw).mem) hown hSt.1 hW.2.2.2.1 cc hat hc r.2.2.1 hk (ref := C) (hts _ hlk.mem) (fun x hx => by rw [← hCd]; exact hx) (hfv v hv) (hd (Nat.succ_ne_zero _)) kv
            split at hrun
            · rename_i hv
              cases hrun
              exact hget _ hv (kk ar hl)
            · rename_i hv
              cases hrun
              exact hget _ hv (kk ar hl)
            · rename_i hv
              cases hrun
              exact hget _ hv (kk ar hl)
            · cases hrun
        · cases hrun
      · rename_i h6
        simp only [h6] at hw
        cases hk2 : (Nat.ble 1000 cc && Nat.blt cc (1000 + am_sN)) with
        | false => rw [hk2] at hrun; cases hrun
        | true =>
          rw [hk2] at hrun
          obtain ⟨k1, k2⟩ := (Bool.and_eq_true _ _).mp hk2
          have k1 := Nat.le_of_ble_eq_true k1
          have k2 : cc < 1021 := am_blt.mp k2
          have k3 : cc - 1000 < 21 := (Nat.sub_lt_iff_lt_add k1).mpr k2
          have k4 : cc + 1000 < 3000 := Nat.add_lt_add_right (Nat.lt_trans k2 (by decide)) 1000
          have k5 : 2000 ≤ cc + 1000 := Nat.add_le_add_right k1 1000
          have k6 : cc < 2000 := Nat.lt_trans k2 (by decide)
          rw [am_ad_str k1 k6]
          obtain ⟨-, hco, hva, -⟩ := hSt.2.2.2.1 (cc - 1000) k3
          simp only [cond_true] at hrun
          rcases hw with ⟨h0, hw⟩ | ⟨h0, hw⟩
          · rw [h0] at hrun
            cases hrun
            refine vk_getf hx hb hva hS hown (hts _ hw.mem) (fun _ h => h) (hd (Nat.succ_ne_zero _)) ?_
            have := kk ar hl
            have e1 : am_tr G al (.ref (cc + 1000)) = .ref (G.2.1 (cc - 1000)) := by
              show Value.ref (am_ad G al (cc + 1000)) = _
              rw [am_ad_byt k5 k4, show cc + 1000 - 2000 = cc - 1000 from Nat.add_sub_add_right cc 1000 1000]
            rw [List.map_cons, e1] at this
            exact this
          · rw [h0] at hrun
            cases hrun
            refine vk_getf hx hb hco hS hown (hts _ hw.mem) (fun _ h => h) (hd (Nat.succ_ne_zero _)) ?_
            exact kk ar hl
      · cases hrun
    · cases hrun
  all_goals (dsimp only [am_pure] at hrun; cases hrun)
end VAR
end
section
/-! The rows that change cells. -/
def am_slc (e : Nat × List Value) : Nat := bif Nat.ble 100 e.1 then e.1 - 100 else e.2.length
def am_sl (S : am_Sh) : Nat := (S.map am_slc).sum
theorem am_sl_app (S : am_Sh) (e : Nat × List Value) : am_sl (S ++ [e]) = am_sl S + am_slc e := by simp [am_sl]
theorem am_sl_set : ∀ (S : am_Sh) (c : Nat) (e e' : Nat × List Value), S[c]? = some e → am_slc e' = am_slc e → am_sl (S.set c e') = am_sl S := by
  intro S
  induction S with
  | nil => intro c e e' h; simp at h
  | cons x t ih =>
    intro c e e' h h2
    cases c with
    | zero =>
      simp at h
      subst h
      simp [am_sl, h2]
    | succ c =>
      have := ih c e e' (by simpa using h) h2
      simp only [am_sl, List.set_cons_succ, List.map_cons, List.sum_cons] at this ⊢
      omega
theorem am_set_same {α : Type} {S : List α} {c : Nat} {e : α} (h : S[c]? = some e) : S.set c e = S := by
  apply List.ext_getElem?
  intro j
  rw [List.getElem?_set]
  by_cases hj : c = j
  · subst hj
    rw [if_pos rfl, if_pos (am_lt_len h), h]
  · rw [if_neg hj]
theorem am_ad_push {G : am_G} {al : List Nat} {q a : Nat} (h9 : al.length ≤ 900) (h : am_okV al.length (.ref a) = true) : am_ad G (al ++ [q]) a = am_ad G al a := by
  unfold am_ad
  have h : (Nat.blt a al.length || Nat.ble 1000 a) = true := h
  cases h1 : Nat.blt a 1000 with
  | false => rfl
  | true =>
    have h2 : a < al.length := by
      rcases (Bool.or_eq_true _ _).mp h with h | h
      · exact am_blt.mp h
      · exact absurd (Nat.le_of_ble_eq_true h) (Nat.not_le.mpr (am_blt.mp h1))
    show (al ++ [q]).getD a 0 = al.getD a 0
    rw [List.getD_eq_getElem?_getD, List.getD_eq_getElem?_getD, List.getElem?_append_left h2]
theorem am_tr_push {G : am_G} {al : List Nat} {q : Nat} {v : Value} (h9 : al.length ≤ 900) (h : am_okV al.length v = true) : am_tr G (al ++ [q]) v = am_tr G al v := by
  cases v with
  | ref a => show Value.ref _ = Value.ref _; rw [am_ad_push h9 h]
  | _ => rfl
theorem am_cell_push {G : am_G} {dA dB : ClassId} {al : List Nat} {μ : am_M} {q c : Nat} {e : Nat × List Value} (h9 : al.length ≤ 900) (h : am_okS al.length e.2 = true) : am_cell G dA dB (al ++ [q]) μ c e = am_cell G dA dB al μ c e := by
  have hv : ∀ v ∈ e.2, am_okV al.length v = true := fun v hv => List.all_eq_true.mp h v hv
  unfold am_cell
  have e1 : e.2.mapIdx (am_fld G (al ++ [q]) μ c) = e.2.mapIdx (am_fld G al μ c) := by
    apply List.ext_getElem?
    intro j
    rw [List.getElem?_mapIdx, List.getElem?_mapIdx]
    cases hj : e.2[j]? with
    | none => rfl
    | some v =>
      have := am_tr_push (G := G) (q := q) h9 (hv v (List.mem_of_getElem? hj))
      cases v <;> simp_all [am_fld]
  have e2 : am_qf G (al ++ [q]) e.2 = am_qf G al e.2 := by
    funext j
    unfold am_qf
    cases hj : e.2[j]? with
    | none => rfl
    | some v =>
      cases v with
      | ref a => show some _ = some _; rw [am_ad_push h9 (hv _ (List.mem_of_getElem? hj))]
      | _ => rfl
  rw [e1, e2]
theorem am_conc_push {G : am_G} {dA dB : ClassId} {al : List Nat} {S : am_Sh} {μ : am_M} {q : Nat} {e : Nat × List Value} {f : Nat → Int32} {x : va_E} (hlen : al.length = S.length) (h9 : S.length ≤ 900) (hok : am_okH S.length S = true) (hx : am_cell G dA dB (al ++ [q]) (am_row μ S.length f) S.length e = x) :
    am_conc G dA dB al S μ ++ [(q, x)] = am_conc G dA dB (al ++ [q]) (S ++ [e]) (am_row μ S.length f) := by
  apply List.ext_getElem?
  intro j
  have hl : (am_conc G dA dB al S μ).length = S.length := by unfold am_conc; simp
  rw [am_conc_at]
  by_cases hj : j < S.length
  · rw [List.getElem?_append_left (by omega), List.getElem?_append_left hj, am_conc_at]
    cases hs : S[j]? with
    | none => rfl
    | some y =>
      simp only [Option.map_some]
      rw [am_cell_row (Nat.ne_of_lt hj), am_cell_push (by omega) (by rw [hlen]; exact List.all_eq_true.mp hok y (List.mem_of_getElem? hs)), List.getD_eq_getElem?_getD, List.getD_eq_getElem?_getD, List.getElem?_append_left (by omega)]
  · by_cases hj2 : j = S.length
    · subst hj2
      rw [List.getElem?_append_right (by omega), List.getElem?_append_right (Nat.le_refl _), hl]
      simp only [Nat.sub_self, List.getElem?_cons_zero, Option.map_some, hx]
      rw [List.getD_eq_getElem?_getD, List.getElem?_append_right (by omega), hlen]
      simp
    · rw [List.getElem?_eq_none (by simp; omega), List.getElem?_eq_none (by simp; omega)]
      rfl
theorem am_conc_push0 {G : am_G} {dA dB : ClassId} {al : List Nat} {S : am_Sh} {μ : am_M} {q : Nat} {e : Nat × List Value} {x : va_E} (hlen : al.length = S.length) (h9 : S.length ≤ 900) (hok : am_okH S.length S = true) (hx : am_cell G dA dB (al ++ [q]) μ S.length e = x) :
    am_conc G dA dB al S μ ++ [(q, x)] = am_conc G dA dB (al ++ [q]) (S ++ [e]) μ := by
  have h : am_row μ S.length (μ S.length) = μ := by
    funext c
    unfold am_row
    split
    · rename_i h; rw [h]
    · rfl
  have := am_conc_push (G := G) (dA := dA) (dB := dB) (μ := μ) (f := μ S.length) (q := q) (e := e) (x := x) hlen h9 hok (by rw [h]; exact hx)
  rw [h] at this
  exact this
/-- what is the same for each class -/
theorem am_cls : ∀ (ci : Nat) (q : vw_C), vwCl[ci]? = some q → ∃ ty0 : Nat → FieldType, (∀ k, k < q.2.2 → parseFieldDescriptor (q.2.1 k).2.2.1 = some (ty0 k)) ∧ (∀ a, a < q.2.2 → ∀ b, b < q.2.2 → a ≠ b → (q.2.1 a).2.1 ≠ (q.2.1 b).2.1) ∧ (∀ j, j < q.2.2 → defaultValue (ty0 j) = vp_V (am_def ci) j) ∧ (am_def ci).length = q.2.2 ∧ ci < 12 := by
  intro ci q h
  match ci, h with
  | 0, h => cases h; exact ⟨tyX0, tyX0_ok, nmX0, by decide +kernel, rfl, by decide⟩
  | 1, h => cases h; exact ⟨tyX1, tyX1_ok, nmX1, by decide +kernel, rfl, by decide⟩
  | 2, h => cases h; exact ⟨tyX2, tyX2_ok, nmX2, by decide +kernel, rfl, by decide⟩
  | 3, h => cases h; exact ⟨tyX3, tyX3_ok, nmX3, by decide +kernel, rfl, by decide⟩
  | 4, h => cases h; exact ⟨tyX4, tyX4_ok, nmX4, by decide +kernel, rfl, by decide⟩
  | 5, h => cases h; exact ⟨tyX5, tyX5_ok, nmX5, by decide +kernel, rfl, by decide⟩
  | 6, h => cases h; exact ⟨tyX6, tyX6_ok, nmX6, by decide +kernel, rfl, by decide⟩
  | 7, h => cases h; exact ⟨tyX7, tyX7_ok, nmX7, by decide +kernel, rfl, by decide⟩
  | 8, h => cases h; exact ⟨tyX8, tyX8_ok, nmX8, by decide +kernel, rfl, by decide⟩
  | 9, h => cases h; exact ⟨tyX9, tyX9_ok, nmX9, by decide +kernel, rfl, by decide⟩
  | 10, h => cases h; exact ⟨tyX10, tyX10_ok, nmX10, by decide +kernel, rfl, by decide⟩
  | 11, h => cases h; exact ⟨tyX11, tyX11_ok, nmX11, by decide +kernel, rfl, by decide⟩
  | k + 12, h => exact absurd (am_lt_len h) (by simp)
theorem am_def_new {G : am_G} {al : List Nat} {μ : am_M} {c : Nat} (h : μ c = fun _ => 0) : ∀ ci, ci < 12 → (am_def ci).mapIdx (am_fld G al μ c) = am_def ci := by
  intro ci hci
  match ci, hci with
  | 0, _ | 1, _ | 2, _ | 3, _ | 4, _ | 5, _ | 6, _ | 7, _ | 8, _ | 9, _ | 10, _ | 11, _ => simp [am_def, am_fld, h, am_tr]
  | k + 12, h => omega
theorem am_inb_in {i : Int32} {n : Nat} (h : am_inb i n = true) : vp_in i n := by
  unfold am_inb at h
  obtain ⟨h1, h2⟩ := (Bool.and_eq_true _ _).mp h
  have h1 : ¬ i < 0 := by simpa using h1
  have h2 := am_blt.mp h2
  exact fun q => q.elim h1 (fun q => absurd h2 (Nat.not_lt.mpr q))
theorem am_gr_new {S S' : am_Sh} {ls : am_L} {st : List Value} (h : am_gr S S' ls st = true) (hl : S'.length = S.length + 1) : am_okL S.length ls = true ∧ am_okS S.length st = true ∧ am_okH S.length S = true := by
  unfold am_gr at h
  have : Nat.beq S'.length S.length = false := by
    cases hq : Nat.beq S'.length S.length with
    | false => rfl
    | true => have := Nat.eq_of_beq_eq_true hq; omega
  rw [this] at h
  simpa using h
theorem am_hasL.push {G : am_G} {al : List Nat} {q n : Nat} {ar : Array Slot} {ls : am_L} (h9 : al.length ≤ 900) (h : am_hasL (am_tr G al) ar n ls) (hok : am_okL al.length ls = true) : am_hasL (am_tr G (al ++ [q])) ar n ls := by
  refine ⟨h.1, ?_⟩
  rw [am_prs_congr (g := am_tr G al) ls 0 (fun u hu => am_tr_push h9 (List.all_eq_true.mp hok _ hu))]
  exact h.2
theorem am_map_push {G : am_G} {al : List Nat} {q : Nat} {st : List Value} (h9 : al.length ≤ 900) (hok : am_okS al.length st = true) : st.map (am_tr G (al ++ [q])) = st.map (am_tr G al) :=
  List.map_congr_left (fun u hu => am_tr_push h9 (List.all_eq_true.mp hok _ hu))
section VAR
variable {p : Program} {l : Launch} {e : Env} {R : Room} {s : State} {mi : MethodId} {args : Array Value} {below : List Frame} {meth : Method} {c : Code} {H : Heap} {locs : List Loc} {cells slots : Nat} {Q : State → Prop}
variable {t : am_T} {D : va_G} {G : am_G} {dA dB : ClassId} {N0 L : Nat} {xs : Nat → Int32} {al : List Nat} {S : am_Sh} {μ : am_M} {m : Nat}
set_option maxHeartbeats 4000000 in
theorem am_sim_eff (hG : am_Good t) (hE : am_Env t D G dA dB N0 L xs p s mi args meth c m) {d pc : Nat} {i : Instr} {r : am_R} {ls : am_L} {st st' : List Value} {ar : Array Slot} {S' : am_Sh} {μ' : am_M}
    (hrun : am_eff L d S i r st μ = some (true, st', S', μ')) (hgrow : am_gr S S' ls st = true) (hdec : am_dec (am_B t m) pc i) (hgr : am_GR t m pc i r) (hW : am_Wd D G dA dB N0 L xs al S μ H) (hS : va_S (fun q => N0 ≤ q) s.heap H locs)
    (hl : am_hasL (am_tr G al) ar (am_ML t m) ls) (hd1 : d ≤ R.frames) (hd2 : 200 * d ≤ R.locals) (hrc : cells + S'.length ≤ R.cells + S.length) (hrs : slots + am_sl S' ≤ R.slots + am_sl S)
    (kk : ∀ (H1 : Heap) (locs1 : List Loc) (cells1 slots1 : Nat) (al' : List Nat), cells1 + S.length = cells + S'.length → slots1 + am_sl S = slots + am_sl S' → al <+: al' → am_Wd D G dA dB N0 L xs al' S' μ' H1 → va_S (fun q => N0 ≤ q) s.heap H1 locs1 → am_hasL (am_tr G al') ar (am_ML t m) ls → W p l e R s mi args below meth c H1 locs1 cells1 slots1 Q (F0 mi (pc + am_len i) ar (st'.map (am_tr G al')))) :
    W p l e R s mi args below meth c H locs cells slots Q (F0 mi pc ar (st.map (am_tr G al))) := by
  obtain ⟨hx, hb, hml, hown, hts, hin, hSt⟩ := hE
  have hd := hdec.1
  have k0 : S' = S → μ' = μ → W p l e R s mi args below meth c H locs cells slots Q (F0 mi (pc + am_len i) ar (st'.map (am_tr G al))) := fun e1 e2 => by
    subst e1; subst e2
    exact kk H locs cells slots al rfl rfl List.prefix_rfl hW hS hl
  cases i
  case iaload =>
    dsimp only [am_eff] at hrun
    split at hrun
    · rename_i i cc u
      split at hrun
      · rename_i n hn
        injection hrun with hrun
        injection hrun with hg hrun
        injection hrun with h1 hrun
        injection hrun with h2 h3
        have k1 := k0 h2.symm h3.symm
        rw [← h1] at k1
        have hin := am_inb_in hg
        show W p l e R s mi args below meth c H locs cells slots Q (F0 mi pc ar (.int i :: .ref (am_ad G al cc) :: u.map (am_tr G al)))
        unfold am_ilen at hn
        split at hn
        · rename_i kd vs hc
          have hlt := am_lt_len hc
          rw [am_ad_lt (Nat.lt_of_lt_of_le hlt (Nat.le_trans hW.2.1 (by decide)))]
          have hat := am_conc_at G dA dB al S μ cc
          rw [hc] at hat
          cases hk : Nat.ble 100 kd with
          | false => rw [hk] at hn; cases hn
          | true =>
            rw [hk] at hn
            have hn : kd - 100 = n := Option.some.inj hn
            subst hn
            have e5 : Nat.blt kd 50 = false := by
              have := Nat.le_of_ble_eq_true hk
              rw [← Bool.not_eq_true, am_blt]; omega
            simp only [Option.map_some, am_cell, e5, hk, cond_true, cond_false] at hat
            exact va_iald hx hb hSt.1 hW.2.2.2.1 cc 0 hat rfl hin (hd (Nat.succ_ne_zero _)) k1
        · cases hk : (Nat.beq cc 3000 && Nat.blt 0 L) with
          | false => rw [hk] at hn; cases hn
          | true =>
            rw [hk] at hn
            have hn : L - 1 = n := Option.some.inj hn
            subst hn
            obtain ⟨hk, hL⟩ := (Bool.and_eq_true _ _).mp hk
            have hL := am_blt.mp hL
            have := Nat.eq_of_beq_eq_true hk
            subst this
            refine va_sld hx hb (hSt.2.2.2.2.2.2.1 hL) (Nat.lt_of_lt_of_le hSt.2.2.2.2.2.2.2.1 hSt.2.2.2.2.2.2.2.2.1) (Nat.not_le.mpr hSt.2.2.2.2.2.2.2.1) hS hin (hd (Nat.succ_ne_zero _)) ?_
            rw [← hW.2.2.1 hL]
            exact k1
      · cases hrun
    · cases hrun
  case baload =>
    dsimp only [am_eff] at hrun
    split at hrun
    · rename_i i cc u
      cases hk2 : (Nat.ble 2000 cc && Nat.blt cc (2000 + am_sN)) with
      | false => rw [hk2] at hrun; cases hrun
      | true =>
        rw [hk2] at hrun
        have hrun : some (am_inb i (am_sL.getD (cc - 2000) 0), Value.int ((am_sB.getD (cc - 2000) []).getD i.toNatClampNeg 0) :: u, S, μ) = some (true, st', S', μ') := hrun
        injection hrun with hrun
        injection hrun with hg hrun
        injection hrun with h1 hrun
        injection hrun with h2 h3
        have k1 := k0 h2.symm h3.symm
        rw [← h1] at k1
        have hin := am_inb_in hg
        obtain ⟨k2, k3⟩ := (Bool.and_eq_true _ _).mp hk2
        have k2 := Nat.le_of_ble_eq_true k2
        have k3 : cc < 2021 := am_blt.mp k3
        show W p l e R s mi args below meth c H locs cells slots Q (F0 mi pc ar (.int i :: .ref (am_ad G al cc) :: u.map (am_tr G al)))
        rw [am_ad_byt k2 (Nat.lt_trans k3 (by decide))]
        obtain ⟨-, -, -, hT⟩ := hSt.2.2.2.1 (cc - 2000) ((Nat.sub_lt_iff_lt_add k2).mpr k3)
        obtain ⟨cell, g1, g2, g3, g4, g5, g6, g7⟩ := hT
        have hlt : i.toNatClampNeg < am_sL.getD (cc - 2000) 0 := Nat.not_le.mp fun q => hin (Or.inr q)
        refine W.bald (cell := cell) hx hb ?_ g2 g3 ?_ (g6 _ hlt) rfl rfl (hd (Nat.succ_ne_zero _)) k1
        · rw [hS.2.1 _ (Array.getElem?_eq_some_iff.mp g1).1 g7]
          exact g1
        · exact fun q => q.elim (fun q => hin (Or.inl q)) (fun q => absurd (Nat.lt_of_lt_of_le hlt g4) (Nat.not_lt.mpr q))
    · cases hrun
  case aaload =>
    dsimp only [am_eff] at hrun
    split at hrun
    · rename_i i cc u
      split at hrun
      · rename_i kd vs hc
        cases hk : Nat.beq kd 98 with
        | false => rw [hk] at hrun; cases hrun
        | true =>
          rw [hk] at hrun
          have hk := Nat.eq_of_beq_eq_true hk
          subst hk
          simp only [cond_true] at hrun
          split at hrun
          · rename_i a hv
            injection hrun with hrun
            injection hrun with hg hrun
            injection hrun with h1 hrun
            injection hrun with h2 h3
            have k1 := k0 h2.symm h3.symm
            rw [← h1] at k1
            have hin := am_inb_in hg
            show W p l e R s mi args below meth c H locs cells slots Q (F0 mi pc ar (.int i :: .ref (am_ad G al cc) :: u.map (am_tr G al)))
            have hlt := am_lt_len hc
            rw [am_ad_lt (Nat.lt_of_lt_of_le hlt (Nat.le_trans hW.2.1 (by decide)))]
            have hat := am_conc_at G dA dB al S μ cc
            rw [hc] at hat
            have hat : (am_conc G dA dB al S μ)[cc]? = some (al.getD cc 0, .inl (dB, vs.length, .inr (.inr (.inr (.inr (am_qf G al vs)))))) := hat
            refine va_aldq hx hb hSt.1 hW.2.2.2.1 cc 1 hat rfl hin (hd (Nat.succ_ne_zero _)) ?_
            have e1 : va_rf (am_qf G al vs i.toNatClampNeg) = .ref (am_ad G al a) := by
              unfold am_qf
              rw [hv]
              rfl
            rw [e1]
            exact k1
          · cases hrun
      · cases hrun
    · cases hrun
  case iastore =>
    dsimp only [am_eff] at hrun
    split at hrun
    · rename_i x i cc u
      split at hrun
      · rename_i kd vs hc
        cases hk : Nat.ble 100 kd with
        | false => rw [hk] at hrun; cases hrun
        | true =>
          rw [hk] at hrun
          have hrun : some (am_inb i (kd - 100), u, S, am_row μ cc (upd (μ cc) i.toNatClampNeg x)) = some (true, st', S', μ') := hrun
          injection hrun with hrun
          injection hrun with hg hrun
          injection hrun with h1 hrun
          injection hrun with h2 h3
          subst h1 h2 h3
          have hin := am_inb_in hg
          have hlt := am_lt_len hc
          have hlt9 : cc < 1000 := Nat.lt_of_lt_of_le hlt (Nat.le_trans hW.2.1 (by decide))
          show W p l e R s mi args below meth c H locs cells slots Q (F0 mi pc ar (.int x :: .int i :: .ref (am_ad G al cc) :: u.map (am_tr G al)))
          rw [am_ad_lt hlt9]
          have hat := am_conc_at G dA dB al S μ cc
          rw [hc] at hat
          have e5 : Nat.blt kd 50 = false := by
            have := Nat.le_of_ble_eq_true hk
            rw [← Bool.not_eq_true, am_blt]; omega
          simp only [Option.map_some, am_cell, e5, hk, cond_true, cond_false] at hat
          refine va_iast hx hb hSt.1 hW.2.2.2.1 hW.2.2.2.2 hS cc 0 hat rfl hin (hd (Nat.succ_ne_zero _)) (fun H1 locs1 hP hD hS1 => ?_)
          have hx1 : am_cell G dA dB al (am_row μ cc (upd (μ cc) i.toNatClampNeg x)) cc (kd, vs) = .inl (dA, kd - 100, .inl (upd (μ cc) i.toNatClampNeg x)) := by
            simp only [am_cell, e5, hk, cond_true, cond_false, am_row_at]
          rw [am_conc_set hlt hx1, am_set_same hc] at hP hD
          exact kk H1 locs1 cells slots al rfl rfl List.prefix_rfl ⟨hW.1, hW.2.1, fun hL => by rw [am_row_ne (Nat.ne_of_gt (Nat.lt_trans hlt9 (by decide)))]; exact hW.2.2.1 hL, hP, hD⟩ hS1 hl
      · cases hrun
    · cases hrun
  case aastore =>
    dsimp only [am_eff] at hrun
    split at hrun
    · rename_i v i cc u
      split at hrun
      · rename_i kd vs vs2 hc hv2
        cases hk : Nat.beq kd 98 with
        | false => rw [hk] at hrun; cases hrun
        | true =>
          rw [hk] at hrun
          have hk := Nat.eq_of_beq_eq_true hk
          subst hk
          have hrun : some (am_inb i vs.length, u, S.set cc (98, vs.set i.toNatClampNeg (.ref v)), μ) = some (true, st', S', μ') := hrun
          injection hrun with hrun
          injection hrun with hg hrun
          injection hrun with h1 hrun
          injection hrun with h2 h3
          subst h1 h2 h3
          have hin := am_inb_in hg
          have hlt := am_lt_len hc
          have hlt2 := am_lt_len hv2
          have hlt9 : cc < 1000 := Nat.lt_of_lt_of_le hlt (Nat.le_trans hW.2.1 (by decide))
          have hlt8 : v < 1000 := Nat.lt_of_lt_of_le hlt2 (Nat.le_trans hW.2.1 (by decide))
          show W p l e R s mi args below meth c H locs cells slots Q (F0 mi pc ar (.ref (am_ad G al v) :: .int i :: .ref (am_ad G al cc) :: u.map (am_tr G al)))
          rw [am_ad_lt hlt9, am_ad_lt hlt8]
          have hat := am_conc_at G dA dB al S μ cc
          rw [hc] at hat
          have hat : (am_conc G dA dB al S μ)[cc]? = some (al.getD cc 0, .inl (dB, vs.length, .inr (.inr (.inr (.inr (am_qf G al vs)))))) := hat
          have hav := am_conc_at G dA dB al S μ v
          rw [hv2] at hav
          have hav : (am_conc G dA dB al S μ)[v]? = some (al.getD v 0, .inr (5, vs2.mapIdx (am_fld G al μ v))) := hav
          refine va_astq hx hb hSt.1 hW.2.2.2.1 hW.2.2.2.2 hS cc 1 v 5 hat (r := (RX5, TX5, 8)) rfl hav rfl hin (hd (Nat.succ_ne_zero _)) (fun H1 locs1 hP hD hS1 => ?_)
          have hil : i.toNatClampNeg < vs.length := Nat.not_le.mp fun q => hin (Or.inr q)
          have hq : am_qf G al (vs.set i.toNatClampNeg (.ref v)) = va_up (am_qf G al vs) i.toNatClampNeg (some (al.getD v 0)) := by
            funext j
            unfold am_qf va_up
            rw [List.getElem?_set]
            by_cases hj : i.toNatClampNeg = j
            · rw [if_pos hj, if_pos (by omega), if_pos hj.symm]
              show some (am_ad G al v) = _
              rw [am_ad_lt hlt8]
            · rw [if_neg hj, if_neg (fun q => hj q.symm)]
          have hrow : am_row μ cc (μ cc) = μ := by
            funext z
            unfold am_row
            split
            · rename_i h; rw [h]
            · rfl
          have hx1 : am_cell G dA dB al (am_row μ cc (μ cc)) cc (98, vs.set i.toNatClampNeg (.ref v)) = .inl (dB, vs.length, .inr (.inr (.inr (.inr (va_up (am_qf G al vs) i.toNatClampNeg (some (al.getD v 0))))))) := by
            rw [← hq]
            show Sum.inl (dB, (vs.set i.toNatClampNeg (.ref v)).length, _) = _
            rw [List.length_set]
          rw [am_conc_set hlt hx1, hrow] at hP hD
          have e1 : am_sl (S.set cc (98, vs.set i.toNatClampNeg (.ref v))) = am_sl S := am_sl_set _ _ _ _ hc (by show (vs.set _ _).length = vs.length; simp)
          exact kk H1 locs1 cells slots al (by simp) (by rw [e1]) List.prefix_rfl ⟨by simpa using hW.1, by simpa using hW.2.1, hW.2.2.1, hP, hD⟩ hS1 hl
      · cases hrun
    · cases hrun
  case idiv =>
    dsimp only [am_eff] at hrun
    split at hrun
    · rename_i y x u
      injection hrun with hrun
      injection hrun with hg hrun
      injection hrun with h1 hrun
      injection hrun with h2 h3
      have k1 := k0 h2.symm h3.symm
      rw [← h1] at k1
      exact lv_idiv hx hb (hd (Nat.succ_ne_zero _)) (by simpa using hg) k1
    · cases hrun
  case irem =>
    dsimp only [am_eff] at hrun
    split at hrun
    · rename_i y x u
      injection hrun with hrun
      injection hrun with hg hrun
      injection hrun with h1 hrun
      injection hrun with h2 h3
      have k1 := k0 h2.symm h3.symm
      rw [← h1] at k1
      exact lv_irem hx hb (hd (Nat.succ_ne_zero _)) (by simpa using hg) k1
    · cases hrun
  case ldiv =>
    dsimp only [am_eff] at hrun
    split at hrun
    · rename_i y x u
      injection hrun with hrun
      injection hrun with hg hrun
      injection hrun with h1 hrun
      injection hrun with h2 h3
      have k1 := k0 h2.symm h3.symm
      rw [← h1] at k1
      exact lv_ldiv hx hb (hd (Nat.succ_ne_zero _)) (by simpa using hg) k1
    · cases hrun
  case putfield x =>
    dsimp only [am_eff] at hrun
    split at hrun
    · rename_i v cc u
      split at hrun
      · rename_i kd vs h0 hc
        have hw := hG.2.1 _ hgr.1
        unfold am_PW at hw
        simp only [h0] at hw
        obtain ⟨C, T, N, ty, hvc, hk, hci, hCd, hlk, hty, hy0, hy1, hy2⟩ := hw
        have hfinal := hgr.2 _ hvc
        obtain ⟨ty0, q1, q2, q3, q4, q5⟩ := am_cls _ _ hvc
        have hu : ∀ w ∈ u_ws C T N, w ∈ am_ws := fun w hw => (hG.2.2.1 _ _ hvc w hw).mem
        have hlt := am_lt_len hc
        have hlt9 : cc < 1000 := Nat.lt_of_lt_of_le hlt (Nat.le_trans hW.2.1 (by decide))
        cases hkd : Nat.beq kd r.2.1 with
        | false => rw [hkd] at hrun; cases hrun
        | true =>
          rw [hkd] at hrun
          have e0 := Nat.eq_of_beq_eq_true hkd
          subst e0
          simp only [cond_true] at hrun
          have e5 : Nat.blt r.2.1 50 = true := am_blt.mpr (by omega)
          have hat := am_conc_at G dA dB al S μ cc
          rw [hc] at hat
          simp only [Option.map_some, am_cell, e5, cond_true] at hat
          have hput : ∀ v2 : Value, r.2.2.1 < vs.length → narrow ty v2 = v2 → fits ty v2 = true →
              (∀ (H1 : Heap) (locs1 : List Loc), va_P D vwCl ((am_conc G dA dB al S μ).set cc (al.getD cc 0, .inr (r.2.1, (vs.mapIdx (am_fld G al μ cc)).set r.2.2.1 v2))) H1 → va_D (fun q => N0 ≤ q) ((am_conc G dA dB al S μ).set cc (al.getD cc 0, .inr (r.2.1, (vs.mapIdx (am_fld G al μ cc)).set r.2.2.1 v2))) → va_S (fun q => N0 ≤ q) s.heap H1 locs1 → W p l e R s mi args below meth c H1 locs1 cells slots Q (F0 mi (pc + 3) ar (u.map (am_tr G al)))) →
              W p l e R s mi args below meth c H locs cells slots Q (F0 mi pc ar (v2 :: .ref (al.getD cc 0) :: u.map (am_tr G al))) := by
            intro v2 hlen hn hfit kv
            cases hf : (T r.2.2.1).2.2.2 with
            | false => exact va_put hx hb hts hu ty0 q1 q2 hown hSt.1 hW.2.2.2.1 hW.2.2.2.2 hS cc hat hvc r.2.2.1 hk (ref := C) (hts _ hlk.mem) (fun x hx => by rw [← hCd]; exact hx) hf hty hn hfit (by simpa using hlen) (hd (Nat.succ_ne_zero _)) kv
            | true =>
              obtain ⟨z1, z2⟩ := hfinal hf
              exact va_putF hx hb hts hu ty0 q1 q2 hown hSt.1 hW.2.2.2.1 hW.2.2.2.2 hS cc hat hvc r.2.2.1 hk (ref := C) (hts _ hlk.mem) (fun x hx => by rw [← hCd]; exact hx) hf (hin z1) (by rw [hCd, z2]) hty hn hfit (by simpa using hlen) (hd (Nat.succ_ne_zero _)) kv
          show W p l e R s mi args below meth c H locs cells slots Q (F0 mi pc ar (am_tr G al v :: .ref (am_ad G al cc) :: u.map (am_tr G al)))
          rw [am_ad_lt hlt9]
          have hrow : am_row μ cc (μ cc) = μ := by
            funext z
            unfold am_row
            split
            · rename_i h; rw [h]
            · rfl
          split at hrun
          · rename_i z x hv
            injection hrun with hrun
            injection hrun with hg hrun
            injection hrun with h1 hrun
            injection hrun with h2 h3
            subst h1 h2 h3
            have hty2 : narrow ty (.int x) = .int x ∧ fits ty (.int x) = true := by
              rcases (Bool.or_eq_true _ _).mp hg with g | g
              · rw [hy0 (Nat.eq_of_beq_eq_true g)]; exact ⟨rfl, rfl⟩
              · obtain ⟨g1, g2⟩ := (Bool.and_eq_true _ _).mp g
                rw [hy1 (Nat.eq_of_beq_eq_true g1)]
                rcases (Bool.or_eq_true _ _).mp g2 with g2 | g2
                · rw [of_decide_eq_true g2]; exact ⟨by decide, by decide⟩
                · rw [of_decide_eq_true g2]; exact ⟨by decide, by decide⟩
            refine hput (.int x) (am_lt_len hv) hty2.1 hty2.2 (fun H1 locs1 hP hD hS1 => ?_)
            have hx1 : am_cell G dA dB al (am_row μ cc (upd (μ cc) r.2.2.1 x)) cc (r.2.1, vs) = .inr (r.2.1, (vs.mapIdx (am_fld G al μ cc)).set r.2.2.1 (.int x)) := by
              simp only [am_cell, e5, cond_true]
              congr 2
              apply List.ext_getElem?
              intro j
              rw [List.getElem?_mapIdx, List.getElem?_set, List.getElem?_mapIdx]
              by_cases hj : r.2.2.1 = j
              · subst hj
                rw [if_pos rfl, hv, if_pos (by simpa using am_lt_len hv)]
                simp [am_fld, am_row_at, upd]
              · rw [if_neg hj]
                cases hvj : vs[j]? with
                | none => rfl
                | some y =>
                  have : ¬ j = r.2.2.1 := fun q => hj q.symm
                  cases y <;> simp [am_fld, am_row_at, upd, this]
            rw [am_conc_set hlt hx1, am_set_same hc] at hP hD
            exact kk H1 locs1 cells slots al rfl rfl List.prefix_rfl ⟨hW.1, hW.2.1, fun hL => by rw [am_row_ne (Nat.ne_of_gt (Nat.lt_trans hlt9 (by decide)))]; exact hW.2.2.1 hL, hP, hD⟩ hS1 hl
          · rename_i a hv
            injection hrun with hrun
            injection hrun with hg hrun
            injection hrun with h1 hrun
            injection hrun with h2 h3
            subst h1 h2 h3
            have hty2 : narrow ty (.ref (am_ad G al a)) = .ref (am_ad G al a) ∧ fits ty (.ref (am_ad G al a)) = true := by
              rcases hy2 (Nat.eq_of_beq_eq_true hg) with ⟨n, rfl⟩ | ⟨n, rfl⟩ <;> exact ⟨rfl, rfl⟩
            refine hput (.ref (am_ad G al a)) (am_lt_len hv) hty2.1 hty2.2 (fun H1 locs1 hP hD hS1 => ?_)
            have hx1 : am_cell G dA dB al (am_row μ cc (μ cc)) cc (r.2.1, vs.set r.2.2.1 (.ref a)) = .inr (r.2.1, (vs.mapIdx (am_fld G al μ cc)).set r.2.2.1 (.ref (am_ad G al a))) := by
              simp only [am_cell, e5, cond_true, hrow]
              congr 2
              apply List.ext_getElem?
              intro j
              rw [List.getElem?_mapIdx, List.getElem?_set, List.getElem?_set, List.getElem?_mapIdx]
              by_cases hj : r.2.2.1 = j
              · subst hj
                rw [if_pos rfl, if_pos rfl, if_pos (am_lt_len hv), if_pos (by simpa using am_lt_len hv)]
                rfl
              · rw [if_neg hj, if_neg hj]
            rw [am_conc_set hlt hx1, hrow] at hP hD
            have e1 : am_sl (S.set cc (r.2.1, vs.set r.2.2.1 (.ref a))) = am_sl S := am_sl_set _ _ _ _ hc (by unfold am_slc; simp)
            exact kk H1 locs1 cells slots al (by simp) (by rw [e1]) List.prefix_rfl ⟨by simpa using hW.1, by simpa using hW.2.1, hW.2.2.1, hP, hD⟩ hS1 hl
          · rename_i hv
            injection hrun with hrun
            injection hrun with hg hrun
            injection hrun with h1 hrun
            injection hrun with h2 h3
            subst h1 h2 h3
            have hty2 : narrow ty .null = .null ∧ fits ty .null = true := by
              rcases hy2 (Nat.eq_of_beq_eq_true hg) with ⟨n, rfl⟩ | ⟨n, rfl⟩ <;> exact ⟨rfl, rfl⟩
            refine hput .null (am_lt_len hv) hty2.1 hty2.2 (fun H1 locs1 hP hD hS1 => ?_)
            have hx1 : am_cell G dA dB al (am_row μ cc (μ cc)) cc (r.2.1, vs.set r.2.2.1 .null) = .inr (r.2.1, (vs.mapIdx (am_fld G al μ cc)).set r.2.2.1 .null) := by
              simp only [am_cell, e5, cond_true, hrow]
              congr 2
              apply List.ext_getElem?
              intro j
              rw [List.getElem?_mapIdx, List.getElem?_set, List.getElem?_set, List.getElem?_mapIdx]
              by_cases hj : r.2.2.1 = j
              · subst hj
                rw [if_pos rfl, if_pos rfl, if_pos (am_lt_len hv), if_pos (by simpa using am_lt_len hv)]
                rfl
              · rw [if_neg hj, if_neg hj]
            rw [am_conc_set hlt hx1, hrow] at hP hD
            have e1 : am_sl (S.set cc (r.2.1, vs.set r.2.2.1 .null)) = am_sl S := am_sl_set _ _ _ _ hc (by unfold am_slc; simp)
            exact kk H1 locs1 cells slots al (by simp) (by rw [e1]) List.prefix_rfl ⟨by simpa using hW.1, by simpa using hW.2.1, hW.2.2.1, hP, hD⟩ hS1 hl
          · cases hrun
      · cases hrun
    · cases hrun
  case invokestatic x =>
    dsimp only [am_eff] at hrun
    split at hrun
    · rename_i n dp c1 sp c0 u h7
      have hw := hG.2.1 _ (hgr (by rw [h7]; decide)).1
      unfold am_PW at hw
      simp only [h7] at hw
      obtain ⟨w1, w2, w3, w4⟩ := hw
      split at hrun
      · rename_i k0' v0 k1' v1 hc0 hc1
        cases hk : (Nat.ble 100 k0' && Nat.ble 100 k1') with
        | false => rw [hk] at hrun; cases hrun
        | true =>
          rw [hk] at hrun
          simp only [cond_true] at hrun
          injection hrun with hrun
          injection hrun with hg hrun
          injection hrun with h1 hrun
          injection hrun with h2 h3
          subst h1 h2 h3
          simp only [Bool.and_eq_true, Bool.not_eq_true', decide_eq_false_iff_not] at hg hk
          obtain ⟨⟨g0, gs⟩, g1, g2, g3, g4, g5⟩ := hg
          have g0 := am_blt.mp g0
          have gs := Nat.le_of_ble_eq_true gs
          have g4 := Nat.le_of_ble_eq_true g4
          have g5 := Nat.le_of_ble_eq_true g5
          have hlt0 := am_lt_len hc0
          have hlt1 := am_lt_len hc1
          have hl0 : c0 < 1000 := Nat.lt_of_lt_of_le hlt0 (Nat.le_trans hW.2.1 (by decide))
          have hl1 : c1 < 1000 := Nat.lt_of_lt_of_le hlt1 (Nat.le_trans hW.2.1 (by decide))
          show W p l e R s mi args below meth c H locs cells slots Q (F0 mi pc ar (.int n :: .int dp :: .ref (am_ad G al c1) :: .int sp :: .ref (am_ad G al c0) :: u.map (am_tr G al)))
          rw [am_ad_lt hl0, am_ad_lt hl1]
          have e50 : Nat.blt k0' 50 = false := by
            have := Nat.le_of_ble_eq_true hk.1
            rw [← Bool.not_eq_true, am_blt]; omega
          have e51 : Nat.blt k1' 50 = false := by
            have := Nat.le_of_ble_eq_true hk.2
            rw [← Bool.not_eq_true, am_blt]; omega
          have hat0 := am_conc_at G dA dB al S μ c0
          rw [hc0] at hat0
          simp only [Option.map_some, am_cell, e50, hk.1, cond_true, cond_false] at hat0
          have hat1 := am_conc_at G dA dB al S μ c1
          rw [hc1] at hat1
          simp only [Option.map_some, am_cell, e51, hk.2, cond_true, cond_false] at hat1
          have hcat : ((u.map (am_tr G al)).map fun v => v.category) = u.map Value.category := by
            rw [List.map_map]
            exact List.map_congr_left (fun v _ => am_tr_cat)
          refine va_copyi (ty := .int) hx hb (by rw [hml]; exact hl.2.1.symm) hown (hts _ w1.mem) (hts _ w2.mem) (hts _ w3.mem) (hts _ w4.mem) hSt.1 hW.2.2.2.1 hW.2.2.2.2 hS c0 c1 0 0 hat0 hat1 rfl rfl rfl g1 g2 g3 g4 g5 (fun _ _ => rfl) (Nat.le_trans g0 hd1) ?_ (hd (Nat.succ_ne_zero _)) (fun H1 locs1 hP hD hS1 => ?_)
          · rw [hcat]
            have : nativeFrameWords "java/lang/System" "arraycopy" 5 ≤ 150 := by decide +kernel
            have g0 : 1 ≤ d := g0
            omega
          · have hx1 : am_cell G dA dB al (am_row μ c1 (va_cpy (μ c0) (μ c1) sp.toNatClampNeg dp.toNatClampNeg n.toNatClampNeg)) c1 (k1', v1) = .inl (dA, k1' - 100, .inl (va_cpy (μ c0) (μ c1) sp.toNatClampNeg dp.toNatClampNeg n.toNatClampNeg)) := by
              simp only [am_cell, e51, hk.2, cond_true, cond_false, am_row_at]
            rw [am_conc_set hlt1 hx1, am_set_same hc1] at hP hD
            exact kk H1 locs1 cells slots al rfl rfl List.prefix_rfl ⟨hW.1, hW.2.1, fun hL => by rw [am_row_ne (Nat.ne_of_gt (Nat.lt_trans hl1 (by decide)))]; exact hW.2.2.1 hL, hP, hD⟩ hS1 hl
      · cases hrun
    · rename_i y x u h7
      have hw := hG.2.1 _ (hgr (by rw [h7]; decide)).1
      unfold am_PW at hw
      simp only [h7] at hw
      obtain ⟨w1, w2, w3, w4⟩ := hw
      injection hrun with hrun
      injection hrun with hg hrun
      injection hrun with h1 hrun
      injection hrun with h2 h3
      have k1 := k0 h2.symm h3.symm
      rw [← h1] at k1
      subst h2
      obtain ⟨g0, gs⟩ := (Bool.and_eq_true _ _).mp hg
      have g0 : 1 ≤ d := am_blt.mp g0
      have gs := Nat.le_of_ble_eq_true gs
      have hcat : ((u.map (am_tr G al)).map fun v => v.category) = u.map Value.category := by
        rw [List.map_map]
        exact List.map_congr_left (fun v _ => am_tr_cat)
      exact va_mmax hx hb (by rw [hml]; exact hl.2.1.symm) hown (hts _ w1.mem) (hts _ w2.mem) (hts _ w3.mem) (hts _ w4.mem) (Nat.le_trans g0 hd1) (by rw [hcat]; omega) (by omega) (by omega) (hd (Nat.succ_ne_zero _)) k1
    · rename_i y x u h7
      have hw := hG.2.1 _ (hgr (by rw [h7]; decide)).1
      unfold am_PW at hw
      simp only [h7] at hw
      obtain ⟨w1, w2, w3, w4⟩ := hw
      injection hrun with hrun
      injection hrun with hg hrun
      injection hrun with h1 hrun
      injection hrun with h2 h3
      have k1 := k0 h2.symm h3.symm
      rw [← h1] at k1
      subst h2
      obtain ⟨g0, gs⟩ := (Bool.and_eq_true _ _).mp hg
      have g0 : 1 ≤ d := am_blt.mp g0
      have gs := Nat.le_of_ble_eq_true gs
      have hcat : ((u.map (am_tr G al)).map fun v => v.category) = u.map Value.category := by
        rw [List.map_map]
        exact List.map_congr_left (fun v _ => am_tr_cat)
      exact va_mmin hx hb (by rw [hml]; exact hl.2.1.symm) hown (hts _ w1.mem) (hts _ w2.mem) (hts _ w3.mem) (hts _ w4.mem) (Nat.le_trans g0 hd1) (by rw [hcat]; omega) (by omega) (by omega) (hd (Nat.succ_ne_zero _)) k1
    · rename_i x u h7
      have hw := hG.2.1 _ (hgr (by rw [h7]; decide)).1
      unfold am_PW at hw
      simp only [h7] at hw
      obtain ⟨w1, w2, w3, w4⟩ := hw
      injection hrun with hrun
      injection hrun with hg hrun
      injection hrun with h1 hrun
      injection hrun with h2 h3
      have k1 := k0 h2.symm h3.symm
      rw [← h1] at k1
      subst h2
      obtain ⟨g0, gs⟩ := (Bool.and_eq_true _ _).mp hg
      have g0 : 1 ≤ d := am_blt.mp g0
      have gs := Nat.le_of_ble_eq_true gs
      have hcat : ((u.map (am_tr G al)).map fun v => v.category) = u.map Value.category := by
        rw [List.map_map]
        exact List.map_congr_left (fun v _ => am_tr_cat)
      exact va_mabs hx hb (by rw [hml]; exact hl.2.1.symm) hown (hts _ w1.mem) (hts _ w2.mem) (hts _ w3.mem) (hts _ w4.mem) (Nat.le_trans g0 hd1) (by rw [hcat]; omega) (by omega) (by omega) (hd (Nat.succ_ne_zero _)) k1
    · rename_i y x u h7
      have hw := hG.2.1 _ (hgr (by rw [h7]; decide)).1
      unfold am_PW at hw
      simp only [h7] at hw
      obtain ⟨w1, w2, w3, w4⟩ := hw
      injection hrun with hrun
      injection hrun with hg hrun
      injection hrun with h1 hrun
      injection hrun with h2 h3
      have k1 := k0 h2.symm h3.symm
      rw [← h1] at k1
      subst h2
      obtain ⟨g0, gs⟩ := (Bool.and_eq_true _ _).mp hg
      have g0 : 1 ≤ d := am_blt.mp g0
      have gs := Nat.le_of_ble_eq_true gs
      have hcat : ((u.map (am_tr G al)).map fun v => v.category) = u.map Value.category := by
        rw [List.map_map]
        exact List.map_congr_left (fun v _ => am_tr_cat)
      exact va_mmin_long hx hb (by rw [hml]; exact hl.2.1.symm) hown (hts _ w1.mem) (hts _ w2.mem) (hts _ w3.mem) (hts _ w4.mem) (Nat.le_trans g0 hd1) (by rw [hcat]; omega) (by omega) (by omega) (hd (Nat.succ_ne_zero _)) k1
    · cases hrun
  case invokespecial x =>
    dsimp only [am_eff] at hrun
    split at hrun
    · rename_i a u h8
      have hw := hG.2.1 _ hgr.1
      unfold am_PW at hw
      simp only [h8] at hw
      obtain ⟨w1, w2, w3⟩ := hw
      injection hrun with hrun
      injection hrun with hg hrun
      injection hrun with h1 hrun
      injection hrun with h2 h3
      have k1 := k0 h2.symm h3.symm
      rw [← h1] at k1
      obtain ⟨g0, gs⟩ := (Bool.and_eq_true _ _).mp hg
      have g0 : 1 ≤ d := am_blt.mp g0
      have gs := Nat.le_of_ble_eq_true gs
      have hcat : ((u.map (am_tr G al)).map fun v => v.category) = u.map Value.category := by
        rw [List.map_map]
        exact List.map_congr_left (fun v _ => am_tr_cat)
      refine W.objInit hx hb hown (hts _ w1.mem) (hts _ w2.mem) (hts _ w3.mem) rfl (by rw [hml]; exact hl.2.1) rfl (hd (Nat.succ_ne_zero _)) (Nat.le_trans g0 hd1) ?_ ?_
      · show 2 * 0 + _ + 12 ≤ _
        rw [hcat]
        omega
      · exact k1
    · cases hrun
  case new x =>
    dsimp only [am_eff] at hrun
    split at hrun
    · rename_i h2'
      have hw := hG.2.1 _ hgr
      unfold am_PW at hw
      simp only [h2'] at hw
      obtain ⟨C, T, N, hvc, w1, w2, w3⟩ := hw
      obtain ⟨ty0, q1, q2, q3, q4, q5⟩ := am_cls _ _ hvc
      have q4 : (am_def r.2.1).length = N := q4
      injection hrun with hrun
      injection hrun with hg hrun
      injection hrun with h1 hrun
      injection hrun with h2 h3
      subst h1 h2 h3
      have g9 := am_blt.mp hg
      obtain ⟨o1, o2, o3⟩ := am_gr_new hgrow (by simp)
      have e5 : Nat.blt r.2.1 50 = true := am_blt.mpr (by omega)
      have e6 : Nat.ble 100 r.2.1 = false := by
        cases hq : Nat.ble 100 r.2.1 with
        | false => rfl
        | true => have := Nat.le_of_ble_eq_true hq; omega
      have hsl : am_slc (r.2.1, am_def r.2.1) = N := by
        unfold am_slc
        rw [e6]
        exact q4
      rw [am_sl_app, hsl] at hrs
      simp only [List.length_append, List.length_cons, List.length_nil] at hrc
      refine va_new hx hb hts (fun w hw => (hG.2.2.1 _ _ hvc w hw).mem) ty0 q1 hown (hts _ w1.mem) (hts _ w2.mem) (hts _ w3.mem) hSt.1 hW.2.2.2.1 hW.2.2.2.2 hS (fun q h => Nat.le_trans hSt.2.2.2.2.2.2.2.2.1 h) hvc q3 (by omega) (by show slots + N ≤ R.slots; omega) (hd (Nat.succ_ne_zero _)) (fun q H1 hP hD hS1 => ?_)
      have hx1 : am_cell G dA dB (al ++ [q]) (am_row μ S.length (fun _ => 0)) S.length (r.2.1, am_def r.2.1) = .inr (r.2.1, am_def r.2.1) := by
        simp only [am_cell, e5, cond_true]
        rw [am_def_new (am_row_at _ _ _) _ q5]
      rw [am_conc_push hW.1 hW.2.1 o3 hx1] at hP hD
      have h9 : al.length ≤ 900 := by rw [hW.1]; exact hW.2.1
      have kk1 := kk H1 locs (cells + 1) (slots + N) (al ++ [q]) (by simp; omega) (by rw [am_sl_app, hsl]; omega) (List.prefix_append _ _) ⟨by simp [hW.1], by simp; omega, fun hL => by rw [am_row_ne (by omega)]; exact hW.2.2.1 hL, hP, hD⟩ hS1 (hl.push h9 (by rw [hW.1]; exact o1))
      rw [List.map_cons, am_map_push h9 (by rw [hW.1]; exact o2)] at kk1
      have e7 : am_tr G (al ++ [q]) (.ref S.length) = .ref q := by
        show Value.ref (am_ad G (al ++ [q]) S.length) = _
        rw [am_ad_lt (by omega), ← hW.1]
        simp
      rw [e7] at kk1
      exact kk1
    · cases hrun
  case newarray ty =>
    cases ty
    case int =>
      dsimp only [am_eff] at hrun
      split at hrun
      · rename_i n u
        injection hrun with hrun
        injection hrun with hg hrun
        injection hrun with h1 hrun
        injection hrun with h2 h3
        subst h1 h2 h3
        simp only [Bool.and_eq_true, Bool.not_eq_true', decide_eq_false_iff_not] at hg
        obtain ⟨⟨g9, g1⟩, g2⟩ := hg
        have g9 := am_blt.mp g9
        have g2 := Nat.le_of_ble_eq_true g2
        obtain ⟨o1, o2, o3⟩ := am_gr_new hgrow (by simp)
        have e6 : Nat.ble 100 (100 + n.toNatClampNeg) = true := Nat.ble_eq_true_of_le (Nat.le_add_right _ _)
        have e5 : Nat.blt (100 + n.toNatClampNeg) 50 = false := by
          rw [← Bool.not_eq_true, am_blt]; omega
        have hsl : am_slc (100 + n.toNatClampNeg, []) = n.toNatClampNeg := by
          unfold am_slc
          rw [e6]
          exact Nat.add_sub_cancel_left _ _
        rw [am_sl_app, hsl] at hrs
        simp only [List.length_append, List.length_cons, List.length_nil] at hrc
        refine va_newa (atype := .int) (ty := .int) (a0 := (n.toNatClampNeg, .inl (fun _ => 0))) hx hb (hts _ hG.2.2.2.mem) rfl hSt.1 hW.2.2.2.1 hW.2.2.2.2 hS (fun q h => Nat.le_trans hSt.2.2.2.2.2.2.2.2.1 h) (fun _ => rfl) g1 rfl (by show _ * 4 ≤ _; omega) (by omega) (by omega) (hd (Nat.succ_ne_zero _)) (fun q cA H1 hK hP hD hS1 => ?_)
        have hcA : cA = dA := by
          have f1 := (hK.2 2 (cA, .int) rfl).2
          have f2 := (hK.2 0 (dA, .int) rfl).2
          exact Option.some.inj (f1.symm.trans f2)
        subst hcA
        have hx1 : am_cell G cA dB (al ++ [q]) (am_row μ S.length (fun _ => 0)) S.length (100 + n.toNatClampNeg, []) = .inl (cA, n.toNatClampNeg, .inl (fun _ => 0)) := by
          simp only [am_cell, e5, e6, cond_true, cond_false, am_row_at, Nat.add_sub_cancel_left]
        rw [am_conc_push hW.1 hW.2.1 o3 hx1] at hP hD
        have h9 : al.length ≤ 900 := by rw [hW.1]; exact hW.2.1
        have o2 : am_okS S.length u = true := by
          unfold am_okS at o2 ⊢
          simp only [List.all_cons, Bool.and_eq_true] at o2
          exact o2.2
        have kk1 := kk H1 locs (cells + 1) (slots + n.toNatClampNeg) (al ++ [q]) (by simp; omega) (by rw [am_sl_app, hsl]; omega) (List.prefix_append _ _) ⟨by simp [hW.1], by simp; omega, fun hL => by rw [am_row_ne (by omega)]; exact hW.2.2.1 hL, hP, hD⟩ hS1 (hl.push h9 (by rw [hW.1]; exact o1))
        rw [List.map_cons, am_map_push h9 (by rw [hW.1]; exact o2)] at kk1
        have e7 : am_tr G (al ++ [q]) (.ref S.length) = .ref q := by
          show Value.ref (am_ad G (al ++ [q]) S.length) = _
          rw [am_ad_lt (by omega), ← hW.1]
          simp
        rw [e7] at kk1
        exact kk1
      · cases hrun
    all_goals (dsimp only [am_eff] at hrun; cases hrun)
  case anewarray x =>
    dsimp only [am_eff] at hrun
    split at hrun
    · rename_i n u h10
      have hw := hG.2.1 _ hgr
      unfold am_PW at hw
      simp only [h10] at hw
      injection hrun with hrun
      injection hrun with hg hrun
      injection hrun with h1 hrun
      injection hrun with h2 h3
      subst h1 h2 h3
      simp only [Bool.and_eq_true, Bool.not_eq_true', decide_eq_false_iff_not] at hg
      obtain ⟨⟨g9, g1⟩, g2⟩ := hg
      have g9 := am_blt.mp g9
      have g2 := Nat.le_of_ble_eq_true g2
      obtain ⟨o1, o2, o3⟩ := am_gr_new hgrow (by simp)
      have hsl : am_slc (98, List.replicate n.toNatClampNeg Value.null) = n.toNatClampNeg := by
        show (List.replicate n.toNatClampNeg Value.null).length = _
        simp
      rw [am_sl_app, hsl] at hrs
      simp only [List.length_append, List.length_cons, List.length_nil] at hrc
      refine va_newq hx hb hown (hts _ hw.mem) hSt.2.1 hSt.1 hW.2.2.2.1 hW.2.2.2.2 hS (fun q h => Nat.le_trans hSt.2.2.2.2.2.2.2.2.1 h) g1 rfl (by omega) (by omega) (by omega) (hd (Nat.succ_ne_zero _)) (fun q cA H1 hK hP hD hS1 => ?_)
      have hcA : cA = dB := by
        obtain ⟨_, _, _, _, _, f1⟩ := (hK.2 2 (cA, .object "NowhereMoney$Script") rfl).2
        obtain ⟨_, _, _, _, _, f2⟩ := (hK.2 1 (dB, .object "NowhereMoney$Script") rfl).2
        exact Option.some.inj (f1.symm.trans f2)
      subst hcA
      have hx1 : am_cell G dA cA (al ++ [q]) μ S.length (98, List.replicate n.toNatClampNeg .null) = .inl (cA, n.toNatClampNeg, .inr (.inr (.inr (.inr (fun _ => none))))) := by
        show Sum.inl (cA, (List.replicate n.toNatClampNeg Value.null).length, _) = _
        have e3 : am_qf G (al ++ [q]) (List.replicate n.toNatClampNeg Value.null) = fun _ => none := by
          funext j
          unfold am_qf
          rw [List.getElem?_replicate]
          split
          · rename_i a h
            split at h <;> cases h
          · rfl
        rw [List.length_replicate]
        show Sum.inl (cA, n.toNatClampNeg, Sum.inr (Sum.inr (Sum.inr (Sum.inr (am_qf G (al ++ [q]) (List.replicate n.toNatClampNeg Value.null)))))) = _
        rw [e3]
      rw [am_conc_push0 hW.1 hW.2.1 o3 hx1] at hP hD
      have h9 : al.length ≤ 900 := by rw [hW.1]; exact hW.2.1
      have o2 : am_okS S.length u = true := by
        unfold am_okS at o2 ⊢
        simp only [List.all_cons, Bool.and_eq_true] at o2
        exact o2.2
      have kk1 := kk H1 locs (cells + 1) (slots + n.toNatClampNeg) (al ++ [q]) (by simp; omega) (by rw [am_sl_app, hsl]; omega) (List.prefix_append _ _) ⟨by simp [hW.1], by simp; omega, hW.2.2.1, hP, hD⟩ hS1 (hl.push h9 (by rw [hW.1]; exact o1))
      rw [List.map_cons, am_map_push h9 (by rw [hW.1]; exact o2)] at kk1
      have e7 : am_tr G (al ++ [q]) (.ref S.length) = .ref q := by
        show Value.ref (am_ad G (al ++ [q]) S.length) = _
        rw [am_ad_lt (by omega), ← hW.1]
        simp
      rw [e7] at kk1
      exact kk1
    · cases hrun
  all_goals (dsimp only [am_eff] at hrun; cases hrun)
end VAR
end
section
/-! Jumps, answers, calls: the whole simulation. -/
theorem am_eff_mono {L d : Nat} {S S' : am_Sh} {i : Instr} {r : am_R} {st st' : List Value} {μ μ' : am_M} {g : Bool} (h : am_eff L d S i r st μ = some (g, st', S', μ')) : S.length ≤ S'.length ∧ am_sl S ≤ am_sl S' := by
  have fin : S' = S → S.length ≤ S'.length ∧ am_sl S ≤ am_sl S' := fun e => by rw [e]; exact ⟨Nat.le_refl _, Nat.le_refl _⟩
  have finA : ∀ x, S' = S ++ [x] → S.length ≤ S'.length ∧ am_sl S ≤ am_sl S' := fun x e => by rw [e, am_sl_app]; exact ⟨by simp, by omega⟩
  have finS : ∀ c x y, S[c]? = some x → am_slc y = am_slc x → S' = S.set c y → S.length ≤ S'.length ∧ am_sl S ≤ am_sl S' := fun c x y h1 h2 e => by rw [e, am_sl_set S c x y h1 h2]; exact ⟨by simp, Nat.le_refl _⟩
  cases i
  case iaload =>
    dsimp only [am_eff] at h
    split at h
    · split at h
      · cases h; exact fin rfl
      · cases h
    · cases h
  case baload =>
    dsimp only [am_eff] at h
    split at h
    · rename_i i cc u
      cases hk : (Nat.ble 2000 cc && Nat.blt cc (2000 + am_sN)) with
      | false => rw [hk] at h; cases h
      | true =>
        rw [hk] at h
        simp only [cond_true, Option.some.injEq, Prod.mk.injEq] at h
        exact fin h.2.2.1.symm
    · cases h
  case aaload =>
    dsimp only [am_eff] at h
    split at h
    · split at h
      · rename_i kd vs hc
        cases hk : Nat.beq kd 98 with
        | false => rw [hk] at h; cases h
        | true =>
          rw [hk] at h
          simp only [cond_true] at h
          split at h
          · simp only [Option.some.injEq, Prod.mk.injEq] at h
            exact fin h.2.2.1.symm
          · cases h
      · cases h
    · cases h
  case iastore =>
    dsimp only [am_eff] at h
    split at h
    · split at h
      · rename_i kd vs hc
        cases hk : Nat.ble 100 kd with
        | false => rw [hk] at h; cases h
        | true =>
          rw [hk] at h
          simp only [cond_true, Option.some.injEq, Prod.mk.injEq] at h
          exact fin h.2.2.1.symm
      · cases h
    · cases h
  case aastore =>
    dsimp only [am_eff] at h
    split at h
    · split at h
      · rename_i kd vs vs2 hc hv2
        cases hk : Nat.beq kd 98 with
        | false => rw [hk] at h; cases h
        | true =>
          rw [hk] at h
          have hk := Nat.eq_of_beq_eq_true hk
          subst hk
          simp only [cond_true, Option.some.injEq, Prod.mk.injEq] at h
          exact finS _ _ _ hc (by show (vs.set _ _).length = vs.length; simp) h.2.2.1.symm
      · cases h
    · cases h
  case putfield x =>
    dsimp only [am_eff] at h
    split at h
    · split at h
      · rename_i kd vs h0 hc
        cases hk : Nat.beq kd r.2.1 with
        | false => rw [hk] at h; cases h
        | true =>
          rw [hk] at h
          simp only [cond_true] at h
          split at h
          · simp only [Option.some.injEq, Prod.mk.injEq] at h
            exact fin h.2.2.1.symm
          · simp only [Option.some.injEq, Prod.mk.injEq] at h
            exact finS _ _ _ hc (by unfold am_slc; simp) h.2.2.1.symm
          · simp only [Option.some.injEq, Prod.mk.injEq] at h
            exact finS _ _ _ hc (by unfold am_slc; simp) h.2.2.1.symm
          · cases h
      · cases h
    · cases h
  case idiv =>
    dsimp only [am_eff] at h
    split at h
    · simp only [Option.some.injEq, Prod.mk.injEq] at h
      exact fin h.2.2.1.symm
    · cases h
  case irem =>
    dsimp only [am_eff] at h
    split at h
    · simp only [Option.some.injEq, Prod.mk.injEq] at h
      exact fin h.2.2.1.symm
    · cases h
  case ldiv =>
    dsimp only [am_eff] at h
    split at h
    · simp only [Option.some.injEq, Prod.mk.injEq] at h
      exact fin h.2.2.1.symm
    · cases h
  case invokestatic x =>
    dsimp only [am_eff] at h
    split at h
    · split at h
      · rename_i k0 v0 k1 v1 hc0 hc1
        cases hk : (Nat.ble 100 k0 && Nat.ble 100 k1) with
        | false => rw [hk] at h; cases h
        | true =>
          rw [hk] at h
          simp only [cond_true, Option.some.injEq, Prod.mk.injEq] at h
          exact fin h.2.2.1.symm
      · cases h
    · simp only [Option.some.injEq, Prod.mk.injEq] at h
      exact fin h.2.2.1.symm
    · simp only [Option.some.injEq, Prod.mk.injEq] at h
      exact fin h.2.2.1.symm
    · simp only [Option.some.injEq, Prod.mk.injEq] at h
      exact fin h.2.2.1.symm
    · simp only [Option.some.injEq, Prod.mk.injEq] at h
      exact fin h.2.2.1.symm
    · cases h
  case invokespecial x =>
    dsimp only [am_eff] at h
    split at h
    · simp only [Option.some.injEq, Prod.mk.injEq] at h
      exact fin h.2.2.1.symm
    · cases h
  case new x =>
    dsimp only [am_eff] at h
    split at h
    · simp only [Option.some.injEq, Prod.mk.injEq] at h
      exact finA _ h.2.2.1.symm
    · cases h
  case newarray ty =>
    cases ty
    case int =>
      dsimp only [am_eff] at h
      split at h
      · simp only [Option.some.injEq, Prod.mk.injEq] at h
        exact finA _ h.2.2.1.symm
      · cases h
    all_goals (dsimp only [am_eff] at h; cases h)
  case anewarray x =>
    dsimp only [am_eff] at h
    split at h
    · simp only [Option.some.injEq, Prod.mk.injEq] at h
      exact finA _ h.2.2.1.symm
    · cases h
  all_goals (dsimp only [am_eff] at h; cases h)
theorem am_mono {P : Nat → List am_I} {ML : Nat → Nat} {L : Nat} : ∀ (n d m : Nat) (k : List am_I) (ls : am_L) (st : List Value) (S : am_Sh) (μ : am_M) (rv : Option Value) (S1 : am_Sh) (μ1 : am_M), am_run P ML L n d m k ls st S μ = some (rv, S1, μ1) → S.length ≤ S1.length ∧ am_sl S ≤ am_sl S1 := by
  intro n
  induction n with
  | zero => intro d m k ls st S μ rv S1 μ1 h; simp [am_run] at h
  | succ n ih =>
    intro d m k ls st S μ rv S1 μ1 h
    cases k with
    | nil => simp [am_run] at h
    | cons x k =>
      obtain ⟨pc, i, r⟩ := x
      rw [am_run] at h
      split at h
      · exact ih _ _ _ _ _ _ _ _ _ _ h
      · split at h
        · rename_i heff
          split at h
          · have h1 := ih _ _ _ _ _ _ _ _ _ _ h
            have h2 := am_eff_mono heff
            omega
          · cases h
        · split at h
          · split at h
            · exact ih _ _ _ _ _ _ _ _ _ _ h
            · exact ih _ _ _ _ _ _ _ _ _ _ h
          · split at h
            · split at h
              · cases h; exact ⟨Nat.le_refl _, Nat.le_refl _⟩
              · cases h
            · split at h
              · split at h
                · cases h
                · split at h
                  · cases h
                  · split at h
                    · rename_i hc
                      split at h
                      · have h1 := ih _ _ _ _ _ _ _ _ _ _ h
                        have h2 := ih _ _ _ _ _ _ _ _ _ _ hc
                        omega
                      · cases h
                    · cases h
              · cases h
theorem am_ad_pre {G : am_G} {al al' : List Nat} {a : Nat} (hp : al <+: al') (h9 : al.length ≤ 900) (h : am_okV al.length (.ref a) = true) : am_ad G al' a = am_ad G al a := by
  obtain ⟨x, rfl⟩ := hp
  unfold am_ad
  have h : (Nat.blt a al.length || Nat.ble 1000 a) = true := h
  cases h1 : Nat.blt a 1000 with
  | false => rfl
  | true =>
    have h2 : a < al.length := by
      rcases (Bool.or_eq_true _ _).mp h with h | h
      · exact am_blt.mp h
      · exact absurd (Nat.le_of_ble_eq_true h) (Nat.not_le.mpr (am_blt.mp h1))
    show (al ++ x).getD a 0 = al.getD a 0
    rw [List.getD_eq_getElem?_getD, List.getD_eq_getElem?_getD, List.getElem?_append_left h2]
theorem am_tr_pre {G : am_G} {al al' : List Nat} {v : Value} (hp : al <+: al') (h9 : al.length ≤ 900) (h : am_okV al.length v = true) : am_tr G al' v = am_tr G al v := by
  cases v with
  | ref a => show Value.ref _ = Value.ref _; rw [am_ad_pre hp h9 h]
  | _ => rfl
theorem am_gr_pre {G : am_G} {al al' : List Nat} {S S' : am_Sh} {ls : am_L} {st : List Value} {n : Nat} {ar : Array Slot} (h : am_gr S S' ls st = true) (hp : al <+: al') (h1 : al.length = S.length) (h2 : al'.length = S'.length) (h9 : S.length ≤ 900) (hl : am_hasL (am_tr G al) ar n ls) :
    am_hasL (am_tr G al') ar n ls ∧ st.map (am_tr G al') = st.map (am_tr G al) := by
  unfold am_gr at h
  rcases (Bool.or_eq_true _ _).mp h with h | h
  · have he := Nat.eq_of_beq_eq_true h
    have : al = al' := hp.eq_of_length (by omega)
    subst this
    exact ⟨hl, rfl⟩
  · obtain ⟨g1, g2⟩ := (Bool.and_eq_true _ _).mp h
    obtain ⟨g2, -⟩ := (Bool.and_eq_true _ _).mp g2
    rw [← h1] at g1 g2
    refine ⟨⟨hl.1, ?_⟩, List.map_congr_left (fun u hu => am_tr_pre hp (by omega) (List.all_eq_true.mp g2 _ hu))⟩
    rw [am_prs_congr (g := am_tr G al) ls 0 (fun u hu => am_tr_pre hp (by omega) (List.all_eq_true.mp g1 _ hu))]
    exact hl.2
theorem am_at_suf (k : List am_I) (tg : Nat) : am_at k tg <:+ k := List.dropWhile_suffix _
theorem am_at_pc (k : List am_I) (tg : Nat) (h : am_at k tg ≠ []) : am_pc (am_at k tg) = tg := by
  have h1 := List.head_dropWhile_not (l := k) (fun e : am_I => !(Nat.beq e.1 tg)) h
  have h2 : ∀ (l : List am_I) (h : l ≠ []), am_pc l = (l.head h).1 := by
    intro l h
    cases l with
    | nil => exact absurd rfl h
    | cons x y => simp [am_pc]
  rw [h2 _ h]
  have h1 : (!(Nat.beq ((am_at k tg).head h).1 tg)) = false := h1
  simp only [Bool.not_eq_false'] at h1
  exact Nat.eq_of_beq_eq_true h1
theorem am_cn_of : ∀ ci, ci < 12 → ∃ q, vwCl[ci]? = some q ∧ q.1 = am_cn ci := by
  intro ci h
  match ci, h with
  | 0, _ => exact ⟨_, rfl, rfl⟩
  | 1, _ => exact ⟨_, rfl, rfl⟩
  | 2, _ => exact ⟨_, rfl, rfl⟩
  | 3, _ => exact ⟨_, rfl, rfl⟩
  | 4, _ => exact ⟨_, rfl, rfl⟩
  | 5, _ => exact ⟨_, rfl, rfl⟩
  | 6, _ => exact ⟨_, rfl, rfl⟩
  | 7, _ => exact ⟨_, rfl, rfl⟩
  | 8, _ => exact ⟨_, rfl, rfl⟩
  | 9, _ => exact ⟨_, rfl, rfl⟩
  | 10, _ => exact ⟨_, rfl, rfl⟩
  | 11, _ => exact ⟨_, rfl, rfl⟩
  | k + 12, h => omega
section VAR
variable {p : Program} {l : Launch} {e : Env} {R : Room} {s : State} {mi : MethodId} {args : Array Value} {below : List Frame} {meth : Method} {c : Code} {H : Heap} {locs : List Loc} {cells slots : Nat} {Q : State → Prop}
variable {t : am_T} {D : va_G} {G : am_G} {dA dB : ClassId} {N0 L : Nat} {xs : Nat → Int32} {al : List Nat} {S : am_Sh} {μ : am_M} {m : Nat}
set_option maxHeartbeats 4000000 in
theorem am_sim_jmp (hx : p.tables.exec = Jvm.exec) (hb : c.code = am_B t m) {pc tg : Nat} {i : Instr} {r : am_R} {st st' : List Value} {ar : Array Slot} {b : Bool}
    (hrun : am_jmp i r pc st = some (b, tg, st')) (hdec : am_dec (am_B t m) pc i) (hgr : am_GR t m pc i r)
    (kt : b = true → W p l e R s mi args below meth c H locs cells slots Q (F0 mi tg ar (st'.map (am_tr G al))))
    (kf : b = false → am_len i ≠ 0 → W p l e R s mi args below meth c H locs cells slots Q (F0 mi (pc + am_len i) ar (st'.map (am_tr G al)))) :
    W p l e R s mi args below meth c H locs cells slots Q (F0 mi pc ar (st.map (am_tr G al))) := by
  have hd := hdec.1
  cases i
  case goto o =>
    cases hrun
    exact lv_goto hx hb (hd (Nat.succ_ne_zero _)) hgr (kt rfl)
  case ifCond cd o =>
    dsimp only [am_jmp] at hrun
    split at hrun
    · simp only [Option.some.injEq, Prod.mk.injEq] at hrun
      obtain ⟨hb1, rfl, rfl⟩ := hrun
      have kf := fun h => kf h (Nat.succ_ne_zero _)
      cases cd
      · exact lv_if_eq hx hb (hd (Nat.succ_ne_zero _)) hgr (fun h => kt (by rw [← hb1]; simpa [am_cmp] using h)) (fun h => kf (by rw [← hb1]; simpa [am_cmp] using h))
      · exact lv_if_ne hx hb (hd (Nat.succ_ne_zero _)) hgr (fun h => kt (by rw [← hb1]; simpa [am_cmp] using h)) (fun h => kf (by rw [← hb1]; simpa [am_cmp] using h))
      · exact lv_if_lt hx hb (hd (Nat.succ_ne_zero _)) hgr (fun h => kt (by rw [← hb1]; exact decide_eq_true h)) (fun h => kf (by rw [← hb1]; exact decide_eq_false h))
      · exact lv_if_ge hx hb (hd (Nat.succ_ne_zero _)) hgr (fun h => kt (by rw [← hb1]; exact decide_eq_true h)) (fun h => kf (by rw [← hb1]; exact decide_eq_false h))
      · exact lv_if_gt hx hb (hd (Nat.succ_ne_zero _)) hgr (fun h => kt (by rw [← hb1]; exact decide_eq_true h)) (fun h => kf (by rw [← hb1]; exact decide_eq_false h))
      · exact lv_if_le hx hb (hd (Nat.succ_ne_zero _)) hgr (fun h => kt (by rw [← hb1]; exact decide_eq_true h)) (fun h => kf (by rw [← hb1]; exact decide_eq_false h))
    · cases hrun
  case if_icmp cd o =>
    dsimp only [am_jmp] at hrun
    split at hrun
    · simp only [Option.some.injEq, Prod.mk.injEq] at hrun
      obtain ⟨hb1, rfl, rfl⟩ := hrun
      have kf := fun h => kf h (Nat.succ_ne_zero _)
      cases cd
      · exact lv_icmp_eq hx hb (hd (Nat.succ_ne_zero _)) hgr (fun h => kt (by rw [← hb1]; simpa [am_cmp] using h)) (fun h => kf (by rw [← hb1]; simpa [am_cmp] using h))
      · exact lv_icmp_ne hx hb (hd (Nat.succ_ne_zero _)) hgr (fun h => kt (by rw [← hb1]; simpa [am_cmp] using h)) (fun h => kf (by rw [← hb1]; simpa [am_cmp] using h))
      · exact lv_icmp_lt hx hb (hd (Nat.succ_ne_zero _)) hgr (fun h => kt (by rw [← hb1]; exact decide_eq_true h)) (fun h => kf (by rw [← hb1]; exact decide_eq_false h))
      · exact lv_icmp_ge hx hb (hd (Nat.succ_ne_zero _)) hgr (fun h => kt (by rw [← hb1]; exact decide_eq_true h)) (fun h => kf (by rw [← hb1]; exact decide_eq_false h))
      · exact lv_icmp_gt hx hb (hd (Nat.succ_ne_zero _)) hgr (fun h => kt (by rw [← hb1]; exact decide_eq_true h)) (fun h => kf (by rw [← hb1]; exact decide_eq_false h))
      · exact lv_icmp_le hx hb (hd (Nat.succ_ne_zero _)) hgr (fun h => kt (by rw [← hb1]; exact decide_eq_true h)) (fun h => kf (by rw [← hb1]; exact decide_eq_false h))
    · cases hrun
  case ifnull o =>
    dsimp only [am_jmp] at hrun
    split at hrun
    · cases hrun
      exact lv_ifnullN hx hb (hd (Nat.succ_ne_zero _)) hgr (kt rfl)
    · cases hrun
      exact lv_ifnull hx hb (hd (Nat.succ_ne_zero _)) (kf rfl (Nat.succ_ne_zero _))
    · cases hrun
  case tableswitch dflt lo hi offs =>
    obtain ⟨n, hn⟩ := hdec.2 rfl
    dsimp only [am_jmp] at hrun
    split at hrun
    · rename_i x u
      split at hrun
      · rename_i ho
        simp only [Option.some.injEq, Prod.mk.injEq] at hrun
        obtain ⟨hb1, rfl, rfl⟩ := hrun
        refine lv_tableOut hx hb hn ?_ (Int.toNat_of_nonneg hgr.1).symm (kt hb1.symm)
        simpa using ho
      · rename_i ho
        split at hrun
        · rename_i o hoo
          simp only [Option.some.injEq, Prod.mk.injEq] at hrun
          obtain ⟨hb1, rfl, rfl⟩ := hrun
          have ho : ¬ (x.toInt < lo ∨ hi < x.toInt) := by simpa using ho
          refine lv_tableIn hx hb hn (fun h => ho (Or.inl h)) (fun h => ho (Or.inr h)) hoo (Int.toNat_of_nonneg (hgr.2 o ?_)).symm (kt hb1.symm)
          exact Array.mem_toList_iff.mpr (Array.mem_of_getElem? hoo)
        · cases hrun
    · cases hrun
  all_goals (dsimp only [am_jmp] at hrun; cases hrun)
end VAR
end
section
/-! THE SIMULATION: where the small machine answers, the real one does. -/
theorem am_Ss.kept {G : am_G} {A : Nat → Prop} {U : State} {H H1 : Heap} (h : am_Ss G A U H) (hq : ∀ a : Nat, a < H.size → ¬ A a → H1[a]? = H[a]?) : am_Ss G A U H1 := fun i hi => ⟨(h i hi).1.kept hq, (h i hi).2.1.kept hq, (h i hi).2.2.1.kept hq, (h i hi).2.2.2.kept hq⟩
theorem am_Ss.moved {G : am_G} {A : Nat → Prop} {u U : State} {H : Heap} (hvm : u.vm.Alike U.vm) (h : am_Ss G A u H) : am_Ss G A U H := fun i hi => ⟨va_O.moved hvm (h i hi).1, va_OF.moved hvm (h i hi).2.1, va_OF.moved hvm (h i hi).2.2.1, va_T.moved hvm (h i hi).2.2.2⟩
theorem am_St.moved {t : am_T} {D : va_G} {G : am_G} {dA dB : ClassId} {N0 L : Nat} {xs : Nat → Int32} {s U : State} {H H1 : Heap} (hW : s.WarmedH U.vm) (h : am_St t D G dA dB N0 L xs s H) (hz : H.size ≤ H1.size) (hq : ∀ a : Nat, a < H.size → ¬ N0 ≤ a → H1[a]? = H[a]?) : am_St t D G dA dB N0 L xs U H1 := by
  obtain ⟨h1, h2, h3, h4, h5, h6, h7, h8, h9, h10⟩ := h
  have ha := hW.alike
  refine ⟨h1.moved ha, h2.moved ha, fun e he => (h3 e he).warm hW, (h4.kept hq).moved ha, (h5.kept hq).moved ha, (h6.kept hq).moved ha, fun hL => ?_, h8, Nat.le_trans h9 hz, fun e he => (h10 e he).warmM hW⟩
  obtain ⟨scr, g1, g2⟩ := (h7 hL).moved ha
  exact ⟨scr, by rw [hq _ (Nat.lt_of_lt_of_le h8 h9) (Nat.not_le.mpr h8)]; exact g1, g2⟩
def am_WS (t : am_T) (m : Nat) : List Cond := Cond.code (am_Y t m) (am_B t m) (am_ML t m) (am_RT t m) :: am_ws
def am_Pc (t : am_T) (D : va_G) (G : am_G) (dA dB : ClassId) (N0 L : Nat) (xs : Nat → Int32) (al : List Nat) (S : am_Sh) (μ : am_M) (a : List Value) : Array Value → State → Prop := va_Pc (a.map (am_tr G al)) (fun U => am_St t D G dA dB N0 L xs U U.heap ∧ am_Wd D G dA dB N0 L xs al S μ U.heap)
def am_Qc (D : va_G) (G : am_G) (dA dB : ClassId) (N0 L : Nat) (xs : Nat → Int32) (al : List Nat) (rv : Option Value) (S' : am_Sh) (μ' : am_M) : Array Value → State → Outcome → State → Prop := fun _ st o t => (∃ al', o = .returned (rv.map (am_tr G al')) ∧ al <+: al' ∧ am_Wd D G dA dB N0 L xs al' S' μ' t.heap) ∧ va_F (fun q => N0 ≤ q) st t
def am_Sim (t : am_T) (D : va_G) (G : am_G) (dA dB : ClassId) (N0 L : Nat) (xs : Nat → Int32) (l : Launch) (n : Nat) : Prop :=
  ∀ (d m : Nat) (k : List am_I) (ls : am_L) (st : List Value) (S : am_Sh) (μ : am_M) (rv : Option Value) (S1 : am_Sh) (μ1 : am_M), am_run (am_P t) (am_ML t) L n d m k ls st S μ = some (rv, S1, μ1) → k <:+ am_P t m →
  ∀ (p : Program) (e : Env) (R : Room) (s : State) (mi : MethodId) (args : Array Value) (below : List Frame) (meth : Method) (c : Code) (H : Heap) (locs : List Loc) (cells slots MC MS : Nat) (Q : State → Prop) (ar : Array Slot) (al : List Nat),
    am_Env t D G dA dB N0 L xs p s mi args meth c m → am_hasL (am_tr G al) ar (am_ML t m) ls → am_Wd D G dA dB N0 L xs al S μ H → va_S (fun q => N0 ≤ q) s.heap H locs → d ≤ R.frames → 200 * d ≤ R.locals →
    cells + S1.length = MC + S.length → slots + am_sl S1 = MS + am_sl S → MC ≤ R.cells → MS ≤ R.slots →
    (∀ (pc : Nat) (i : Instr) (r : am_R) (st2 : List Value) (H2 : Heap) (locs2 : List Loc) (al2 : List Nat) (ar2 : Array Slot), am_dec (am_B t m) pc i → am_GR t m pc i r → am_ret i r st2 = some (true, rv) → al <+: al2 → am_Wd D G dA dB N0 L xs al2 S1 μ1 H2 → va_S (fun q => N0 ≤ q) s.heap H2 locs2 → W p l e R s mi args below meth c H2 locs2 MC MS Q (F0 mi pc ar2 (st2.map (am_tr G al2)))) →
    W p l e R s mi args below meth c H locs cells slots Q (F0 mi (am_pc k) ar (st.map (am_tr G al)))
section VAR
variable {p : Program} {l : Launch} {e : Env} {R : Room} {s : State} {mi : MethodId} {args : Array Value} {below : List Frame} {meth : Method} {c : Code} {H : Heap} {locs : List Loc} {cells slots : Nat} {Q : State → Prop}
variable {t : am_T} {D : va_G} {G : am_G} {dA dB : ClassId} {N0 L : Nat} {xs : Nat → Int32} {al : List Nat} {S : am_Sh} {μ : am_M} {m : Nat}
/-- behind a call -/
theorem am_go {mc ms pc : Nat} {ar : Array Slot} {st0 rest : List Value} {a : Array Value} {rv : Option Value} {S' : am_Sh} {μ' : am_M} (hr : va_Run p l e R s mi args below meth c H locs cells slots mc ms (F0 mi pc ar st0) rest (am_Qc D G dA dB N0 L xs al rv S' μ' a) (fun q => N0 ≤ q)) (hS : va_S (fun q => N0 ≤ q) s.heap H locs)
    (kk : ∀ (H1 : Heap) (locs1 : List Loc) (al' : List Nat), al <+: al' → am_Wd D G dA dB N0 L xs al' S' μ' H1 → va_S (fun q => N0 ≤ q) s.heap H1 locs1 → W p l e R s mi args below meth c H1 locs1 (cells + mc) (slots + ms) Q (F0 mi (pc + 3) ar ((rv.map (am_tr G al')).toList ++ rest))) :
    W p l e R s mi args below meth c H locs cells slots Q (F0 mi pc ar st0) := by
  intro T hT X
  obtain ⟨v, st₀, t1, T', L1, h0, X', hL, e1, e2, ⟨⟨al', hv, hpre, hWd⟩, hz, hk⟩, st⟩ := hr T hT X
  cases hv
  rw [h0] at hz hk
  have hz : H.size ≤ T'.heap.size := by rw [e1]; exact hz
  obtain ⟨t2, a1, b1⟩ := kk T'.heap (locs ++ L1) al' hpre (by rw [e1]; exact hWd)
    ⟨Nat.le_trans hS.1 hz, fun q h1 h2 => by rw [e1, hk q (Nat.lt_of_lt_of_le h1 hS.1) h2]; exact hS.2.1 q h1 h2, fun q hq => by
      rcases List.mem_append.mp hq with h | h
      · exact hS.2.2 q h
      · exact hL q h⟩ T' rfl X'
  exact ⟨t2, st t2 a1, b1⟩
theorem am_good_in (hw : am_W (.code (am_Y t m) (am_B t m) (am_ML t m) (am_RT t m))) : GoodIn am_ws (am_WS t m) := by
  intro w h
  rcases List.mem_cons.mp h with h | h
  · rw [h]; exact ⟨hw.mem, good_of_word hw.2⟩
  · exact ⟨h, good_of_word (List.mem_filter.mp h).2⟩
theorem am_blind {a : List Value} : FrameBlind (am_Pc t D G dA dB N0 L xs al S μ a) := by
  intro a U g mk q
  obtain ⟨q0, ⟨h1, h2, h3, h4, h5, h6, h7, h8, h9, h10⟩, q2⟩ := q
  have ha : U.vm.Alike (U.calling g mk a).vm := Vm.Alike.refl U.vm
  exact ⟨q0, ⟨h1.moved ha, h2.moved ha, fun e he => (h3 e he).same rfl, h4.moved ha, h5.moved ha, h6.moved ha, fun hL => (h7 hL).moved ha, h8, h9, fun e he => (h10 e he).same rfl rfl⟩, q2⟩
set_option maxHeartbeats 4000000 in
theorem am_met (hG : am_Good t) {n d : Nat} (ih : am_Sim t D G dA dB N0 L xs l n) {a : List Value} {rv : Option Value} {S1 : am_Sh} {μ1 : am_M} (hpl : plainName (am_Y t m).cls = true) (hlen : (am_ent a).length ≤ am_ML t m)
    (hrun : am_run (am_P t) (am_ML t) L n d m (am_P t m) (am_loc (am_ML t m) a) [] S μ = some (rv, S1, μ1)) :
    Met l (am_Y t m) (am_WS t m) { frames := d, cells := S1.length - S.length, slots := am_sl S1 - am_sl S, locals := 200 * d } (am_Pc t D G dA dB N0 L xs al S μ a) (am_Qc D G dA dB N0 L xs al rv S1 μ1) (S1.length - S.length) (am_sl S1 - am_sl S) (fun q => N0 ≤ q) := by
  obtain ⟨hm1, hm2⟩ := am_mono _ _ _ _ _ _ _ _ _ _ _ hrun
  refine Met.ofW (cc := am_B t m) (maxL := am_ML t m) (ret := am_RT t m) hpl rfl ?_
  intro p e s mi args below meth c s₁ B hml hv
  obtain ⟨rfl, hSt, hWd⟩ := hv
  have hx := B.exec
  have hb := B.bytes
  have hr := B.returns
  have hts := atoms_spec (ws := am_WS t m) B.pre
  have hown : s.vm.findClass (am_Y t m).cls = some mi.cls := findClass_of_methodNamed B.named
  have hlocks := B.notSynchronized
  have hnm : meth.name = (am_Y t m).name := (name_of_methodNamed B.named B.method).1
  have hS : va_S (fun q => N0 ≤ q) s.heap s.heap [] := va_S.rf
  have hl := lv_entry (a.map (am_tr G al)) (n := am_ML t m) (by rw [← am_ent_len (f := am_tr G al) (fun _ => am_tr_cat) a]; exact hlen)
  rw [lg_entry_eq]
  generalize (lg_sl (a.map (am_tr G al)) ++ List.replicate (am_ML t m - (lg_sl (a.map (am_tr G al))).length) Slot.unset).toArray = ar at hl ⊢
  have hl : am_hasL (am_tr G al) ar (am_ML t m) (am_loc (am_ML t m) a) := by
    refine ⟨by unfold am_loc; simp; omega, ?_⟩
    unfold am_loc
    rw [am_ent_prs (fun _ => am_tr_cat)]
    exact hl
  have hpc := (hG.1 m).2.1
  have hE : am_Env t D G dA dB N0 L xs p s mi (a.map (am_tr G al)).toArray meth c m := ⟨hx, hb, hml, by rw [← (hG.1 m).2.2]; exact hown, fun w hw => hts w (List.mem_cons_of_mem _ hw), fun q => by rw [hnm]; exact q, hSt⟩
  have key := ih d m (am_P t m) _ _ S μ rv S1 μ1 hrun List.suffix_rfl p e (headSpec (am_WS t m) { frames := d, cells := S1.length - S.length, slots := am_sl S1 - am_sl S, locals := 200 * d }).room s mi (a.map (am_tr G al)).toArray below meth c s.heap [] 0 0 (S1.length - S.length) (am_sl S1 - am_sl S)
    (MQ below (am_Qc D G dA dB N0 L xs al rv S1 μ1) (a.map (am_tr G al)).toArray s (S1.length - S.length) (am_sl S1 - am_sl S) (fun q => N0 ≤ q)) ar al hE hl hWd hS (Nat.le_refl _) (Nat.le_refl _) (by omega) (by omega) (Nat.le_refl _) (Nat.le_refl _) ?_
  · rw [hpc] at key
    exact key
  · intro pc i r st2 H2 locs2 al2 ar2 hdec hgr hret hpre hWd2 hS2
    have hd := hdec.1
    have fin : ∀ (o : Option Value) (tt : State), o = rv.map (am_tr G al2) → tt.heap = H2 → am_Qc D G dA dB N0 L xs al rv S1 μ1 (a.map (am_tr G al)).toArray s (.returned o) tt := fun o tt ho ht => ⟨⟨al2, by rw [ho], hpre, by rw [ht]; exact hWd2⟩, hS2.F ht⟩
    cases i
    case ireturn =>
      dsimp only [am_ret] at hret
      split at hret
      · rename_i x
        simp only [Option.some.injEq, Prod.mk.injEq] at hret
        obtain ⟨hn, rfl⟩ := hret
        have hgr : am_RT t m = some (am_rty r.2.1) := hgr
        refine W.zret hx hb (hr.trans hgr) ?_ (fun tt ht _ => fin _ tt rfl ht) hS2.2.2 (hd (Nat.succ_ne_zero _))
        unfold am_nar at hn
        split at hn
        · rename_i h0; rw [h0]; rfl
        · rename_i h0
          rw [h0]
          rcases (Bool.or_eq_true _ _).mp hn with g | g
          · rw [of_decide_eq_true g]; decide
          · rw [of_decide_eq_true g]; decide
        · rename_i h0
          rw [h0]
          have := of_decide_eq_true hn
          show Value.int _ = Value.int _
          rw [this]
        · rename_i q0 q1 q2
          have e1 : am_rty r.2.1 = .char := by
            unfold am_rty
            split
            · exact absurd (by assumption) q0
            · exact absurd (by assumption) q1
            · exact absurd (by assumption) q2
            · rfl
          rw [e1]
          have := of_decide_eq_true hn
          show Value.int _ = Value.int _
          rw [this]
      · cases hret
    case lreturn =>
      dsimp only [am_ret] at hret
      split at hret
      · simp only [Option.some.injEq, Prod.mk.injEq] at hret
        obtain ⟨hn, rfl⟩ := hret
        exact W.lret hx hb (hr.trans hgr) (fun tt ht _ => fin _ tt rfl ht) hS2.2.2 (hd (Nat.succ_ne_zero _))
      · cases hret
    case areturn =>
      dsimp only [am_ret] at hret
      split at hret
      · simp only [Option.some.injEq, Prod.mk.injEq] at hret
        obtain ⟨hn, rfl⟩ := hret
        obtain ⟨n, hgr⟩ := hgr
        exact W.aret hx hb (hr.trans hgr) (Or.inl ⟨_, rfl⟩) (Or.inr ⟨_, rfl⟩) (fun tt ht _ => fin _ tt rfl ht) hS2.2.2 (hd (Nat.succ_ne_zero _))
      · cases hret
    case return_ =>
      dsimp only [am_ret] at hret
      split at hret
      · simp only [Option.some.injEq, Prod.mk.injEq] at hret
        obtain ⟨hn, rfl⟩ := hret
        exact W.vret hx hb (hr.trans hgr) (fun tt ht _ => fin _ tt rfl ht) hS2.2.2 (hd (Nat.succ_ne_zero _))
      · cases hret
    all_goals (dsimp only [am_ret] at hret; cases hret)
theorem am_pop_some : ∀ (n : Nat) (st a tl : List Value), am_pop n st = some (a, tl) → st = a.reverse ++ tl ∧ a.length = n := by
  intro n
  induction n with
  | zero => intro st a tl h; simp only [am_pop, Option.some.injEq, Prod.mk.injEq] at h; obtain ⟨rfl, rfl⟩ := h; exact ⟨rfl, rfl⟩
  | succ n ih =>
    intro st a tl h
    cases st with
    | nil => cases h
    | cons v st =>
      simp only [am_pop] at h
      split at h
      · rename_i a' t' h'
        simp only [Option.some.injEq, Prod.mk.injEq] at h
        obtain ⟨rfl, rfl⟩ := h
        obtain ⟨h1, h2⟩ := ih _ _ _ h'
        exact ⟨by rw [h1]; simp, by simp [h2]⟩
      · cases h
theorem am_cats (st : List Value) : ((st.map (am_tr G al)).map fun v => v.category) = st.map Value.category := by
  rw [List.map_map]
  exact List.map_congr_left (fun v _ => am_tr_cat)
end VAR
end
section
section VAR
variable {p : Program} {l : Launch} {e : Env} {R : Room} {s : State} {mi : MethodId} {args : Array Value} {below : List Frame} {meth : Method} {c : Code} {H : Heap} {locs : List Loc} {cells slots : Nat} {Q : State → Prop}
variable {t : am_T} {D : va_G} {G : am_G} {dA dB : ClassId} {N0 L : Nat} {xs : Nat → Int32} {al : List Nat} {S : am_Sh} {μ : am_M} {m : Nat}
set_option maxHeartbeats 8000000 in
theorem am_sim (hG : am_Good t) : ∀ n, am_Sim t D G dA dB N0 L xs l n := by
  intro n
  induction n with
  | zero => intro d m k ls st S μ rv S1 μ1 h; simp [am_run] at h
  | succ n ih =>
    intro d m k ls st S μ rv S1 μ1 h hsuf p e R s mi args below meth c H locs cells slots MC MS Q ar al hE hl hW hS hd1 hd2 hMC hMS hRC hRS hfin
    cases k with
    | nil => simp [am_run] at h
    | cons x k =>
      obtain ⟨pc, i, r⟩ := x
      obtain ⟨hdec, hgr, hnext⟩ := (hG.1 m).1 _ _ hsuf
      have hsk : k <:+ am_P t m := List.IsSuffix.trans (List.suffix_cons _ _) hsuf
      have hne : ∀ {d' : Nat} {ls' : am_L} {st' : List Value} {S' : am_Sh} {μ' : am_M}, am_run (am_P t) (am_ML t) L n d' m k ls' st' S' μ' = some (rv, S1, μ1) → k ≠ [] := by
        intro d' ls' st' S' μ' h hk
        subst hk
        cases n with
        | zero => simp [am_run] at h
        | succ n => simp [am_run] at h
      show W p l e R s mi args below meth c H locs cells slots Q (F0 mi pc ar (st.map (am_tr G al)))
      rw [am_run] at h
      split at h
      · rename_i ls' st' hp
        refine am_sim_pure hG hE hp hdec hgr hW hS hl (fun ar' hl' => ?_)
        have hz : am_len i ≠ 0 := by
          intro hz
          cases i
          all_goals first
            | (exact absurd hz (Nat.succ_ne_zero _))
            | (dsimp only [am_pure] at hp; cases hp)
        have := ih d m k ls' st' S μ rv S1 μ1 h hsk p e R s mi args below meth c H locs cells slots MC MS Q ar' al hE hl' hW hS hd1 hd2 hMC hMS hRC hRS hfin
        rw [hnext (hne h) hz] at this
        exact this
      · split at h
        · rename_i g st' S' μ' hp
          split at h
          · rename_i hg
            obtain ⟨hg1, hg2⟩ := (Bool.and_eq_true _ _).mp hg
            subst hg1
            obtain ⟨hm1, hm2⟩ := am_mono _ _ _ _ _ _ _ _ _ _ _ h
            refine am_sim_eff hG hE hp hg2 hdec hgr hW hS hl hd1 hd2 (by omega) (by omega) (fun H1 locs1 cells1 slots1 al' hc1 hs1 hpre hW1 hS1 hl1 => ?_)
            have hz : am_len i ≠ 0 := by
              intro hz
              cases i
              all_goals first
                | (exact absurd hz (Nat.succ_ne_zero _))
                | (dsimp only [am_eff] at hp; cases hp)
            have := ih d m k ls st' S' μ' rv S1 μ1 h hsk p e R s mi args below meth c H1 locs1 cells1 slots1 MC MS Q ar al' hE hl1 hW1 hS1 hd1 hd2 (by omega) (by omega) hRC hRS (fun pc2 i2 r2 st2 H2 locs2 al2 ar2 q1 q2 q3 q4 q5 q6 => hfin pc2 i2 r2 st2 H2 locs2 al2 ar2 q1 q2 q3 (hpre.trans q4) q5 q6)
            rw [hnext (hne h) hz] at this
            exact this
          · cases h
        · split at h
          · rename_i b tg st' hp
            refine am_sim_jmp hE.1 hE.2.1 hp hdec hgr (fun hb1 => ?_) (fun hb1 hz => ?_)
            · subst hb1
              have hk : am_at (am_P t m) tg ≠ [] := by
                intro hk
                rw [hk] at h
                cases n with
                | zero => simp [am_run] at h
                | succ n => simp [am_run] at h
              have := ih d m (am_at (am_P t m) tg) ls st' S μ rv S1 μ1 h (am_at_suf _ _) p e R s mi args below meth c H locs cells slots MC MS Q ar al hE hl hW hS hd1 hd2 hMC hMS hRC hRS hfin
              rw [am_at_pc _ _ hk] at this
              exact this
            · subst hb1
              have := ih d m k ls st' S μ rv S1 μ1 h hsk p e R s mi args below meth c H locs cells slots MC MS Q ar al hE hl hW hS hd1 hd2 hMC hMS hRC hRS hfin
              rw [hnext (hne h) hz] at this
              exact this
          · split at h
            · rename_i g rv' hp
              split at h
              · rename_i hg
                simp only [Option.some.injEq, Prod.mk.injEq] at h
                obtain ⟨rfl, rfl, rfl⟩ := h
                have e1 : cells = MC := by omega
                have e2 : slots = MS := by omega
                subst e1 e2
                exact hfin pc i r st H locs al ar hdec hgr hp List.prefix_rfl hW hS
              · cases h
            · split at h
              · rename_i m' a tl hcal
                cases d with
                | zero => cases h
                | succ d' =>
                  dsimp only at h
                  split at h
                  · cases h
                  · rename_i hlen
                    have hlen := Nat.le_of_ble_eq_true hlen
                    split at h
                    · rename_i rv' S' μ' hrun
                      split at h
                      · rename_i hg
                        obtain ⟨hm1, hm2⟩ := am_mono _ _ _ _ _ _ _ _ _ _ _ h
                        obtain ⟨hm3, hm4⟩ := am_mono _ _ _ _ _ _ _ _ _ _ _ hrun
                        have hR1 : d' + 1 ≤ R.frames := hd1
                        have hSt := hE.2.2.2.2.2.2
                        have hts := hE.2.2.2.2.1
                        have hCF : CallFix p mi c (am_B t m) (am_ML t m) s args am_ws (am_O t m) := ⟨hE.1, hE.2.1, hE.2.2.1, hE.2.2.2.1, hts⟩
                        have hworld : ∀ U : State, U.heap = H → s.WarmedH U.vm → am_St t D G dA dB N0 L xs U U.heap ∧ am_Wd D G dA dB N0 L xs al S μ U.heap := fun U hU hWU => by
                          rw [hU]
                          exact ⟨am_St.moved hWU hSt hS.1 (fun q h1 h2 => hS.2.1 q h1 h2), hW⟩
                        have hkk : am_len i ≠ 0 → am_len i = 3 → ∀ (H1 : Heap) (locs1 : List Loc) (al' : List Nat), al <+: al' → am_Wd D G dA dB N0 L xs al' S' μ' H1 → va_S (fun q => N0 ≤ q) s.heap H1 locs1 → W p l e R s mi args below meth c H1 locs1 (cells + (S'.length - S.length)) (slots + (am_sl S' - am_sl S)) Q (F0 mi (pc + 3) ar ((rv'.map (am_tr G al')).toList ++ tl.map (am_tr G al))) := by
                          intro hz hz3 H1 locs1 al' hpre hW1 hS1
                          obtain ⟨hl1, hmap⟩ := am_gr_pre hg hpre hW.1 hW1.1 hW.2.1 hl
                          have := ih (d' + 1) m k ls (rv'.toList ++ tl) S' μ' rv S1 μ1 h hsk p e R s mi args below meth c H1 locs1 (cells + (S'.length - S.length)) (slots + (am_sl S' - am_sl S)) MC MS Q ar al' hE hl1 hW1 hS1 hd1 hd2 (by omega) (by omega) hRC hRS (fun pc2 i2 r2 st2 H2 locs2 al2 ar2 q1 q2 q3 q4 q5 q6 => hfin pc2 i2 r2 st2 H2 locs2 al2 ar2 q1 q2 q3 (hpre.trans q4) q5 q6)
                          rw [hnext (hne h) hz, hz3] at this
                          have e3 : (rv'.toList ++ tl).map (am_tr G al') = (rv'.map (am_tr G al')).toList ++ tl.map (am_tr G al) := by
                            rw [List.map_append, hmap]
                            cases rv' <;> rfl
                          rw [e3] at this
                          exact this
                        unfold am_cal at hcal
                        split at hcal
                        · rename_i hr1
                          split at hcal
                          · rename_i a0 t0 hpop
                            obtain ⟨hp1, hp2⟩ := am_pop_some _ _ _ _ hpop
                            have hstk : st.map (am_tr G al) = (a0.map (am_tr G al)).reverse ++ t0.map (am_tr G al) := by rw [hp1, List.map_append, List.map_reverse]
                            cases i
                            case invokestatic xi =>
                              have hgr := hgr (by rw [hr1]; decide)
                              have hw := hG.2.1 _ hgr.1
                              have h99 := hgr.2 hr1
                              unfold am_PW at hw
                              simp only [hr1] at hw
                              cases hk8 : Nat.ble (t0.map Value.category).sum 8 with
                              | false => simp only [hk8, cond_false] at hcal; cases hcal
                              | true =>
                                simp only [hk8, cond_true, Option.some.injEq, Prod.mk.injEq] at hcal
                                obtain ⟨rfl, rfl, rfl⟩ := hcal
                                obtain ⟨hmh, hdesc, hplain, hcode, hini, hlink, hst, -, -, h150, -⟩ := hw
                                have hM := am_met (l := l) (al := al) hG ih hplain hlen hrun
                                rw [hstk]
                                have hcat : 2 * (F0 mi pc ar ((a0.map (am_tr G al)).reverse ++ t0.map (am_tr G al))).monitorRoom + ((t0.map (am_tr G al)).map fun v => v.category).sum ≤ 8 := lv_room (by rw [am_cats]; exact Nat.le_of_ble_eq_true hk8)
                                rcases hlink with hlink | ⟨oc, hoc, hnest⟩
                                · exact am_go (va_runS (As := a0.map (am_tr G al)) (rest := t0.map (am_tr G al)) hCF hM ⟨callB_of (Ts := am_ws) r.2.2.1 hts (am_good_in hcode) rfl rfl rfl (hts _ hini.mem) (hts _ hlink.mem) ⟨hmh.1, hmh.2, hdesc⟩ ⟨hR1, by show 8 + (_ + 11) + 200 * d' ≤ _; omega⟩, hts _ (hst h99).mem⟩ ⟨am_blind, fun U hU hWU => ⟨rfl, hworld U hU hWU⟩⟩ rfl (by simpa using hp2) hl.2.1 rfl hcat (hdec.1 (Nat.succ_ne_zero _)) ⟨by omega, by omega⟩) hS (hkk (Nat.succ_ne_zero _) rfl)
                                · have hnw := hSt.2.2.2.2.2.2.2.2.2 _ hnest
                                  rw [show am_cn (oc, _, r.2.1).1 = am_O t m from hoc.symm] at hnw
                                  exact am_go (va_runSN (As := a0.map (am_tr G al)) (rest := t0.map (am_tr G al)) hCF hM ⟨va_cnB (host := "NowhereMoney") (Ts := am_ws) r.2.2.1 hts (am_good_in hcode) rfl rfl rfl hnw (hts _ hini.mem) ⟨hmh.1, hmh.2, hdesc⟩ ⟨hR1, by show 8 + (_ + 11) + 200 * d' ≤ _; omega⟩, hts _ (hst h99).mem, trivial⟩ ⟨am_blind, fun U hU hWU => ⟨rfl, hworld U hU hWU⟩⟩ rfl (by simpa using hp2) hl.2.1 rfl hcat (hdec.1 (Nat.succ_ne_zero _)) ⟨by omega, by omega⟩) hS (hkk (Nat.succ_ne_zero _) rfl)
                            case invokespecial xi =>
                              have hw := hG.2.1 _ hgr.1
                              have h98 := hgr.2 hr1
                              unfold am_PW at hw
                              simp only [hr1] at hw
                              simp only at hcal
                              split at hcal
                              · rename_i cc t2
                                cases hk8 : Nat.ble (t2.map Value.category).sum 8 with
                                | false => simp only [hk8, cond_false] at hcal; cases hcal
                                | true =>
                                  simp only [hk8, cond_true, Option.some.injEq, Prod.mk.injEq] at hcal
                                  obtain ⟨rfl, rfl, rfl⟩ := hcal
                                  obtain ⟨hmh, hdesc, hplain, hcode, hini, hlink, -, hsp, -, h150, -⟩ := hw
                                  obtain ⟨hs1, hs2, hs3⟩ := hsp h98
                                  have hM := am_met (l := l) (al := al) hG ih hplain hlen hrun
                                  rw [hstk]
                                  have hcat : 2 * (F0 mi pc ar ((a0.map (am_tr G al)).reverse ++ (Value.ref cc :: t2).map (am_tr G al))).monitorRoom + ((t2.map (am_tr G al)).map fun v => v.category).sum ≤ 8 := lv_room (by rw [am_cats]; exact Nat.le_of_ble_eq_true hk8)
                                  have hgi := am_good_in hcode
                                  unfold am_WS at hM hgi
                                  rw [hs2] at hM hgi
                                  rcases hlink with hlink | ⟨oc, hoc, hnest⟩
                                  · exact am_go (va_runI (b := am_ad G al cc) (As := a0.map (am_tr G al)) (rest := t2.map (am_tr G al)) hCF hM ⟨callB_of (Ts := am_ws) r.2.2.1 hts hgi rfl rfl rfl (hts _ hini.mem) (hts _ hlink.mem) ⟨hmh.1, hmh.2, hdesc⟩ ⟨hR1, by show 8 + (_ + 11) + 200 * d' ≤ _; omega⟩, hs1, hts _ hs3.mem⟩ ⟨am_blind, fun U hU hWU => ⟨rfl, hworld U hU hWU⟩⟩ rfl (by simpa using hp2) hl.2.1 rfl hcat (hdec.1 (Nat.succ_ne_zero _)) ⟨by omega, by omega⟩) hS (hkk (Nat.succ_ne_zero _) rfl)
                                  · have hnw := hSt.2.2.2.2.2.2.2.2.2 _ hnest
                                    rw [show am_cn (oc, _, r.2.1).1 = am_O t m from hoc.symm] at hnw
                                    exact am_go (va_runIN (b := am_ad G al cc) (As := a0.map (am_tr G al)) (rest := t2.map (am_tr G al)) hCF hM ⟨va_cnB (host := "NowhereMoney") (Ts := am_ws) r.2.2.1 hts hgi rfl rfl rfl hnw (hts _ hini.mem) ⟨hmh.1, hmh.2, hdesc⟩ ⟨hR1, by show 8 + (_ + 11) + 200 * d' ≤ _; omega⟩, hs1, hts _ hs3.mem⟩ ⟨am_blind, fun U hU hWU => ⟨rfl, hworld U hU hWU⟩⟩ rfl (by simpa using hp2) hl.2.1 rfl hcat (hdec.1 (Nat.succ_ne_zero _)) ⟨by omega, by omega⟩) hS (hkk (Nat.succ_ne_zero _) rfl)
                              · cases hcal
                            case invokevirtual xi =>
                              have hw := hG.2.1 _ hgr
                              unfold am_PW at hw
                              simp only [hr1] at hw
                              simp only at hcal
                              split at hcal
                              · rename_i cc t2
                                cases hk9 : (am_isA S cc r.2.2.2 && Nat.ble (t2.map Value.category).sum 8) with
                                | false => simp only [hk9, cond_false] at hcal; cases hcal
                                | true =>
                                  simp only [hk9, cond_true, Option.some.injEq, Prod.mk.injEq] at hcal
                                  obtain ⟨rfl, rfl, rfl⟩ := hcal
                                  obtain ⟨hisA, hk8⟩ := (Bool.and_eq_true _ _).mp hk9
                                  obtain ⟨hmh, hdesc, hplain, hcode, hini, hlink, -, -, hvi, h150, -⟩ := hw
                                  have hM := am_met (l := l) (al := al) hG ih hplain hlen hrun
                                  rw [hstk]
                                  have hcat : 2 * (F0 mi pc ar ((a0.map (am_tr G al)).reverse ++ (Value.ref cc :: t2).map (am_tr G al))).monitorRoom + ((t2.map (am_tr G al)).map fun v => v.category).sum ≤ 8 := lv_room (by rw [am_cats]; exact Nat.le_of_ble_eq_true hk8)
                                  have hrec : r.2.2.2 < 98 ∧ ∃ cellB : Cell, H[am_ad G al cc]? = some cellB ∧ cellB.vm.isStatics = false ∧ s.vm.findClass (am_cn r.2.2.2) = some cellB.cls := by
                                    unfold am_isA at hisA
                                    split at hisA
                                    · rename_i kd vs hc
                                      obtain ⟨z1, z2⟩ := (Bool.and_eq_true _ _).mp hisA
                                      have z1 := Nat.eq_of_beq_eq_true z1
                                      have z2 := am_blt.mp z2
                                      subst z1
                                      refine ⟨by omega, ?_⟩
                                      have hlt := am_lt_len hc
                                      rw [am_ad_lt (Nat.lt_of_lt_of_le hlt (Nat.le_trans hW.2.1 (by decide)))]
                                      have hat := am_conc_at G dA dB al S μ cc
                                      rw [hc] at hat
                                      have e5 : Nat.blt r.2.2.2 50 = true := am_blt.mpr (by omega)
                                      simp only [Option.map_some, am_cell, e5, cond_true] at hat
                                      obtain ⟨q, hq1, hq2⟩ := am_cn_of _ z2
                                      rw [← hq2]
                                      exact va_recv hSt.1 hW.2.2.2.1 hq1 hat
                                    · obtain ⟨z1, z2⟩ := (Bool.and_eq_true _ _).mp hisA
                                      obtain ⟨z2, z3⟩ := (Bool.and_eq_true _ _).mp z2
                                      have z1 := Nat.eq_of_beq_eq_true z1
                                      have z2 := Nat.le_of_ble_eq_true z2
                                      have z3 : cc < 1021 := am_blt.mp z3
                                      rw [z1]
                                      refine ⟨by decide, ?_⟩
                                      rw [am_ad_str z2 (Nat.lt_trans z3 (by decide))]
                                      obtain ⟨cell, g1, g2, g3, -⟩ := (hSt.2.2.2.1 (cc - 1000) ((Nat.sub_lt_iff_lt_add z2).mpr z3)).1.kept hS.2.1
                                      exact ⟨cell, g1, g2, g3⟩
                                  obtain ⟨h98, hrec⟩ := hrec
                                  obtain ⟨hv1, hv2, hv3⟩ := hvi h98
                                  rw [← hv1] at hrec
                                  rcases hlink with hlink | ⟨oc, hoc, hnest⟩
                                  · exact am_go (va_runV (C := (am_Y t r.2.1).cls) (b := am_ad G al cc) (As := a0.map (am_tr G al)) (rest := t2.map (am_tr G al)) hCF hM ⟨callB_of (Ts := am_ws) r.2.2.1 hts (am_good_in hcode) rfl rfl rfl (hts _ hini.mem) (hts _ hlink.mem) ⟨hmh.1, hmh.2, hdesc⟩ ⟨hR1, by show 8 + (_ + 11) + 200 * d' ≤ _; omega⟩, hts _ hv2.mem, hts _ hv3.mem⟩ ⟨am_blind, hrec, fun U hU hWU => ⟨rfl, hworld U hU hWU⟩⟩ rfl (by simpa using hp2) hl.2.1 rfl hcat (hdec.1 (Nat.succ_ne_zero _)) ⟨by omega, by omega⟩) hS (hkk (Nat.succ_ne_zero _) rfl)
                                  · have hnw := hSt.2.2.2.2.2.2.2.2.2 _ hnest
                                    rw [show am_cn (oc, _, r.2.1).1 = am_O t m from hoc.symm] at hnw
                                    exact am_go (va_runVN (C := (am_Y t r.2.1).cls) (b := am_ad G al cc) (As := a0.map (am_tr G al)) (rest := t2.map (am_tr G al)) hCF hM ⟨va_cnB (host := "NowhereMoney") (Ts := am_ws) r.2.2.1 hts (am_good_in hcode) rfl rfl rfl hnw (hts _ hini.mem) ⟨hmh.1, hmh.2, hdesc⟩ ⟨hR1, by show 8 + (_ + 11) + 200 * d' ≤ _; omega⟩, hts _ hv2.mem, hts _ hv3.mem⟩ ⟨am_blind, hrec, fun U hU hWU => ⟨rfl, hworld U hU hWU⟩⟩ rfl (by simpa using hp2) hl.2.1 rfl hcat (hdec.1 (Nat.succ_ne_zero _)) ⟨by omega, by omega⟩) hS (hkk (Nat.succ_ne_zero _) rfl)
                              · cases hcal
                            all_goals (simp only at hcal; cases hcal)
                          · cases hcal
                        · cases hcal
                      · cases h
                    · cases h
              · cases h
end VAR
end
