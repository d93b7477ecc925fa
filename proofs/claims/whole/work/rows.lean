section
-- ===== PART A: goes FIRST, ahead of the names: the tables' words, and 'selects' of the private methods out of them =====
/-- a private method of a class that the tables say can be made, by its rows of tables_1 -/
def lw_okq (q : MethodName × Nat) : Prop := (q.1.cls ≠ "java/lang/invoke/MethodHandle" ∧ q.1.cls ≠ "java/lang/invoke/VarHandle") ∧ Cond.instantiable q.1.cls q.2 ∈ tables_1 ∧ Cond.privateMethod q.1 ∈ tables_1 ∧ Cond.instanceMethod q.1 ∈ tables_1
theorem lw_p0 : lw_okq (⟨"NowhereMoney$Reader", "scan", "(LNowhereMoney$Tape;)V"⟩, 9) := ⟨⟨by decide +kernel, by decide +kernel⟩, List.mem_of_getElem? (i := 47) (by decide +kernel), List.mem_of_getElem? (i := 422) (by decide +kernel), List.mem_of_getElem? (i := 423) (by decide +kernel)⟩
theorem lw_p1 : lw_okq (⟨"NowhereMoney$Reader", "addWord", "(LNowhereMoney$Tape;II)V"⟩, 9) := ⟨⟨by decide +kernel, by decide +kernel⟩, List.mem_of_getElem? (i := 47) (by decide +kernel), List.mem_of_getElem? (i := 429) (by decide +kernel), List.mem_of_getElem? (i := 430) (by decide +kernel)⟩
theorem lw_p2 : lw_okq (⟨"NowhereMoney$Reader", "addToken", "(III)V"⟩, 9) := ⟨⟨by decide +kernel, by decide +kernel⟩, List.mem_of_getElem? (i := 47) (by decide +kernel), List.mem_of_getElem? (i := 510) (by decide +kernel), List.mem_of_getElem? (i := 511) (by decide +kernel)⟩
theorem lw_p3 : lw_okq (⟨"NowhereMoney$Reader", "addNumber", "(LNowhereMoney$Tape;II)V"⟩, 9) := ⟨⟨by decide +kernel, by decide +kernel⟩, List.mem_of_getElem? (i := 47) (by decide +kernel), List.mem_of_getElem? (i := 517) (by decide +kernel), List.mem_of_getElem? (i := 518) (by decide +kernel)⟩
theorem lw_p4 : lw_okq (⟨"NowhereMoney$Reader", "kind", "()I"⟩, 9) := ⟨⟨by decide +kernel, by decide +kernel⟩, List.mem_of_getElem? (i := 47) (by decide +kernel), List.mem_of_getElem? (i := 585) (by decide +kernel), List.mem_of_getElem? (i := 586) (by decide +kernel)⟩
theorem lw_p5 : lw_okq (⟨"NowhereMoney$Reader", "isLineWord", "(I)Z"⟩, 9) := ⟨⟨by decide +kernel, by decide +kernel⟩, List.mem_of_getElem? (i := 47) (by decide +kernel), List.mem_of_getElem? (i := 589) (by decide +kernel), List.mem_of_getElem? (i := 590) (by decide +kernel)⟩
theorem lw_p6 : lw_okq (⟨"NowhereMoney$Reader", "fails", "(I)Z"⟩, 9) := ⟨⟨by decide +kernel, by decide +kernel⟩, List.mem_of_getElem? (i := 47) (by decide +kernel), List.mem_of_getElem? (i := 593) (by decide +kernel), List.mem_of_getElem? (i := 594) (by decide +kernel)⟩
theorem lw_p7 : lw_okq (⟨"NowhereMoney$Reader", "sum", "()Z"⟩, 9) := ⟨⟨by decide +kernel, by decide +kernel⟩, List.mem_of_getElem? (i := 47) (by decide +kernel), List.mem_of_getElem? (i := 601) (by decide +kernel), List.mem_of_getElem? (i := 602) (by decide +kernel)⟩
theorem lw_p8 : lw_okq (⟨"NowhereMoney$Reader", "product", "()Z"⟩, 9) := ⟨⟨by decide +kernel, by decide +kernel⟩, List.mem_of_getElem? (i := 47) (by decide +kernel), List.mem_of_getElem? (i := 605) (by decide +kernel), List.mem_of_getElem? (i := 606) (by decide +kernel)⟩
theorem lw_p9 : lw_okq (⟨"NowhereMoney$Reader", "either", "(I)Z"⟩, 9) := ⟨⟨by decide +kernel, by decide +kernel⟩, List.mem_of_getElem? (i := 47) (by decide +kernel), List.mem_of_getElem? (i := 617) (by decide +kernel), List.mem_of_getElem? (i := 618) (by decide +kernel)⟩
theorem lw_p10 : lw_okq (⟨"NowhereMoney$Reader", "both", "(I)Z"⟩, 9) := ⟨⟨by decide +kernel, by decide +kernel⟩, List.mem_of_getElem? (i := 47) (by decide +kernel), List.mem_of_getElem? (i := 621) (by decide +kernel), List.mem_of_getElem? (i := 622) (by decide +kernel)⟩
theorem lw_p11 : lw_okq (⟨"NowhereMoney$Reader", "single", "(I)Z"⟩, 9) := ⟨⟨by decide +kernel, by decide +kernel⟩, List.mem_of_getElem? (i := 47) (by decide +kernel), List.mem_of_getElem? (i := 625) (by decide +kernel), List.mem_of_getElem? (i := 626) (by decide +kernel)⟩
theorem lw_p12 : lw_okq (⟨"NowhereMoney$Script", "isSo", "(I[I)Z"⟩, 8) := ⟨⟨by decide +kernel, by decide +kernel⟩, List.mem_of_getElem? (i := 53) (by decide +kernel), List.mem_of_getElem? (i := 691) (by decide +kernel), List.mem_of_getElem? (i := 692) (by decide +kernel)⟩
theorem lw_p13 : lw_okq (⟨"NowhereMoney$Script", "run", "(II[I)I"⟩, 8) := ⟨⟨by decide +kernel, by decide +kernel⟩, List.mem_of_getElem? (i := 53) (by decide +kernel), List.mem_of_getElem? (i := 695) (by decide +kernel), List.mem_of_getElem? (i := 696) (by decide +kernel)⟩
theorem lw_p14 : lw_okq (⟨"NowhereMoney$Ledger", "put", "(III)V"⟩, 10) := ⟨⟨by decide +kernel, by decide +kernel⟩, List.mem_of_getElem? (i := 175) (by decide +kernel), List.mem_of_getElem? (i := 730) (by decide +kernel), List.mem_of_getElem? (i := 731) (by decide +kernel)⟩
theorem lw_p15 : lw_okq (⟨"NowhereMoney$Ledger", "rideTrains", "()V"⟩, 10) := ⟨⟨by decide +kernel, by decide +kernel⟩, List.mem_of_getElem? (i := 175) (by decide +kernel), List.mem_of_getElem? (i := 743) (by decide +kernel), List.mem_of_getElem? (i := 744) (by decide +kernel)⟩
def lw_privs_1 : List (MethodName × Nat) := [(⟨"NowhereMoney$Reader", "scan", "(LNowhereMoney$Tape;)V"⟩, 9), (⟨"NowhereMoney$Reader", "addWord", "(LNowhereMoney$Tape;II)V"⟩, 9), (⟨"NowhereMoney$Reader", "addToken", "(III)V"⟩, 9), (⟨"NowhereMoney$Reader", "addNumber", "(LNowhereMoney$Tape;II)V"⟩, 9), (⟨"NowhereMoney$Reader", "kind", "()I"⟩, 9), (⟨"NowhereMoney$Reader", "isLineWord", "(I)Z"⟩, 9), (⟨"NowhereMoney$Reader", "fails", "(I)Z"⟩, 9), (⟨"NowhereMoney$Reader", "sum", "()Z"⟩, 9), (⟨"NowhereMoney$Reader", "product", "()Z"⟩, 9), (⟨"NowhereMoney$Reader", "either", "(I)Z"⟩, 9), (⟨"NowhereMoney$Reader", "both", "(I)Z"⟩, 9), (⟨"NowhereMoney$Reader", "single", "(I)Z"⟩, 9), (⟨"NowhereMoney$Script", "isSo", "(I[I)Z"⟩, 8), (⟨"NowhereMoney$Script", "run", "(II[I)I"⟩, 8), (⟨"NowhereMoney$Ledger", "put", "(III)V"⟩, 10), (⟨"NowhereMoney$Ledger", "rideTrains", "()V"⟩, 10)]
theorem lw_r1 : ∀ q ∈ lw_privs_1, lw_okq q := List.forall_mem_cons.mpr ⟨lw_p0, List.forall_mem_cons.mpr ⟨lw_p1, List.forall_mem_cons.mpr ⟨lw_p2, List.forall_mem_cons.mpr ⟨lw_p3, List.forall_mem_cons.mpr ⟨lw_p4, List.forall_mem_cons.mpr ⟨lw_p5, List.forall_mem_cons.mpr ⟨lw_p6, List.forall_mem_cons.mpr ⟨lw_p7, List.forall_mem_cons.mpr ⟨lw_p8, List.forall_mem_cons.mpr ⟨lw_p9, List.forall_mem_cons.mpr ⟨lw_p10, List.forall_mem_cons.mpr ⟨lw_p11, List.forall_mem_cons.mpr ⟨lw_p12, List.forall_mem_cons.mpr ⟨lw_p13, List.forall_mem_cons.mpr ⟨lw_p14, List.forall_mem_cons.mpr ⟨lw_p15, fun _ h => absurd h List.not_mem_nil⟩⟩⟩⟩⟩⟩⟩⟩⟩⟩⟩⟩⟩⟩⟩⟩
theorem lw_p16 : lw_okq (⟨"NowhereMoney$Ledger", "comeBack", "()V"⟩, 10) := ⟨⟨by decide +kernel, by decide +kernel⟩, List.mem_of_getElem? (i := 175) (by decide +kernel), List.mem_of_getElem? (i := 757) (by decide +kernel), List.mem_of_getElem? (i := 758) (by decide +kernel)⟩
theorem lw_p17 : lw_okq (⟨"NowhereMoney$Ledger", "listAsked", "(II)I"⟩, 10) := ⟨⟨by decide +kernel, by decide +kernel⟩, List.mem_of_getElem? (i := 175) (by decide +kernel), List.mem_of_getElem? (i := 761) (by decide +kernel), List.mem_of_getElem? (i := 762) (by decide +kernel)⟩
theorem lw_p18 : lw_okq (⟨"NowhereMoney$Ledger", "isAhead", "(III)Z"⟩, 10) := ⟨⟨by decide +kernel, by decide +kernel⟩, List.mem_of_getElem? (i := 175) (by decide +kernel), List.mem_of_getElem? (i := 765) (by decide +kernel), List.mem_of_getElem? (i := 766) (by decide +kernel)⟩
theorem lw_p19 : lw_okq (⟨"NowhereMoney$Ledger", "askFor", "(I)Z"⟩, 10) := ⟨⟨by decide +kernel, by decide +kernel⟩, List.mem_of_getElem? (i := 175) (by decide +kernel), List.mem_of_getElem? (i := 769) (by decide +kernel), List.mem_of_getElem? (i := 770) (by decide +kernel)⟩
theorem lw_p20 : lw_okq (⟨"NowhereMoney$Watch", "isAmong", "(III)Z"⟩, 2) := ⟨⟨by decide +kernel, by decide +kernel⟩, List.mem_of_getElem? (i := 270) (by decide +kernel), List.mem_of_getElem? (i := 799) (by decide +kernel), List.mem_of_getElem? (i := 800) (by decide +kernel)⟩
theorem lw_p21 : lw_okq (⟨"NowhereMoney$Watch", "hasMatch", "(III)Z"⟩, 2) := ⟨⟨by decide +kernel, by decide +kernel⟩, List.mem_of_getElem? (i := 270) (by decide +kernel), List.mem_of_getElem? (i := 805) (by decide +kernel), List.mem_of_getElem? (i := 806) (by decide +kernel)⟩
theorem lw_p22 : lw_okq (⟨"NowhereMoney$Watch", "lowOf", "(III)I"⟩, 2) := ⟨⟨by decide +kernel, by decide +kernel⟩, List.mem_of_getElem? (i := 270) (by decide +kernel), List.mem_of_getElem? (i := 813) (by decide +kernel), List.mem_of_getElem? (i := 814) (by decide +kernel)⟩
theorem lw_p23 : lw_okq (⟨"NowhereMoney", "isCheque", "(I)Z"⟩, 15) := ⟨⟨by decide +kernel, by decide +kernel⟩, List.mem_of_getElem? (i := 22) (by decide +kernel), List.mem_of_getElem? (i := 837) (by decide +kernel), List.mem_of_getElem? (i := 838) (by decide +kernel)⟩
theorem lw_p24 : lw_okq (⟨"NowhereMoney", "isBusinessDay", "(I)Z"⟩, 15) := ⟨⟨by decide +kernel, by decide +kernel⟩, List.mem_of_getElem? (i := 22) (by decide +kernel), List.mem_of_getElem? (i := 870) (by decide +kernel), List.mem_of_getElem? (i := 871) (by decide +kernel)⟩
theorem lw_p25 : lw_okq (⟨"NowhereMoney", "isRing", "(III)Z"⟩, 15) := ⟨⟨by decide +kernel, by decide +kernel⟩, List.mem_of_getElem? (i := 22) (by decide +kernel), List.mem_of_getElem? (i := 885) (by decide +kernel), List.mem_of_getElem? (i := 886) (by decide +kernel)⟩
theorem lw_p26 : lw_okq (⟨"NowhereMoney", "fillRings", "(III)V"⟩, 15) := ⟨⟨by decide +kernel, by decide +kernel⟩, List.mem_of_getElem? (i := 22) (by decide +kernel), List.mem_of_getElem? (i := 889) (by decide +kernel), List.mem_of_getElem? (i := 890) (by decide +kernel)⟩
theorem lw_p27 : lw_okq (⟨"NowhereMoney$Rings", "unfold", "(II)Z"⟩, 4) := ⟨⟨by decide +kernel, by decide +kernel⟩, List.mem_of_getElem? (i := 284) (by decide +kernel), List.mem_of_getElem? (i := 898) (by decide +kernel), List.mem_of_getElem? (i := 899) (by decide +kernel)⟩
theorem lw_p28 : lw_okq (⟨"NowhereMoney", "thinkEnd", "(I)I"⟩, 15) := ⟨⟨by decide +kernel, by decide +kernel⟩, List.mem_of_getElem? (i := 22) (by decide +kernel), List.mem_of_getElem? (i := 982) (by decide +kernel), List.mem_of_getElem? (i := 983) (by decide +kernel)⟩
theorem lw_p29 : lw_okq (⟨"NowhereMoney$Ways", "isWay", "(LNowhereMoney$World;I)Z"⟩, 6) := ⟨⟨by decide +kernel, by decide +kernel⟩, List.mem_of_getElem? (i := 306) (by decide +kernel), List.mem_of_getElem? (i := 1019) (by decide +kernel), List.mem_of_getElem? (i := 1020) (by decide +kernel)⟩
theorem lw_p30 : lw_okq (⟨"NowhereMoney$Ways", "floatOf", "(LNowhereMoney$World;I)I"⟩, 6) := ⟨⟨by decide +kernel, by decide +kernel⟩, List.mem_of_getElem? (i := 306) (by decide +kernel), List.mem_of_getElem? (i := 1027) (by decide +kernel), List.mem_of_getElem? (i := 1028) (by decide +kernel)⟩
theorem lw_p31 : lw_okq (⟨"NowhereMoney", "netOut", "(I)V"⟩, 15) := ⟨⟨by decide +kernel, by decide +kernel⟩, List.mem_of_getElem? (i := 22) (by decide +kernel), List.mem_of_getElem? (i := 1036) (by decide +kernel), List.mem_of_getElem? (i := 1037) (by decide +kernel)⟩
def lw_privs_2 : List (MethodName × Nat) := [(⟨"NowhereMoney$Ledger", "comeBack", "()V"⟩, 10), (⟨"NowhereMoney$Ledger", "listAsked", "(II)I"⟩, 10), (⟨"NowhereMoney$Ledger", "isAhead", "(III)Z"⟩, 10), (⟨"NowhereMoney$Ledger", "askFor", "(I)Z"⟩, 10), (⟨"NowhereMoney$Watch", "isAmong", "(III)Z"⟩, 2), (⟨"NowhereMoney$Watch", "hasMatch", "(III)Z"⟩, 2), (⟨"NowhereMoney$Watch", "lowOf", "(III)I"⟩, 2), (⟨"NowhereMoney", "isCheque", "(I)Z"⟩, 15), (⟨"NowhereMoney", "isBusinessDay", "(I)Z"⟩, 15), (⟨"NowhereMoney", "isRing", "(III)Z"⟩, 15), (⟨"NowhereMoney", "fillRings", "(III)V"⟩, 15), (⟨"NowhereMoney$Rings", "unfold", "(II)Z"⟩, 4), (⟨"NowhereMoney", "thinkEnd", "(I)I"⟩, 15), (⟨"NowhereMoney$Ways", "isWay", "(LNowhereMoney$World;I)Z"⟩, 6), (⟨"NowhereMoney$Ways", "floatOf", "(LNowhereMoney$World;I)I"⟩, 6), (⟨"NowhereMoney", "netOut", "(I)V"⟩, 15)]
theorem lw_r2 : ∀ q ∈ lw_privs_2, lw_okq q := List.forall_mem_cons.mpr ⟨lw_p16, List.forall_mem_cons.mpr ⟨lw_p17, List.forall_mem_cons.mpr ⟨lw_p18, List.forall_mem_cons.mpr ⟨lw_p19, List.forall_mem_cons.mpr ⟨lw_p20, List.forall_mem_cons.mpr ⟨lw_p21, List.forall_mem_cons.mpr ⟨lw_p22, List.forall_mem_cons.mpr ⟨lw_p23, List.forall_mem_cons.mpr ⟨lw_p24, List.forall_mem_cons.mpr ⟨lw_p25, List.forall_mem_cons.mpr ⟨lw_p26, List.forall_mem_cons.mpr ⟨lw_p27, List.forall_mem_cons.mpr ⟨lw_p28, List.forall_mem_cons.mpr ⟨lw_p29, List.forall_mem_cons.mpr ⟨lw_p30, List.forall_mem_cons.mpr ⟨lw_p31, fun _ h => absurd h List.not_mem_nil⟩⟩⟩⟩⟩⟩⟩⟩⟩⟩⟩⟩⟩⟩⟩⟩
theorem lw_p32 : lw_okq (⟨"NowhereMoney", "roundOfRoom", "()I"⟩, 15) := ⟨⟨by decide +kernel, by decide +kernel⟩, List.mem_of_getElem? (i := 22) (by decide +kernel), List.mem_of_getElem? (i := 1040) (by decide +kernel), List.mem_of_getElem? (i := 1041) (by decide +kernel)⟩
theorem lw_p33 : lw_okq (⟨"NowhereMoneyModel", "next0", "()V"⟩, 31) := ⟨⟨by decide +kernel, by decide +kernel⟩, List.mem_of_getElem? (i := 1086) (by decide +kernel), List.mem_of_getElem? (i := 1216) (by decide +kernel), List.mem_of_getElem? (i := 1217) (by decide +kernel)⟩
theorem lw_p34 : lw_okq (⟨"NowhereMoneyModel", "see", "(I)I"⟩, 31) := ⟨⟨by decide +kernel, by decide +kernel⟩, List.mem_of_getElem? (i := 1086) (by decide +kernel), List.mem_of_getElem? (i := 1220) (by decide +kernel), List.mem_of_getElem? (i := 1221) (by decide +kernel)⟩
theorem lw_p35 : lw_okq (⟨"NowhereMoneyModel", "word", "()I"⟩, 31) := ⟨⟨by decide +kernel, by decide +kernel⟩, List.mem_of_getElem? (i := 1086) (by decide +kernel), List.mem_of_getElem? (i := 1227) (by decide +kernel), List.mem_of_getElem? (i := 1228) (by decide +kernel)⟩
theorem lw_p36 : lw_okq (⟨"NowhereMoneyModel", "is", "(Ljava/lang/String;)Z"⟩, 31) := ⟨⟨by decide +kernel, by decide +kernel⟩, List.mem_of_getElem? (i := 1086) (by decide +kernel), List.mem_of_getElem? (i := 1232) (by decide +kernel), List.mem_of_getElem? (i := 1233) (by decide +kernel)⟩
theorem lw_p37 : lw_okq (⟨"NowhereMoneyModel", "lawWord", "()I"⟩, 31) := ⟨⟨by decide +kernel, by decide +kernel⟩, List.mem_of_getElem? (i := 1086) (by decide +kernel), List.mem_of_getElem? (i := 1244) (by decide +kernel), List.mem_of_getElem? (i := 1245) (by decide +kernel)⟩
theorem lw_p38 : lw_okq (⟨"NowhereMoneyModel", "signWord", "()I"⟩, 31) := ⟨⟨by decide +kernel, by decide +kernel⟩, List.mem_of_getElem? (i := 1086) (by decide +kernel), List.mem_of_getElem? (i := 1255) (by decide +kernel), List.mem_of_getElem? (i := 1256) (by decide +kernel)⟩
theorem lw_p39 : lw_okq (⟨"NowhereMoneyModel", "aLine", "()Z"⟩, 31) := ⟨⟨by decide +kernel, by decide +kernel⟩, List.mem_of_getElem? (i := 1086) (by decide +kernel), List.mem_of_getElem? (i := 1267) (by decide +kernel), List.mem_of_getElem? (i := 1268) (by decide +kernel)⟩
theorem lw_p40 : lw_okq (⟨"NowhereMoneyModel", "bad", "(I)Z"⟩, 31) := ⟨⟨by decide +kernel, by decide +kernel⟩, List.mem_of_getElem? (i := 1086) (by decide +kernel), List.mem_of_getElem? (i := 1271) (by decide +kernel), List.mem_of_getElem? (i := 1272) (by decide +kernel)⟩
theorem lw_p41 : lw_okq (⟨"NowhereMoneyModel", "sumUp", "()Z"⟩, 31) := ⟨⟨by decide +kernel, by decide +kernel⟩, List.mem_of_getElem? (i := 1086) (by decide +kernel), List.mem_of_getElem? (i := 1275) (by decide +kernel), List.mem_of_getElem? (i := 1276) (by decide +kernel)⟩
theorem lw_p42 : lw_okq (⟨"NowhereMoneyModel", "product", "()Z"⟩, 31) := ⟨⟨by decide +kernel, by decide +kernel⟩, List.mem_of_getElem? (i := 1086) (by decide +kernel), List.mem_of_getElem? (i := 1279) (by decide +kernel), List.mem_of_getElem? (i := 1280) (by decide +kernel)⟩
theorem lw_p43 : lw_okq (⟨"NowhereMoneyModel", "unit", "()Z"⟩, 31) := ⟨⟨by decide +kernel, by decide +kernel⟩, List.mem_of_getElem? (i := 1086) (by decide +kernel), List.mem_of_getElem? (i := 1283) (by decide +kernel), List.mem_of_getElem? (i := 1284) (by decide +kernel)⟩
theorem lw_p44 : lw_okq (⟨"NowhereMoneyModel", "lay", "(II)V"⟩, 31) := ⟨⟨by decide +kernel, by decide +kernel⟩, List.mem_of_getElem? (i := 1086) (by decide +kernel), List.mem_of_getElem? (i := 1287) (by decide +kernel), List.mem_of_getElem? (i := 1288) (by decide +kernel)⟩
theorem lw_p45 : lw_okq (⟨"NowhereMoneyModel", "need", "(I)Z"⟩, 31) := ⟨⟨by decide +kernel, by decide +kernel⟩, List.mem_of_getElem? (i := 1086) (by decide +kernel), List.mem_of_getElem? (i := 1291) (by decide +kernel), List.mem_of_getElem? (i := 1292) (by decide +kernel)⟩
theorem lw_p46 : lw_okq (⟨"NowhereMoneyModel", "any", "()Z"⟩, 31) := ⟨⟨by decide +kernel, by decide +kernel⟩, List.mem_of_getElem? (i := 1086) (by decide +kernel), List.mem_of_getElem? (i := 1295) (by decide +kernel), List.mem_of_getElem? (i := 1296) (by decide +kernel)⟩
theorem lw_p47 : lw_okq (⟨"NowhereMoneyModel", "every", "()Z"⟩, 31) := ⟨⟨by decide +kernel, by decide +kernel⟩, List.mem_of_getElem? (i := 1086) (by decide +kernel), List.mem_of_getElem? (i := 1299) (by decide +kernel), List.mem_of_getElem? (i := 1300) (by decide +kernel)⟩
def lw_privs_3 : List (MethodName × Nat) := [(⟨"NowhereMoney", "roundOfRoom", "()I"⟩, 15), (⟨"NowhereMoneyModel", "next0", "()V"⟩, 31), (⟨"NowhereMoneyModel", "see", "(I)I"⟩, 31), (⟨"NowhereMoneyModel", "word", "()I"⟩, 31), (⟨"NowhereMoneyModel", "is", "(Ljava/lang/String;)Z"⟩, 31), (⟨"NowhereMoneyModel", "lawWord", "()I"⟩, 31), (⟨"NowhereMoneyModel", "signWord", "()I"⟩, 31), (⟨"NowhereMoneyModel", "aLine", "()Z"⟩, 31), (⟨"NowhereMoneyModel", "bad", "(I)Z"⟩, 31), (⟨"NowhereMoneyModel", "sumUp", "()Z"⟩, 31), (⟨"NowhereMoneyModel", "product", "()Z"⟩, 31), (⟨"NowhereMoneyModel", "unit", "()Z"⟩, 31), (⟨"NowhereMoneyModel", "lay", "(II)V"⟩, 31), (⟨"NowhereMoneyModel", "need", "(I)Z"⟩, 31), (⟨"NowhereMoneyModel", "any", "()Z"⟩, 31), (⟨"NowhereMoneyModel", "every", "()Z"⟩, 31)]
theorem lw_r3 : ∀ q ∈ lw_privs_3, lw_okq q := List.forall_mem_cons.mpr ⟨lw_p32, List.forall_mem_cons.mpr ⟨lw_p33, List.forall_mem_cons.mpr ⟨lw_p34, List.forall_mem_cons.mpr ⟨lw_p35, List.forall_mem_cons.mpr ⟨lw_p36, List.forall_mem_cons.mpr ⟨lw_p37, List.forall_mem_cons.mpr ⟨lw_p38, List.forall_mem_cons.mpr ⟨lw_p39, List.forall_mem_cons.mpr ⟨lw_p40, List.forall_mem_cons.mpr ⟨lw_p41, List.forall_mem_cons.mpr ⟨lw_p42, List.forall_mem_cons.mpr ⟨lw_p43, List.forall_mem_cons.mpr ⟨lw_p44, List.forall_mem_cons.mpr ⟨lw_p45, List.forall_mem_cons.mpr ⟨lw_p46, List.forall_mem_cons.mpr ⟨lw_p47, fun _ h => absurd h List.not_mem_nil⟩⟩⟩⟩⟩⟩⟩⟩⟩⟩⟩⟩⟩⟩⟩⟩
theorem lw_p48 : lw_okq (⟨"NowhereMoneyModel", "one", "()Z"⟩, 31) := ⟨⟨by decide +kernel, by decide +kernel⟩, List.mem_of_getElem? (i := 1086) (by decide +kernel), List.mem_of_getElem? (i := 1303) (by decide +kernel), List.mem_of_getElem? (i := 1304) (by decide +kernel)⟩
theorem lw_p49 : lw_okq (⟨"NowhereMoneyModel", "opens", "()Z"⟩, 31) := ⟨⟨by decide +kernel, by decide +kernel⟩, List.mem_of_getElem? (i := 1086) (by decide +kernel), List.mem_of_getElem? (i := 1307) (by decide +kernel), List.mem_of_getElem? (i := 1308) (by decide +kernel)⟩
theorem lw_p50 : lw_okq (⟨"NowhereMoneyModel", "isBusiness", "(I)Z"⟩, 31) := ⟨⟨by decide +kernel, by decide +kernel⟩, List.mem_of_getElem? (i := 1086) (by decide +kernel), List.mem_of_getElem? (i := 1329) (by decide +kernel), List.mem_of_getElem? (i := 1330) (by decide +kernel)⟩
theorem lw_p51 : lw_okq (⟨"NowhereMoneyModel", "gathers", "(IIIIZI)V"⟩, 31) := ⟨⟨by decide +kernel, by decide +kernel⟩, List.mem_of_getElem? (i := 1086) (by decide +kernel), List.mem_of_getElem? (i := 1333) (by decide +kernel), List.mem_of_getElem? (i := 1334) (by decide +kernel)⟩
theorem lw_p52 : lw_okq (⟨"NowhereMoneyModel", "countOf", "(II)I"⟩, 31) := ⟨⟨by decide +kernel, by decide +kernel⟩, List.mem_of_getElem? (i := 1086) (by decide +kernel), List.mem_of_getElem? (i := 1337) (by decide +kernel), List.mem_of_getElem? (i := 1338) (by decide +kernel)⟩
theorem lw_p53 : lw_okq (⟨"NowhereMoneyModel", "of", "(II)I"⟩, 31) := ⟨⟨by decide +kernel, by decide +kernel⟩, List.mem_of_getElem? (i := 1086) (by decide +kernel), List.mem_of_getElem? (i := 1341) (by decide +kernel), List.mem_of_getElem? (i := 1342) (by decide +kernel)⟩
theorem lw_p54 : lw_okq (⟨"NowhereMoneyModel", "usable", "(II)I"⟩, 31) := ⟨⟨by decide +kernel, by decide +kernel⟩, List.mem_of_getElem? (i := 1086) (by decide +kernel), List.mem_of_getElem? (i := 1345) (by decide +kernel), List.mem_of_getElem? (i := 1346) (by decide +kernel)⟩
theorem lw_p55 : lw_okq (⟨"NowhereMoneyModel", "heldOf", "(II)I"⟩, 31) := ⟨⟨by decide +kernel, by decide +kernel⟩, List.mem_of_getElem? (i := 1086) (by decide +kernel), List.mem_of_getElem? (i := 1349) (by decide +kernel), List.mem_of_getElem? (i := 1350) (by decide +kernel)⟩
theorem lw_p56 : lw_okq (⟨"NowhereMoneyModel", "tells", "(II)I"⟩, 31) := ⟨⟨by decide +kernel, by decide +kernel⟩, List.mem_of_getElem? (i := 1086) (by decide +kernel), List.mem_of_getElem? (i := 1353) (by decide +kernel), List.mem_of_getElem? (i := 1354) (by decide +kernel)⟩
theorem lw_p57 : lw_okq (⟨"NowhereMoneyModel", "comesTo", "(III)I"⟩, 31) := ⟨⟨by decide +kernel, by decide +kernel⟩, List.mem_of_getElem? (i := 1086) (by decide +kernel), List.mem_of_getElem? (i := 1357) (by decide +kernel), List.mem_of_getElem? (i := 1358) (by decide +kernel)⟩
theorem lw_p58 : lw_okq (⟨"NowhereMoneyModel", "books", "(IIIII)V"⟩, 31) := ⟨⟨by decide +kernel, by decide +kernel⟩, List.mem_of_getElem? (i := 1086) (by decide +kernel), List.mem_of_getElem? (i := 1364) (by decide +kernel), List.mem_of_getElem? (i := 1365) (by decide +kernel)⟩
theorem lw_p59 : lw_okq (⟨"NowhereMoneyModel", "railBetween", "(II)I"⟩, 31) := ⟨⟨by decide +kernel, by decide +kernel⟩, List.mem_of_getElem? (i := 1086) (by decide +kernel), List.mem_of_getElem? (i := 1373) (by decide +kernel), List.mem_of_getElem? (i := 1374) (by decide +kernel)⟩
theorem lw_p60 : lw_okq (⟨"NowhereMoneyModel", "isFar", "(II)Z"⟩, 31) := ⟨⟨by decide +kernel, by decide +kernel⟩, List.mem_of_getElem? (i := 1086) (by decide +kernel), List.mem_of_getElem? (i := 1377) (by decide +kernel), List.mem_of_getElem? (i := 1378) (by decide +kernel)⟩
theorem lw_p61 : lw_okq (⟨"NowhereMoneyModel", "restsOn", "(I)I"⟩, 31) := ⟨⟨by decide +kernel, by decide +kernel⟩, List.mem_of_getElem? (i := 1086) (by decide +kernel), List.mem_of_getElem? (i := 1393) (by decide +kernel), List.mem_of_getElem? (i := 1394) (by decide +kernel)⟩
theorem lw_p62 : lw_okq (⟨"NowhereMoneyModel", "booksOf", "(I)I"⟩, 31) := ⟨⟨by decide +kernel, by decide +kernel⟩, List.mem_of_getElem? (i := 1086) (by decide +kernel), List.mem_of_getElem? (i := 1401) (by decide +kernel), List.mem_of_getElem? (i := 1402) (by decide +kernel)⟩
theorem lw_p63 : lw_okq (⟨"NowhereMoneyModel", "waterOf", "(I)I"⟩, 31) := ⟨⟨by decide +kernel, by decide +kernel⟩, List.mem_of_getElem? (i := 1086) (by decide +kernel), List.mem_of_getElem? (i := 1405) (by decide +kernel), List.mem_of_getElem? (i := 1406) (by decide +kernel)⟩
def lw_privs_4 : List (MethodName × Nat) := [(⟨"NowhereMoneyModel", "one", "()Z"⟩, 31), (⟨"NowhereMoneyModel", "opens", "()Z"⟩, 31), (⟨"NowhereMoneyModel", "isBusiness", "(I)Z"⟩, 31), (⟨"NowhereMoneyModel", "gathers", "(IIIIZI)V"⟩, 31), (⟨"NowhereMoneyModel", "countOf", "(II)I"⟩, 31), (⟨"NowhereMoneyModel", "of", "(II)I"⟩, 31), (⟨"NowhereMoneyModel", "usable", "(II)I"⟩, 31), (⟨"NowhereMoneyModel", "heldOf", "(II)I"⟩, 31), (⟨"NowhereMoneyModel", "tells", "(II)I"⟩, 31), (⟨"NowhereMoneyModel", "comesTo", "(III)I"⟩, 31), (⟨"NowhereMoneyModel", "books", "(IIIII)V"⟩, 31), (⟨"NowhereMoneyModel", "railBetween", "(II)I"⟩, 31), (⟨"NowhereMoneyModel", "isFar", "(II)Z"⟩, 31), (⟨"NowhereMoneyModel", "restsOn", "(I)I"⟩, 31), (⟨"NowhereMoneyModel", "booksOf", "(I)I"⟩, 31), (⟨"NowhereMoneyModel", "waterOf", "(I)I"⟩, 31)]
theorem lw_r4 : ∀ q ∈ lw_privs_4, lw_okq q := List.forall_mem_cons.mpr ⟨lw_p48, List.forall_mem_cons.mpr ⟨lw_p49, List.forall_mem_cons.mpr ⟨lw_p50, List.forall_mem_cons.mpr ⟨lw_p51, List.forall_mem_cons.mpr ⟨lw_p52, List.forall_mem_cons.mpr ⟨lw_p53, List.forall_mem_cons.mpr ⟨lw_p54, List.forall_mem_cons.mpr ⟨lw_p55, List.forall_mem_cons.mpr ⟨lw_p56, List.forall_mem_cons.mpr ⟨lw_p57, List.forall_mem_cons.mpr ⟨lw_p58, List.forall_mem_cons.mpr ⟨lw_p59, List.forall_mem_cons.mpr ⟨lw_p60, List.forall_mem_cons.mpr ⟨lw_p61, List.forall_mem_cons.mpr ⟨lw_p62, List.forall_mem_cons.mpr ⟨lw_p63, fun _ h => absurd h List.not_mem_nil⟩⟩⟩⟩⟩⟩⟩⟩⟩⟩⟩⟩⟩⟩⟩⟩
theorem lw_p64 : lw_okq (⟨"NowhereMoneyModel", "flying", "(Z)I"⟩, 31) := ⟨⟨by decide +kernel, by decide +kernel⟩, List.mem_of_getElem? (i := 1086) (by decide +kernel), List.mem_of_getElem? (i := 1417) (by decide +kernel), List.mem_of_getElem? (i := 1418) (by decide +kernel)⟩
theorem lw_p65 : lw_okq (⟨"NowhereMoneyModel", "isFlying", "(I)Z"⟩, 31) := ⟨⟨by decide +kernel, by decide +kernel⟩, List.mem_of_getElem? (i := 1086) (by decide +kernel), List.mem_of_getElem? (i := 1421) (by decide +kernel), List.mem_of_getElem? (i := 1422) (by decide +kernel)⟩
theorem lw_p66 : lw_okq (⟨"NowhereMoneyModel", "morning", "(I)I"⟩, 31) := ⟨⟨by decide +kernel, by decide +kernel⟩, List.mem_of_getElem? (i := 1086) (by decide +kernel), List.mem_of_getElem? (i := 1429) (by decide +kernel), List.mem_of_getElem? (i := 1430) (by decide +kernel)⟩
theorem lw_p67 : lw_okq (⟨"NowhereMoneyModel", "hasTrain", "(I)Z"⟩, 31) := ⟨⟨by decide +kernel, by decide +kernel⟩, List.mem_of_getElem? (i := 1086) (by decide +kernel), List.mem_of_getElem? (i := 1433) (by decide +kernel), List.mem_of_getElem? (i := 1434) (by decide +kernel)⟩
theorem lw_p68 : lw_okq (⟨"NowhereMoneyModel", "isDue", "(II)Z"⟩, 31) := ⟨⟨by decide +kernel, by decide +kernel⟩, List.mem_of_getElem? (i := 1086) (by decide +kernel), List.mem_of_getElem? (i := 1437) (by decide +kernel), List.mem_of_getElem? (i := 1438) (by decide +kernel)⟩
theorem lw_p69 : lw_okq (⟨"NowhereMoneyModel", "gathersAsked", "(II)V"⟩, 31) := ⟨⟨by decide +kernel, by decide +kernel⟩, List.mem_of_getElem? (i := 1086) (by decide +kernel), List.mem_of_getElem? (i := 1441) (by decide +kernel), List.mem_of_getElem? (i := 1442) (by decide +kernel)⟩
theorem lw_p70 : lw_okq (⟨"NowhereMoneyModel", "isBehind", "(III)Z"⟩, 31) := ⟨⟨by decide +kernel, by decide +kernel⟩, List.mem_of_getElem? (i := 1086) (by decide +kernel), List.mem_of_getElem? (i := 1445) (by decide +kernel), List.mem_of_getElem? (i := 1446) (by decide +kernel)⟩
theorem lw_p71 : lw_okq (⟨"NowhereMoneyModel", "isReturned", "(I)Z"⟩, 31) := ⟨⟨by decide +kernel, by decide +kernel⟩, List.mem_of_getElem? (i := 1086) (by decide +kernel), List.mem_of_getElem? (i := 1449) (by decide +kernel), List.mem_of_getElem? (i := 1450) (by decide +kernel)⟩
theorem lw_p72 : lw_okq (⟨"NowhereMoneyModel", "gathersOf", "(III)V"⟩, 31) := ⟨⟨by decide +kernel, by decide +kernel⟩, List.mem_of_getElem? (i := 1086) (by decide +kernel), List.mem_of_getElem? (i := 1453) (by decide +kernel), List.mem_of_getElem? (i := 1454) (by decide +kernel)⟩
theorem lw_p73 : lw_okq (⟨"NowhereMoneyModel", "cryOf", "(II)Z"⟩, 31) := ⟨⟨by decide +kernel, by decide +kernel⟩, List.mem_of_getElem? (i := 1086) (by decide +kernel), List.mem_of_getElem? (i := 1457) (by decide +kernel), List.mem_of_getElem? (i := 1458) (by decide +kernel)⟩
theorem lw_p74 : lw_okq (⟨"NowhereMoneyModel", "signs", "(II)V"⟩, 31) := ⟨⟨by decide +kernel, by decide +kernel⟩, List.mem_of_getElem? (i := 1086) (by decide +kernel), List.mem_of_getElem? (i := 1461) (by decide +kernel), List.mem_of_getElem? (i := 1462) (by decide +kernel)⟩
theorem lw_p75 : lw_okq (⟨"NowhereMoneyModel", "isMatched", "(I)Z"⟩, 31) := ⟨⟨by decide +kernel, by decide +kernel⟩, List.mem_of_getElem? (i := 1086) (by decide +kernel), List.mem_of_getElem? (i := 1465) (by decide +kernel), List.mem_of_getElem? (i := 1466) (by decide +kernel)⟩
theorem lw_p76 : lw_okq (⟨"NowhereMoneyModel", "isDay", "(I)Z"⟩, 31) := ⟨⟨by decide +kernel, by decide +kernel⟩, List.mem_of_getElem? (i := 1086) (by decide +kernel), List.mem_of_getElem? (i := 1476) (by decide +kernel), List.mem_of_getElem? (i := 1477) (by decide +kernel)⟩
theorem lw_p77 : lw_okq (⟨"NowhereMoneyModel", "flightOf", "(III)I"⟩, 31) := ⟨⟨by decide +kernel, by decide +kernel⟩, List.mem_of_getElem? (i := 1086) (by decide +kernel), List.mem_of_getElem? (i := 1480) (by decide +kernel), List.mem_of_getElem? (i := 1481) (by decide +kernel)⟩
theorem lw_p78 : lw_okq (⟨"NowhereMoneyModel", "rings", "(IIIII)V"⟩, 31) := ⟨⟨by decide +kernel, by decide +kernel⟩, List.mem_of_getElem? (i := 1086) (by decide +kernel), List.mem_of_getElem? (i := 1488) (by decide +kernel), List.mem_of_getElem? (i := 1489) (by decide +kernel)⟩
theorem lw_p79 : lw_okq (⟨"NowhereMoneyModel", "holdsUp", "(IIII)I"⟩, 31) := ⟨⟨by decide +kernel, by decide +kernel⟩, List.mem_of_getElem? (i := 1086) (by decide +kernel), List.mem_of_getElem? (i := 1492) (by decide +kernel), List.mem_of_getElem? (i := 1493) (by decide +kernel)⟩
def lw_privs_5 : List (MethodName × Nat) := [(⟨"NowhereMoneyModel", "flying", "(Z)I"⟩, 31), (⟨"NowhereMoneyModel", "isFlying", "(I)Z"⟩, 31), (⟨"NowhereMoneyModel", "morning", "(I)I"⟩, 31), (⟨"NowhereMoneyModel", "hasTrain", "(I)Z"⟩, 31), (⟨"NowhereMoneyModel", "isDue", "(II)Z"⟩, 31), (⟨"NowhereMoneyModel", "gathersAsked", "(II)V"⟩, 31), (⟨"NowhereMoneyModel", "isBehind", "(III)Z"⟩, 31), (⟨"NowhereMoneyModel", "isReturned", "(I)Z"⟩, 31), (⟨"NowhereMoneyModel", "gathersOf", "(III)V"⟩, 31), (⟨"NowhereMoneyModel", "cryOf", "(II)Z"⟩, 31), (⟨"NowhereMoneyModel", "signs", "(II)V"⟩, 31), (⟨"NowhereMoneyModel", "isMatched", "(I)Z"⟩, 31), (⟨"NowhereMoneyModel", "isDay", "(I)Z"⟩, 31), (⟨"NowhereMoneyModel", "flightOf", "(III)I"⟩, 31), (⟨"NowhereMoneyModel", "rings", "(IIIII)V"⟩, 31), (⟨"NowhereMoneyModel", "holdsUp", "(IIII)I"⟩, 31)]
theorem lw_r5 : ∀ q ∈ lw_privs_5, lw_okq q := List.forall_mem_cons.mpr ⟨lw_p64, List.forall_mem_cons.mpr ⟨lw_p65, List.forall_mem_cons.mpr ⟨lw_p66, List.forall_mem_cons.mpr ⟨lw_p67, List.forall_mem_cons.mpr ⟨lw_p68, List.forall_mem_cons.mpr ⟨lw_p69, List.forall_mem_cons.mpr ⟨lw_p70, List.forall_mem_cons.mpr ⟨lw_p71, List.forall_mem_cons.mpr ⟨lw_p72, List.forall_mem_cons.mpr ⟨lw_p73, List.forall_mem_cons.mpr ⟨lw_p74, List.forall_mem_cons.mpr ⟨lw_p75, List.forall_mem_cons.mpr ⟨lw_p76, List.forall_mem_cons.mpr ⟨lw_p77, List.forall_mem_cons.mpr ⟨lw_p78, List.forall_mem_cons.mpr ⟨lw_p79, fun _ h => absurd h List.not_mem_nil⟩⟩⟩⟩⟩⟩⟩⟩⟩⟩⟩⟩⟩⟩⟩⟩
theorem lw_p80 : lw_okq (⟨"NowhereMoneyModel", "ends", "(II)I"⟩, 31) := ⟨⟨by decide +kernel, by decide +kernel⟩, List.mem_of_getElem? (i := 1086) (by decide +kernel), List.mem_of_getElem? (i := 1539) (by decide +kernel), List.mem_of_getElem? (i := 1540) (by decide +kernel)⟩
theorem lw_p81 : lw_okq (⟨"NowhereMoneyModel", "lossOfAll", "()I"⟩, 31) := ⟨⟨by decide +kernel, by decide +kernel⟩, List.mem_of_getElem? (i := 1086) (by decide +kernel), List.mem_of_getElem? (i := 1543) (by decide +kernel), List.mem_of_getElem? (i := 1544) (by decide +kernel)⟩
theorem lw_p82 : lw_okq (⟨"NowhereMoneyModel", "lossOf", "(I)I"⟩, 31) := ⟨⟨by decide +kernel, by decide +kernel⟩, List.mem_of_getElem? (i := 1086) (by decide +kernel), List.mem_of_getElem? (i := 1547) (by decide +kernel), List.mem_of_getElem? (i := 1548) (by decide +kernel)⟩
theorem lw_p83 : lw_okq (⟨"NowhereMoneyModel", "floats", "(II)I"⟩, 31) := ⟨⟨by decide +kernel, by decide +kernel⟩, List.mem_of_getElem? (i := 1086) (by decide +kernel), List.mem_of_getElem? (i := 1563) (by decide +kernel), List.mem_of_getElem? (i := 1564) (by decide +kernel)⟩
def lw_privs_6 : List (MethodName × Nat) := [(⟨"NowhereMoneyModel", "ends", "(II)I"⟩, 31), (⟨"NowhereMoneyModel", "lossOfAll", "()I"⟩, 31), (⟨"NowhereMoneyModel", "lossOf", "(I)I"⟩, 31), (⟨"NowhereMoneyModel", "floats", "(II)I"⟩, 31)]
theorem lw_r6 : ∀ q ∈ lw_privs_6, lw_okq q := List.forall_mem_cons.mpr ⟨lw_p80, List.forall_mem_cons.mpr ⟨lw_p81, List.forall_mem_cons.mpr ⟨lw_p82, List.forall_mem_cons.mpr ⟨lw_p83, fun _ h => absurd h List.not_mem_nil⟩⟩⟩⟩
def lw_privs : List (MethodName × Nat) := lw_privs_1 ++ (lw_privs_2 ++ (lw_privs_3 ++ (lw_privs_4 ++ (lw_privs_5 ++ (lw_privs_6)))))
def lw_tbl : List Cond := k2_sels lw_privs ++ tables_1
theorem lw_privs_ok : ∀ q ∈ lw_privs, lw_okq q := by
  show ∀ q ∈ lw_privs_1 ++ (lw_privs_2 ++ (lw_privs_3 ++ (lw_privs_4 ++ (lw_privs_5 ++ (lw_privs_6))))), lw_okq q
  exact List.forall_mem_append.mpr ⟨lw_r1, List.forall_mem_append.mpr ⟨lw_r2, List.forall_mem_append.mpr ⟨lw_r3, List.forall_mem_append.mpr ⟨lw_r4, List.forall_mem_append.mpr ⟨lw_r5, lw_r6⟩⟩⟩⟩⟩
end
section
def RX0 : String := "NowhereMoney$Country"
def TX0 : u_T := fun k => match k with
  | 0 => ("NowhereMoney$Country", "towns", "[I", true)
  | 1 => ("NowhereMoney$Country", "rails", "[I", true)
  | 2 => ("NowhereMoney$Country", "closed", "[I", true)
  | 3 => ("NowhereMoney$Country", "snow", "[I", true)
  | 4 => ("NowhereMoney$Country", "scripts", "[LNowhereMoney$Script;", true)
  | _ => ("NowhereMoney$Country", "thoughtSnow", "I", false)
def tyX0 : Nat → FieldType := fun k => match k with
  | 0 => .array .int
  | 1 => .array .int
  | 2 => .array .int
  | 3 => .array .int
  | 4 => .array (.object "NowhereMoney$Script")
  | _ => .int
abbrev wsX00 : List Cond := u_ws RX0 TX0 6
theorem nmX0 : ∀ a, a < 6 → ∀ b, b < 6 → a ≠ b → (TX0 a).2.1 ≠ (TX0 b).2.1 := by decide +kernel
theorem tyX0_ok : ∀ k, k < 6 → parseFieldDescriptor (TX0 k).2.2.1 = some (tyX0 k) := by decide +kernel
abbrev cX0_init : ByteArray := prog_2_method_1_code
def yX0_init : MethodName := ⟨RX0, "<init>", "()V"⟩
abbrev cX0_copyFrom : ByteArray := prog_2_method_2_code
def yX0_copyFrom : MethodName := ⟨RX0, "copyFrom", "(LNowhereMoney$Country;)V"⟩
abbrev cX0_isBusiness : ByteArray := prog_2_method_3_code
def yX0_isBusiness : MethodName := ⟨RX0, "isBusiness", "(I)Z"⟩
abbrev cX0_hasSnow : ByteArray := prog_2_method_4_code
def yX0_hasSnow : MethodName := ⟨RX0, "hasSnow", "(I)Z"⟩
abbrev cX0_areFar : ByteArray := prog_2_method_5_code
def yX0_areFar : MethodName := ⟨RX0, "areFar", "(II)Z"⟩
abbrev cX0_railBetween : ByteArray := prog_2_method_6_code
def yX0_railBetween : MethodName := ⟨RX0, "railBetween", "(II)I"⟩
abbrev cX0_flightDays : ByteArray := prog_2_method_7_code
def yX0_flightDays : MethodName := ⟨RX0, "flightDays", "(III)I"⟩
def RX1 : String := "NowhereMoney$Entries"
def TX1 : u_T := fun k => match k with
  | 0 => ("NowhereMoney$Entries", "rows", "[I", true)
  | _ => ("NowhereMoney$Entries", "count", "I", false)
def tyX1 : Nat → FieldType := fun k => match k with
  | 0 => .array .int
  | _ => .int
abbrev wsX10 : List Cond := u_ws RX1 TX1 2
theorem nmX1 : ∀ a, a < 2 → ∀ b, b < 2 → a ≠ b → (TX1 a).2.1 ≠ (TX1 b).2.1 := by decide +kernel
theorem tyX1_ok : ∀ k, k < 2 → parseFieldDescriptor (TX1 k).2.2.1 = some (tyX1 k) := by decide +kernel
abbrev cX1_init : ByteArray := prog_3_method_1_code
def yX1_init : MethodName := ⟨RX1, "<init>", "()V"⟩
abbrev cX1_add : ByteArray := prog_3_method_2_code
def yX1_add : MethodName := ⟨RX1, "add", "(IIIIII)V"⟩
abbrev cX1_copyFrom : ByteArray := prog_3_method_3_code
def yX1_copyFrom : MethodName := ⟨RX1, "copyFrom", "(LNowhereMoney$Entries;)V"⟩
def RX2 : String := "NowhereMoney$Ledger"
def TX2 : u_T := fun k => match k with
  | 0 => ("NowhereMoney$Ledger", "country", "LNowhereMoney$Country;", true)
  | 1 => ("NowhereMoney$Ledger", "entries", "LNowhereMoney$Entries;", true)
  | 2 => ("NowhereMoney$Ledger", "rows", "[I", true)
  | 3 => ("NowhereMoney$Ledger", "books", "[I", true)
  | 4 => ("NowhereMoney$Ledger", "cash", "[I", true)
  | 5 => ("NowhereMoney$Ledger", "fees", "[I", true)
  | 6 => ("NowhereMoney$Ledger", "asked", "[I", true)
  | 7 => ("NowhereMoney$Ledger", "facts", "[I", true)
  | 8 => ("NowhereMoney$Ledger", "now", "I", false)
  | _ => ("NowhereMoney$Ledger", "count", "I", false)
def tyX2 : Nat → FieldType := fun k => match k with
  | 0 => .object "NowhereMoney$Country"
  | 1 => .object "NowhereMoney$Entries"
  | 2 => .array .int
  | 3 => .array .int
  | 4 => .array .int
  | 5 => .array .int
  | 6 => .array .int
  | 7 => .array .int
  | 8 => .int
  | _ => .int
abbrev wsX20 : List Cond := u_ws RX2 TX2 10
theorem nmX2 : ∀ a, a < 10 → ∀ b, b < 10 → a ≠ b → (TX2 a).2.1 ≠ (TX2 b).2.1 := by decide +kernel
theorem tyX2_ok : ∀ k, k < 10 → parseFieldDescriptor (TX2 k).2.2.1 = some (tyX2 k) := by decide +kernel
abbrev cX2_init : ByteArray := prog_4_method_1_code
def yX2_init : MethodName := ⟨RX2, "<init>", "(LNowhereMoney$Country;LNowhereMoney$Entries;)V"⟩
abbrev cX2_copyFrom : ByteArray := prog_4_method_2_code
def yX2_copyFrom : MethodName := ⟨RX2, "copyFrom", "(LNowhereMoney$Ledger;)V"⟩
abbrev cX2_part : ByteArray := prog_4_method_3_code
def yX2_part : MethodName := ⟨RX2, "part", "(II)I"⟩
abbrev cX2_put : ByteArray := prog_4_method_4_code
def yX2_put : MethodName := ⟨RX2, "put", "(III)V"⟩
abbrev cX2_isInFlight : ByteArray := prog_4_method_5_code
def yX2_isInFlight : MethodName := ⟨RX2, "isInFlight", "(I)Z"⟩
abbrev cX2_isPaidIn : ByteArray := prog_4_method_6_code
def yX2_isPaidIn : MethodName := ⟨RX2, "isPaidIn", "(III)Z"⟩
abbrev cX2_isOfLastWeek : ByteArray := prog_4_method_7_code
def yX2_isOfLastWeek : MethodName := ⟨RX2, "isOfLastWeek", "(I)Z"⟩
abbrev cX2_held : ByteArray := prog_4_method_8_code
def yX2_held : MethodName := ⟨RX2, "held", "(II)I"⟩
abbrev cX2_usable : ByteArray := prog_4_method_9_code
def yX2_usable : MethodName := ⟨RX2, "usable", "(II)I"⟩
abbrev cX2_paidInLately : ByteArray := prog_4_method_10_code
def yX2_paidInLately : MethodName := ⟨RX2, "paidInLately", "(II)I"⟩
abbrev cX2_lawValue : ByteArray := prog_4_method_11_code
def yX2_lawValue : MethodName := ⟨RX2, "lawValue", "(IIIIII)I"⟩
abbrev cX2_change : ByteArray := prog_4_method_12_code
def yX2_change : MethodName := ⟨RX2, "change", "(IIIII)V"⟩
abbrev cX2_takeIn : ByteArray := prog_4_method_13_code
def yX2_takeIn : MethodName := ⟨RX2, "takeIn", "(IIIII)I"⟩
abbrev cX2_morning : ByteArray := prog_4_method_14_code
def yX2_morning : MethodName := ⟨RX2, "morning", "(I)I"⟩
abbrev cX2_rideTrains : ByteArray := prog_4_method_15_code
def yX2_rideTrains : MethodName := ⟨RX2, "rideTrains", "()V"⟩
abbrev cX2_comeBack : ByteArray := prog_4_method_16_code
def yX2_comeBack : MethodName := ⟨RX2, "comeBack", "()V"⟩
abbrev cX2_listAsked : ByteArray := prog_4_method_17_code
def yX2_listAsked : MethodName := ⟨RX2, "listAsked", "(II)I"⟩
abbrev cX2_isAhead : ByteArray := prog_4_method_18_code
def yX2_isAhead : MethodName := ⟨RX2, "isAhead", "(III)Z"⟩
abbrev cX2_askFor : ByteArray := prog_4_method_19_code
def yX2_askFor : MethodName := ⟨RX2, "askFor", "(I)Z"⟩
abbrev cX2_booksOf : ByteArray := prog_4_method_20_code
def yX2_booksOf : MethodName := ⟨RX2, "booksOf", "(I)I"⟩
abbrev cX2_waterOf : ByteArray := prog_4_method_21_code
def yX2_waterOf : MethodName := ⟨RX2, "waterOf", "(I)I"⟩
abbrev cX2_sumInFlight : ByteArray := prog_4_method_22_code
def yX2_sumInFlight : MethodName := ⟨RX2, "sumInFlight", "()I"⟩
abbrev cX2_countInFlight : ByteArray := prog_4_method_23_code
def yX2_countInFlight : MethodName := ⟨RX2, "countInFlight", "()I"⟩
abbrev cX2_lossOf : ByteArray := prog_4_method_24_code
def yX2_lossOf : MethodName := ⟨RX2, "lossOf", "(I)I"⟩
abbrev cX2_lossOfAll : ByteArray := prog_4_method_25_code
def yX2_lossOfAll : MethodName := ⟨RX2, "lossOfAll", "()I"⟩
abbrev cX2_restsOn : ByteArray := prog_4_method_26_code
def yX2_restsOn : MethodName := ⟨RX2, "restsOn", "(I)I"⟩
abbrev cX2_provenBook : ByteArray := prog_4_method_27_code
def yX2_provenBook : MethodName := ⟨RX2, "provenBook", "(II)I"⟩
def RX3 : String := "NowhereMoney$Reader"
def TX3 : u_T := fun k => match k with
  | 0 => ("NowhereMoney$Reader", "draft", "LNowhereMoney$Script;", true)
  | 1 => ("NowhereMoney$Reader", "kinds", "[I", true)
  | 2 => ("NowhereMoney$Reader", "places", "[I", true)
  | 3 => ("NowhereMoney$Reader", "numbers", "[I", true)
  | 4 => ("NowhereMoney$Reader", "tokens", "I", false)
  | 5 => ("NowhereMoney$Reader", "at", "I", false)
  | 6 => ("NowhereMoney$Reader", "ofSigns", "Z", false)
  | 7 => ("NowhereMoney$Reader", "fault", "I", false)
  | _ => ("NowhereMoney$Reader", "faultPlace", "I", false)
def tyX3 : Nat → FieldType := fun k => match k with
  | 0 => .object "NowhereMoney$Script"
  | 1 => .array .int
  | 2 => .array .int
  | 3 => .array .int
  | 4 => .int
  | 5 => .int
  | 6 => .boolean
  | 7 => .int
  | _ => .int
abbrev wsX30 : List Cond := u_ws RX3 TX3 9
theorem nmX3 : ∀ a, a < 9 → ∀ b, b < 9 → a ≠ b → (TX3 a).2.1 ≠ (TX3 b).2.1 := by decide +kernel
theorem tyX3_ok : ∀ k, k < 9 → parseFieldDescriptor (TX3 k).2.2.1 = some (tyX3 k) := by decide +kernel
abbrev cX3_init : ByteArray := prog_5_method_1_code
def yX3_init : MethodName := ⟨RX3, "<init>", "()V"⟩
abbrev cX3_compile : ByteArray := prog_5_method_2_code
def yX3_compile : MethodName := ⟨RX3, "compile", "(LNowhereMoney$Tape;Z)Z"⟩
abbrev cX3_isLineWord : ByteArray := prog_5_method_3_code
def yX3_isLineWord : MethodName := ⟨RX3, "isLineWord", "(I)Z"⟩
abbrev cX3_kind : ByteArray := prog_5_method_4_code
def yX3_kind : MethodName := ⟨RX3, "kind", "()I"⟩
abbrev cX3_fails : ByteArray := prog_5_method_5_code
def yX3_fails : MethodName := ⟨RX3, "fails", "(I)Z"⟩
abbrev cX3_either : ByteArray := prog_5_method_6_code
def yX3_either : MethodName := ⟨RX3, "either", "(I)Z"⟩
abbrev cX3_both : ByteArray := prog_5_method_7_code
def yX3_both : MethodName := ⟨RX3, "both", "(I)Z"⟩
abbrev cX3_single : ByteArray := prog_5_method_8_code
def yX3_single : MethodName := ⟨RX3, "single", "(I)Z"⟩
abbrev cX3_sum : ByteArray := prog_5_method_9_code
def yX3_sum : MethodName := ⟨RX3, "sum", "()Z"⟩
abbrev cX3_product : ByteArray := prog_5_method_10_code
def yX3_product : MethodName := ⟨RX3, "product", "()Z"⟩
abbrev cX3_scan : ByteArray := prog_5_method_11_code
def yX3_scan : MethodName := ⟨RX3, "scan", "(LNowhereMoney$Tape;)V"⟩
abbrev cX3_isLetter : ByteArray := prog_5_method_12_code
def yX3_isLetter : MethodName := ⟨RX3, "isLetter", "(I)Z"⟩
abbrev cX3_isDigit : ByteArray := prog_5_method_13_code
def yX3_isDigit : MethodName := ⟨RX3, "isDigit", "(I)Z"⟩
abbrev cX3_addToken : ByteArray := prog_5_method_14_code
def yX3_addToken : MethodName := ⟨RX3, "addToken", "(III)V"⟩
abbrev cX3_addNumber : ByteArray := prog_5_method_15_code
def yX3_addNumber : MethodName := ⟨RX3, "addNumber", "(LNowhereMoney$Tape;II)V"⟩
abbrev cX3_addWord : ByteArray := prog_5_method_16_code
def yX3_addWord : MethodName := ⟨RX3, "addWord", "(LNowhereMoney$Tape;II)V"⟩
abbrev cX3_isWord : ByteArray := prog_5_method_17_code
def yX3_isWord : MethodName := ⟨RX3, "isWord", "(LNowhereMoney$Tape;IILjava/lang/String;)Z"⟩
abbrev cX3_lawWord : ByteArray := prog_5_method_18_code
def yX3_lawWord : MethodName := ⟨RX3, "lawWord", "(I)Ljava/lang/String;"⟩
abbrev cX3_signWord : ByteArray := prog_5_method_19_code
def yX3_signWord : MethodName := ⟨RX3, "signWord", "(I)Ljava/lang/String;"⟩
def RX4 : String := "NowhereMoney$Rings"
def TX4 : u_T := fun k => match k with
  | 0 => ("NowhereMoney$Rings", "heldUp", "[I", true)
  | 1 => ("NowhereMoney$Rings", "order", "[I", true)
  | 2 => ("NowhereMoney$Rings", "most", "I", false)
  | _ => ("NowhereMoney$Rings", "mostRing", "I", false)
def tyX4 : Nat → FieldType := fun k => match k with
  | 0 => .array .int
  | 1 => .array .int
  | 2 => .int
  | _ => .int
abbrev wsX40 : List Cond := u_ws RX4 TX4 4
theorem nmX4 : ∀ a, a < 4 → ∀ b, b < 4 → a ≠ b → (TX4 a).2.1 ≠ (TX4 b).2.1 := by decide +kernel
theorem tyX4_ok : ∀ k, k < 4 → parseFieldDescriptor (TX4 k).2.2.1 = some (tyX4 k) := by decide +kernel
abbrev cX4_init : ByteArray := prog_6_method_1_code
def yX4_init : MethodName := ⟨RX4, "<init>", "()V"⟩
abbrev cX4_search : ByteArray := prog_6_method_2_code
def yX4_search : MethodName := ⟨RX4, "search", "(I)V"⟩
abbrev cX4_unfold : ByteArray := prog_6_method_3_code
def yX4_unfold : MethodName := ⟨RX4, "unfold", "(II)Z"⟩
def RX5 : String := "NowhereMoney$Script"
def TX5 : u_T := fun k => match k with
  | 0 => ("NowhereMoney$Script", "codes", "[I", true)
  | 1 => ("NowhereMoney$Script", "words", "[I", true)
  | 2 => ("NowhereMoney$Script", "starts", "[I", true)
  | 3 => ("NowhereMoney$Script", "conditions", "[I", true)
  | 4 => ("NowhereMoney$Script", "stops", "[I", true)
  | 5 => ("NowhereMoney$Script", "stack", "[I", true)
  | 6 => ("NowhereMoney$Script", "lines", "I", false)
  | _ => ("NowhereMoney$Script", "length", "I", false)
def tyX5 : Nat → FieldType := fun k => match k with
  | 0 => .array .int
  | 1 => .array .int
  | 2 => .array .int
  | 3 => .array .int
  | 4 => .array .int
  | 5 => .array .int
  | 6 => .int
  | _ => .int
abbrev wsX50 : List Cond := u_ws RX5 TX5 8
theorem nmX5 : ∀ a, a < 8 → ∀ b, b < 8 → a ≠ b → (TX5 a).2.1 ≠ (TX5 b).2.1 := by decide +kernel
theorem tyX5_ok : ∀ k, k < 8 → parseFieldDescriptor (TX5 k).2.2.1 = some (tyX5 k) := by decide +kernel
abbrev cX5_init : ByteArray := prog_7_method_1_code
def yX5_init : MethodName := ⟨RX5, "<init>", "()V"⟩
abbrev cX5_clear : ByteArray := prog_7_method_2_code
def yX5_clear : MethodName := ⟨RX5, "clear", "()V"⟩
abbrev cX5_add : ByteArray := prog_7_method_3_code
def yX5_add : MethodName := ⟨RX5, "add", "(I)V"⟩
abbrev cX5_openLine : ByteArray := prog_7_method_4_code
def yX5_openLine : MethodName := ⟨RX5, "openLine", "(I)V"⟩
abbrev cX5_openCondition : ByteArray := prog_7_method_5_code
def yX5_openCondition : MethodName := ⟨RX5, "openCondition", "()V"⟩
abbrev cX5_closeLine : ByteArray := prog_7_method_6_code
def yX5_closeLine : MethodName := ⟨RX5, "closeLine", "()V"⟩
abbrev cX5_copyFrom : ByteArray := prog_7_method_7_code
def yX5_copyFrom : MethodName := ⟨RX5, "copyFrom", "(LNowhereMoney$Script;)V"⟩
abbrev cX5_firstValue : ByteArray := prog_7_method_8_code
def yX5_firstValue : MethodName := ⟨RX5, "firstValue", "(I[I)I"⟩
abbrev cX5_anyIsSo : ByteArray := prog_7_method_9_code
def yX5_anyIsSo : MethodName := ⟨RX5, "anyIsSo", "([I)Z"⟩
abbrev cX5_isSo : ByteArray := prog_7_method_10_code
def yX5_isSo : MethodName := ⟨RX5, "isSo", "(I[I)Z"⟩
abbrev cX5_run : ByteArray := prog_7_method_11_code
def yX5_run : MethodName := ⟨RX5, "run", "(II[I)I"⟩
def RX6 : String := "NowhereMoney$Tape"
def TX6 : u_T := fun k => match k with
  | 0 => ("NowhereMoney$Tape", "bytes", "[I", true)
  | _ => ("NowhereMoney$Tape", "length", "I", false)
def tyX6 : Nat → FieldType := fun k => match k with
  | 0 => .array .int
  | _ => .int
abbrev wsX60 : List Cond := u_ws RX6 TX6 2
theorem nmX6 : ∀ a, a < 2 → ∀ b, b < 2 → a ≠ b → (TX6 a).2.1 ≠ (TX6 b).2.1 := by decide +kernel
theorem tyX6_ok : ∀ k, k < 2 → parseFieldDescriptor (TX6 k).2.2.1 = some (tyX6 k) := by decide +kernel
abbrev cX6_init : ByteArray := prog_8_method_1_code
def yX6_init : MethodName := ⟨RX6, "<init>", "()V"⟩
abbrev cX6_put : ByteArray := prog_8_method_2_code
def yX6_put : MethodName := ⟨RX6, "put", "(I)V"⟩
def RX7 : String := "NowhereMoney$Watch"
def TX7 : u_T := fun k => match k with
  | 0 => ("NowhereMoney$Watch", "world", "LNowhereMoney$World;", true)
  | _ => ("NowhereMoney$Watch", "facts", "[I", true)
def tyX7 : Nat → FieldType := fun k => match k with
  | 0 => .object "NowhereMoney$World"
  | _ => .array .int
abbrev wsX70 : List Cond := u_ws RX7 TX7 2
theorem nmX7 : ∀ a, a < 2 → ∀ b, b < 2 → a ≠ b → (TX7 a).2.1 ≠ (TX7 b).2.1 := by decide +kernel
theorem tyX7_ok : ∀ k, k < 2 → parseFieldDescriptor (TX7 k).2.2.1 = some (tyX7 k) := by decide +kernel
abbrev cX7_init : ByteArray := prog_9_method_1_code
def yX7_init : MethodName := ⟨RX7, "<init>", "(LNowhereMoney$World;)V"⟩
abbrev cX7_criesFor : ByteArray := prog_9_method_2_code
def yX7_criesFor : MethodName := ⟨RX7, "criesFor", "(II)Z"⟩
abbrev cX7_cryingHouses : ByteArray := prog_9_method_3_code
def yX7_cryingHouses : MethodName := ⟨RX7, "cryingHouses", "(I)I"⟩
abbrev cX7_lookAlone : ByteArray := prog_9_method_4_code
def yX7_lookAlone : MethodName := ⟨RX7, "lookAlone", "()V"⟩
abbrev cX7_turnOf : ByteArray := prog_9_method_5_code
def yX7_turnOf : MethodName := ⟨RX7, "turnOf", "(II)I"⟩
abbrev cX7_gather : ByteArray := prog_9_method_6_code
def yX7_gather : MethodName := ⟨RX7, "gather", "(II)V"⟩
abbrev cX7_isAmong : ByteArray := prog_9_method_7_code
def yX7_isAmong : MethodName := ⟨RX7, "isAmong", "(III)Z"⟩
abbrev cX7_hasMatch : ByteArray := prog_9_method_8_code
def yX7_hasMatch : MethodName := ⟨RX7, "hasMatch", "(III)Z"⟩
abbrev cX7_lowOf : ByteArray := prog_9_method_9_code
def yX7_lowOf : MethodName := ⟨RX7, "lowOf", "(III)I"⟩
def RX8 : String := "NowhereMoney$Ways"
def TX8 : u_T := fun k => match k with
  | 0 => ("NowhereMoney$Ways", "spent", "[I", true)
  | 1 => ("NowhereMoney$Ways", "usable", "[I", true)
  | 2 => ("NowhereMoney$Ways", "most", "I", false)
  | 3 => ("NowhereMoney$Ways", "least", "I", false)
  | 4 => ("NowhereMoney$Ways", "mostWay", "I", false)
  | _ => ("NowhereMoney$Ways", "leastWay", "I", false)
def tyX8 : Nat → FieldType := fun k => match k with
  | 0 => .array .int
  | 1 => .array .int
  | 2 => .int
  | 3 => .int
  | 4 => .int
  | _ => .int
abbrev wsX80 : List Cond := u_ws RX8 TX8 6
theorem nmX8 : ∀ a, a < 6 → ∀ b, b < 6 → a ≠ b → (TX8 a).2.1 ≠ (TX8 b).2.1 := by decide +kernel
theorem tyX8_ok : ∀ k, k < 6 → parseFieldDescriptor (TX8 k).2.2.1 = some (tyX8 k) := by decide +kernel
abbrev cX8_init : ByteArray := prog_10_method_1_code
def yX8_init : MethodName := ⟨RX8, "<init>", "()V"⟩
abbrev cX8_search : ByteArray := prog_10_method_2_code
def yX8_search : MethodName := ⟨RX8, "search", "(LNowhereMoney$World;I)Z"⟩
abbrev cX8_bankOf : ByteArray := prog_10_method_3_code
def yX8_bankOf : MethodName := ⟨RX8, "bankOf", "(III)I"⟩
abbrev cX8_isWay : ByteArray := prog_10_method_4_code
def yX8_isWay : MethodName := ⟨RX8, "isWay", "(LNowhereMoney$World;I)Z"⟩
abbrev cX8_floatOf : ByteArray := prog_10_method_5_code
def yX8_floatOf : MethodName := ⟨RX8, "floatOf", "(LNowhereMoney$World;I)I"⟩
def RX9 : String := "NowhereMoney$World"
def TX9 : u_T := fun k => match k with
  | 0 => ("NowhereMoney$World", "country", "LNowhereMoney$Country;", true)
  | 1 => ("NowhereMoney$World", "entries", "LNowhereMoney$Entries;", true)
  | 2 => ("NowhereMoney$World", "ledger", "LNowhereMoney$Ledger;", true)
  | 3 => ("NowhereMoney$World", "kept", "[I", true)
  | 4 => ("NowhereMoney$World", "firstCries", "[I", true)
  | 5 => ("NowhereMoney$World", "payAmounts", "[I", true)
  | 6 => ("NowhereMoney$World", "payTowns", "[I", true)
  | 7 => ("NowhereMoney$World", "payments", "I", false)
  | _ => ("NowhereMoney$World", "kiters", "I", false)
def tyX9 : Nat → FieldType := fun k => match k with
  | 0 => .object "NowhereMoney$Country"
  | 1 => .object "NowhereMoney$Entries"
  | 2 => .object "NowhereMoney$Ledger"
  | 3 => .array .int
  | 4 => .array .int
  | 5 => .array .int
  | 6 => .array .int
  | 7 => .int
  | _ => .int
abbrev wsX90 : List Cond := u_ws RX9 TX9 9
theorem nmX9 : ∀ a, a < 9 → ∀ b, b < 9 → a ≠ b → (TX9 a).2.1 ≠ (TX9 b).2.1 := by decide +kernel
theorem tyX9_ok : ∀ k, k < 9 → parseFieldDescriptor (TX9 k).2.2.1 = some (tyX9 k) := by decide +kernel
abbrev cX9_init : ByteArray := prog_11_method_1_code
def yX9_init : MethodName := ⟨RX9, "<init>", "()V"⟩
abbrev cX9_copyFrom : ByteArray := prog_11_method_2_code
def yX9_copyFrom : MethodName := ⟨RX9, "copyFrom", "(LNowhereMoney$World;)V"⟩
abbrev cX9_isKiter : ByteArray := prog_11_method_3_code
def yX9_isKiter : MethodName := ⟨RX9, "isKiter", "(I)Z"⟩
abbrev cX9_keep : ByteArray := prog_11_method_4_code
def yX9_keep : MethodName := ⟨RX9, "keep", "()V"⟩
abbrev cX9_keptAt : ByteArray := prog_11_method_5_code
def yX9_keptAt : MethodName := ⟨RX9, "keptAt", "(III)I"⟩
def RX10 : String := "NowhereMoney"
def TX10 : u_T := fun k => match k with
  | 0 => ("NowhereMoney", "tape", "LNowhereMoney$Tape;", true)
  | 1 => ("NowhereMoney", "reader", "LNowhereMoney$Reader;", true)
  | 2 => ("NowhereMoney", "world", "LNowhereMoney$World;", true)
  | 3 => ("NowhereMoney", "picture", "LNowhereMoney$World;", true)
  | 4 => ("NowhereMoney", "thought", "LNowhereMoney$Ledger;", true)
  | 5 => ("NowhereMoney", "watch", "LNowhereMoney$Watch;", true)
  | 6 => ("NowhereMoney", "rings", "LNowhereMoney$Rings;", true)
  | 7 => ("NowhereMoney", "ways", "LNowhereMoney$Ways;", true)
  | 8 => ("NowhereMoney", "nets", "[I", true)
  | 9 => ("NowhereMoney", "hasPicture", "Z", false)
  | 10 => ("NowhereMoney", "latestFault", "I", false)
  | 11 => ("NowhereMoney", "latestPlace", "I", false)
  | 12 => ("NowhereMoney", "gross", "I", false)
  | 13 => ("NowhereMoney", "endDays", "I", false)
  | _ => ("NowhereMoney", "endReturned", "I", false)
def tyX10 : Nat → FieldType := fun k => match k with
  | 0 => .object "NowhereMoney$Tape"
  | 1 => .object "NowhereMoney$Reader"
  | 2 => .object "NowhereMoney$World"
  | 3 => .object "NowhereMoney$World"
  | 4 => .object "NowhereMoney$Ledger"
  | 5 => .object "NowhereMoney$Watch"
  | 6 => .object "NowhereMoney$Rings"
  | 7 => .object "NowhereMoney$Ways"
  | 8 => .array .int
  | 9 => .boolean
  | 10 => .int
  | 11 => .int
  | 12 => .int
  | 13 => .int
  | _ => .int
abbrev wsX100 : List Cond := u_ws RX10 TX10 15
theorem nmX10 : ∀ a, a < 15 → ∀ b, b < 15 → a ≠ b → (TX10 a).2.1 ≠ (TX10 b).2.1 := by decide +kernel
theorem tyX10_ok : ∀ k, k < 15 → parseFieldDescriptor (TX10 k).2.2.1 = some (tyX10 k) := by decide +kernel
abbrev cX10_init : ByteArray := prog_1_method_1_code
def yX10_init : MethodName := ⟨RX10, "<init>", "()V"⟩
abbrev cX10_town : ByteArray := prog_1_method_2_code
def yX10_town : MethodName := ⟨RX10, "town", "(II)Z"⟩
abbrev cX10_rail : ByteArray := prog_1_method_3_code
def yX10_rail : MethodName := ⟨RX10, "rail", "(III)Z"⟩
abbrev cX10_told : ByteArray := prog_1_method_4_code
def yX10_told : MethodName := ⟨RX10, "told", "(IIZ)Z"⟩
abbrev cX10_feed : ByteArray := prog_1_method_5_code
def yX10_feed : MethodName := ⟨RX10, "feed", "(IIIII)I"⟩
abbrev cX10_end : ByteArray := prog_1_method_6_code
def yX10_end : MethodName := ⟨RX10, "end", "(I)Z"⟩
abbrev cX10_text : ByteArray := prog_1_method_7_code
def yX10_text : MethodName := ⟨RX10, "text", "(I)I"⟩
abbrev cX10_fault : ByteArray := prog_1_method_8_code
def yX10_fault : MethodName := ⟨RX10, "fault", "(I)I"⟩
abbrev cX10_cash : ByteArray := prog_1_method_9_code
def yX10_cash : MethodName := ⟨RX10, "cash", "(III)Z"⟩
abbrev cX10_pay : ByteArray := prog_1_method_10_code
def yX10_pay : MethodName := ⟨RX10, "pay", "(IIIII)I"⟩
abbrev cX10_day : ByteArray := prog_1_method_11_code
def yX10_day : MethodName := ⟨RX10, "day", "()I"⟩
abbrev cX10_book : ByteArray := prog_1_method_12_code
def yX10_book : MethodName := ⟨RX10, "book", "(III)I"⟩
abbrev cX10_cheque : ByteArray := prog_1_method_13_code
def yX10_cheque : MethodName := ⟨RX10, "cheque", "(II)I"⟩
abbrev cX10_really : ByteArray := prog_1_method_14_code
def yX10_really : MethodName := ⟨RX10, "really", "(II)I"⟩
abbrev cX10_kept : ByteArray := prog_1_method_15_code
def yX10_kept : MethodName := ⟨RX10, "kept", "(III)I"⟩
abbrev cX10_sums : ByteArray := prog_1_method_16_code
def yX10_sums : MethodName := ⟨RX10, "sums", "(I)I"⟩
abbrev cX10_flight : ByteArray := prog_1_method_17_code
def yX10_flight : MethodName := ⟨RX10, "flight", "(III)I"⟩
abbrev cX10_ring : ByteArray := prog_1_method_18_code
def yX10_ring : MethodName := ⟨RX10, "ring", "(IIII)I"⟩
abbrev cX10_letIn : ByteArray := prog_1_method_19_code
def yX10_letIn : MethodName := ⟨RX10, "letIn", "(IIII)I"⟩
abbrev cX10_leastHold : ByteArray := prog_1_method_20_code
def yX10_leastHold : MethodName := ⟨RX10, "leastHold", "(III)I"⟩
abbrev cX10_chain : ByteArray := prog_1_method_21_code
def yX10_chain : MethodName := ⟨RX10, "chain", "(II)I"⟩
abbrev cX10_entry : ByteArray := prog_1_method_22_code
def yX10_entry : MethodName := ⟨RX10, "entry", "(II)I"⟩
abbrev cX10_growth : ByteArray := prog_1_method_23_code
def yX10_growth : MethodName := ⟨RX10, "growth", "(III)I"⟩
abbrev cX10_sign : ByteArray := prog_1_method_24_code
def yX10_sign : MethodName := ⟨RX10, "sign", "(III)I"⟩
abbrev cX10_kiters : ByteArray := prog_1_method_25_code
def yX10_kiters : MethodName := ⟨RX10, "kiters", "(I)Z"⟩
abbrev cX10_cries : ByteArray := prog_1_method_26_code
def yX10_cries : MethodName := ⟨RX10, "cries", "(II)I"⟩
abbrev cX10_like : ByteArray := prog_1_method_27_code
def yX10_like : MethodName := ⟨RX10, "like", "(III)I"⟩
abbrev cX10_alone : ByteArray := prog_1_method_28_code
def yX10_alone : MethodName := ⟨RX10, "alone", "(II)I"⟩
abbrev cX10_ending : ByteArray := prog_1_method_29_code
def yX10_ending : MethodName := ⟨RX10, "ending", "(II)I"⟩
abbrev cX10_snowed : ByteArray := prog_1_method_30_code
def yX10_snowed : MethodName := ⟨RX10, "snowed", "()I"⟩
abbrev cX10_payment : ByteArray := prog_1_method_31_code
def yX10_payment : MethodName := ⟨RX10, "payment", "(II)I"⟩
abbrev cX10_payFloat : ByteArray := prog_1_method_32_code
def yX10_payFloat : MethodName := ⟨RX10, "payFloat", "(II)I"⟩
abbrev cX10_room : ByteArray := prog_1_method_33_code
def yX10_room : MethodName := ⟨RX10, "room", "(II)I"⟩
abbrev cX10_seen : ByteArray := prog_1_method_34_code
def yX10_seen : MethodName := ⟨RX10, "seen", "(I)I"⟩
abbrev cX10_burnt : ByteArray := prog_1_method_35_code
def yX10_burnt : MethodName := ⟨RX10, "burnt", "(IIII)I"⟩
abbrev cX10_honest : ByteArray := prog_1_method_36_code
def yX10_honest : MethodName := ⟨RX10, "honest", "(I)I"⟩
abbrev cX10_image : ByteArray := prog_1_method_37_code
def yX10_image : MethodName := ⟨RX10, "image", "(Z)Z"⟩
abbrev cX10_look : ByteArray := prog_1_method_38_code
def yX10_look : MethodName := ⟨RX10, "look", "(I)I"⟩
abbrev cX10_isBank : ByteArray := prog_1_method_39_code
def yX10_isBank : MethodName := ⟨RX10, "isBank", "(I)Z"⟩
abbrev cX10_isHouse : ByteArray := prog_1_method_40_code
def yX10_isHouse : MethodName := ⟨RX10, "isHouse", "(I)Z"⟩
abbrev cX10_isTown : ByteArray := prog_1_method_41_code
def yX10_isTown : MethodName := ⟨RX10, "isTown", "(I)Z"⟩
abbrev cX10_isDay : ByteArray := prog_1_method_42_code
def yX10_isDay : MethodName := ⟨RX10, "isDay", "(I)Z"⟩
abbrev cX10_isAmount : ByteArray := prog_1_method_43_code
def yX10_isAmount : MethodName := ⟨RX10, "isAmount", "(I)Z"⟩
abbrev cX10_isBankSet : ByteArray := prog_1_method_44_code
def yX10_isBankSet : MethodName := ⟨RX10, "isBankSet", "(I)Z"⟩
abbrev cX10_isCheque : ByteArray := prog_1_method_45_code
def yX10_isCheque : MethodName := ⟨RX10, "isCheque", "(I)Z"⟩
abbrev cX10_isBusinessDay : ByteArray := prog_1_method_46_code
def yX10_isBusinessDay : MethodName := ⟨RX10, "isBusinessDay", "(I)Z"⟩
abbrev cX10_isRing : ByteArray := prog_1_method_47_code
def yX10_isRing : MethodName := ⟨RX10, "isRing", "(III)Z"⟩
abbrev cX10_sumOf : ByteArray := prog_1_method_48_code
def yX10_sumOf : MethodName := ⟨RX10, "sumOf", "([I)I"⟩
abbrev cX10_fillRings : ByteArray := prog_1_method_49_code
def yX10_fillRings : MethodName := ⟨RX10, "fillRings", "(III)V"⟩
abbrev cX10_thinkEnd : ByteArray := prog_1_method_50_code
def yX10_thinkEnd : MethodName := ⟨RX10, "thinkEnd", "(I)I"⟩
abbrev cX10_netOut : ByteArray := prog_1_method_51_code
def yX10_netOut : MethodName := ⟨RX10, "netOut", "(I)V"⟩
abbrev cX10_roundOfRoom : ByteArray := prog_1_method_52_code
def yX10_roundOfRoom : MethodName := ⟨RX10, "roundOfRoom", "()I"⟩
def RX11 : String := "NowhereMoneyModel"
def TX11 : u_T := fun k => match k with
  | 0 => ("NowhereMoneyModel", "w", "[I", true)
  | 1 => ("NowhereMoneyModel", "kept", "[I", true)
  | 2 => ("NowhereMoneyModel", "thought", "[I", true)
  | 3 => ("NowhereMoneyModel", "hasImage", "Z", false)
  | 4 => ("NowhereMoneyModel", "freshLine", "[I", true)
  | 5 => ("NowhereMoneyModel", "freshStep", "[I", true)
  | 6 => ("NowhereMoneyModel", "tape", "[I", true)
  | 7 => ("NowhereMoneyModel", "pile", "[I", true)
  | 8 => ("NowhereMoneyModel", "facts", "[I", true)
  | 9 => ("NowhereMoneyModel", "which", "I", false)
  | 10 => ("NowhereMoneyModel", "lines", "I", false)
  | 11 => ("NowhereMoneyModel", "steps", "I", false)
  | 12 => ("NowhereMoneyModel", "taped", "I", false)
  | 13 => ("NowhereMoneyModel", "at", "I", false)
  | 14 => ("NowhereMoneyModel", "token", "I", false)
  | 15 => ("NowhereMoneyModel", "tokenAt", "I", false)
  | 16 => ("NowhereMoneyModel", "value", "I", false)
  | 17 => ("NowhereMoneyModel", "wrong", "I", false)
  | 18 => ("NowhereMoneyModel", "wrongAt", "I", false)
  | 19 => ("NowhereMoneyModel", "faultKind", "I", false)
  | 20 => ("NowhereMoneyModel", "depth", "I", false)
  | 21 => ("NowhereMoneyModel", "faultPlace", "I", false)
  | 22 => ("NowhereMoneyModel", "asked", "[I", true)
  | 23 => ("NowhereMoneyModel", "askedMany", "I", false)
  | 24 => ("NowhereMoneyModel", "ring", "[I", true)
  | 25 => ("NowhereMoneyModel", "bestRing", "[I", true)
  | 26 => ("NowhereMoneyModel", "most", "I", false)
  | 27 => ("NowhereMoneyModel", "oneHold", "I", false)
  | 28 => ("NowhereMoneyModel", "endDays", "I", false)
  | 29 => ("NowhereMoneyModel", "endReturned", "I", false)
  | _ => ("NowhereMoneyModel", "onBank", "[I", true)
def tyX11 : Nat → FieldType := fun k => match k with
  | 0 => .array .int
  | 1 => .array .int
  | 2 => .array .int
  | 3 => .boolean
  | 4 => .array .int
  | 5 => .array .int
  | 6 => .array .int
  | 7 => .array .int
  | 8 => .array .int
  | 9 => .int
  | 10 => .int
  | 11 => .int
  | 12 => .int
  | 13 => .int
  | 14 => .int
  | 15 => .int
  | 16 => .int
  | 17 => .int
  | 18 => .int
  | 19 => .int
  | 20 => .int
  | 21 => .int
  | 22 => .array .int
  | 23 => .int
  | 24 => .array .int
  | 25 => .array .int
  | 26 => .int
  | 27 => .int
  | 28 => .int
  | 29 => .int
  | _ => .array .int
abbrev wsX110 : List Cond := u_ws RX11 TX11 31
theorem nmX11 : ∀ a, a < 31 → ∀ b, b < 31 → a ≠ b → (TX11 a).2.1 ≠ (TX11 b).2.1 := by decide +kernel
theorem tyX11_ok : ∀ k, k < 31 → parseFieldDescriptor (TX11 k).2.2.1 = some (tyX11 k) := by decide +kernel
abbrev cX11_isIn : ByteArray := prog_13_method_1_code
def yX11_isIn : MethodName := ⟨RX11, "isIn", "(III)Z"⟩
abbrev cX11_apart : ByteArray := prog_13_method_2_code
def yX11_apart : MethodName := ⟨RX11, "apart", "(II)I"⟩
abbrev cX11_init : ByteArray := prog_13_method_3_code
def yX11_init : MethodName := ⟨RX11, "<init>", "()V"⟩
abbrev cX11_isBank : ByteArray := prog_13_method_4_code
def yX11_isBank : MethodName := ⟨RX11, "isBank", "(I)Z"⟩
abbrev cX11_isHouse : ByteArray := prog_13_method_5_code
def yX11_isHouse : MethodName := ⟨RX11, "isHouse", "(I)Z"⟩
abbrev cX11_town : ByteArray := prog_13_method_6_code
def yX11_town : MethodName := ⟨RX11, "town", "(II)Z"⟩
abbrev cX11_rail : ByteArray := prog_13_method_7_code
def yX11_rail : MethodName := ⟨RX11, "rail", "(III)Z"⟩
abbrev cX11_told : ByteArray := prog_13_method_8_code
def yX11_told : MethodName := ⟨RX11, "told", "(IIZ)Z"⟩
abbrev cX11_isBusiness : ByteArray := prog_13_method_9_code
def yX11_isBusiness : MethodName := ⟨RX11, "isBusiness", "(I)Z"⟩
abbrev cX11_hasTrain : ByteArray := prog_13_method_10_code
def yX11_hasTrain : MethodName := ⟨RX11, "hasTrain", "(I)Z"⟩
abbrev cX11_railBetween : ByteArray := prog_13_method_11_code
def yX11_railBetween : MethodName := ⟨RX11, "railBetween", "(II)I"⟩
abbrev cX11_feed : ByteArray := prog_13_method_12_code
def yX11_feed : MethodName := ⟨RX11, "feed", "(IIIII)I"⟩
abbrev cX11_end : ByteArray := prog_13_method_13_code
def yX11_end : MethodName := ⟨RX11, "end", "(I)Z"⟩
abbrev cX11_see : ByteArray := prog_13_method_14_code
def yX11_see : MethodName := ⟨RX11, "see", "(I)I"⟩
abbrev cX11_isLetter : ByteArray := prog_13_method_15_code
def yX11_isLetter : MethodName := ⟨RX11, "isLetter", "(I)Z"⟩
abbrev cX11_isDigit : ByteArray := prog_13_method_16_code
def yX11_isDigit : MethodName := ⟨RX11, "isDigit", "(I)Z"⟩
abbrev cX11_is : ByteArray := prog_13_method_17_code
def yX11_is : MethodName := ⟨RX11, "is", "(Ljava/lang/String;)Z"⟩
abbrev cX11_lawWord : ByteArray := prog_13_method_18_code
def yX11_lawWord : MethodName := ⟨RX11, "lawWord", "()I"⟩
abbrev cX11_signWord : ByteArray := prog_13_method_19_code
def yX11_signWord : MethodName := ⟨RX11, "signWord", "()I"⟩
abbrev cX11_word : ByteArray := prog_13_method_20_code
def yX11_word : MethodName := ⟨RX11, "word", "()I"⟩
abbrev cX11_next0 : ByteArray := prog_13_method_21_code
def yX11_next0 : MethodName := ⟨RX11, "next0", "()V"⟩
abbrev cX11_bad : ByteArray := prog_13_method_22_code
def yX11_bad : MethodName := ⟨RX11, "bad", "(I)Z"⟩
abbrev cX11_need : ByteArray := prog_13_method_23_code
def yX11_need : MethodName := ⟨RX11, "need", "(I)Z"⟩
abbrev cX11_lay : ByteArray := prog_13_method_24_code
def yX11_lay : MethodName := ⟨RX11, "lay", "(II)V"⟩
abbrev cX11_opens : ByteArray := prog_13_method_25_code
def yX11_opens : MethodName := ⟨RX11, "opens", "()Z"⟩
abbrev cX11_sumUp : ByteArray := prog_13_method_26_code
def yX11_sumUp : MethodName := ⟨RX11, "sumUp", "()Z"⟩
abbrev cX11_product : ByteArray := prog_13_method_27_code
def yX11_product : MethodName := ⟨RX11, "product", "()Z"⟩
abbrev cX11_unit : ByteArray := prog_13_method_28_code
def yX11_unit : MethodName := ⟨RX11, "unit", "()Z"⟩
abbrev cX11_any : ByteArray := prog_13_method_29_code
def yX11_any : MethodName := ⟨RX11, "any", "()Z"⟩
abbrev cX11_every : ByteArray := prog_13_method_30_code
def yX11_every : MethodName := ⟨RX11, "every", "()Z"⟩
abbrev cX11_one : ByteArray := prog_13_method_31_code
def yX11_one : MethodName := ⟨RX11, "one", "()Z"⟩
abbrev cX11_aLine : ByteArray := prog_13_method_32_code
def yX11_aLine : MethodName := ⟨RX11, "aLine", "()Z"⟩
abbrev cX11_text : ByteArray := prog_13_method_33_code
def yX11_text : MethodName := ⟨RX11, "text", "(I)I"⟩
abbrev cX11_fault : ByteArray := prog_13_method_34_code
def yX11_fault : MethodName := ⟨RX11, "fault", "(I)I"⟩
abbrev cX11_both : ByteArray := prog_13_method_35_code
def yX11_both : MethodName := ⟨RX11, "both", "(III)I"⟩
abbrev cX11_comesTo : ByteArray := prog_13_method_36_code
def yX11_comesTo : MethodName := ⟨RX11, "comesTo", "(III)I"⟩
abbrev cX11_tells : ByteArray := prog_13_method_37_code
def yX11_tells : MethodName := ⟨RX11, "tells", "(II)I"⟩
abbrev cX11_of : ByteArray := prog_13_method_38_code
def yX11_of : MethodName := ⟨RX11, "of", "(II)I"⟩
abbrev cX11_countOf : ByteArray := prog_13_method_39_code
def yX11_countOf : MethodName := ⟨RX11, "countOf", "(II)I"⟩
abbrev cX11_gathers : ByteArray := prog_13_method_40_code
def yX11_gathers : MethodName := ⟨RX11, "gathers", "(IIIIZI)V"⟩
abbrev cX11_isFar : ByteArray := prog_13_method_41_code
def yX11_isFar : MethodName := ⟨RX11, "isFar", "(II)Z"⟩
abbrev cX11_gathersOf : ByteArray := prog_13_method_42_code
def yX11_gathersOf : MethodName := ⟨RX11, "gathersOf", "(III)V"⟩
abbrev cX11_heldOf : ByteArray := prog_13_method_43_code
def yX11_heldOf : MethodName := ⟨RX11, "heldOf", "(II)I"⟩
abbrev cX11_usable : ByteArray := prog_13_method_44_code
def yX11_usable : MethodName := ⟨RX11, "usable", "(II)I"⟩
abbrev cX11_books : ByteArray := prog_13_method_45_code
def yX11_books : MethodName := ⟨RX11, "books", "(IIIII)V"⟩
abbrev cX11_entry : ByteArray := prog_13_method_46_code
def yX11_entry : MethodName := ⟨RX11, "entry", "(II)I"⟩
abbrev cX11_cash : ByteArray := prog_13_method_47_code
def yX11_cash : MethodName := ⟨RX11, "cash", "(III)Z"⟩
abbrev cX11_pay : ByteArray := prog_13_method_48_code
def yX11_pay : MethodName := ⟨RX11, "pay", "(IIIII)I"⟩
abbrev cX11_book : ByteArray := prog_13_method_49_code
def yX11_book : MethodName := ⟨RX11, "book", "(III)I"⟩
abbrev cX11_cheque : ByteArray := prog_13_method_50_code
def yX11_cheque : MethodName := ⟨RX11, "cheque", "(II)I"⟩
abbrev cX11_restsOn : ByteArray := prog_13_method_51_code
def yX11_restsOn : MethodName := ⟨RX11, "restsOn", "(I)I"⟩
abbrev cX11_chain : ByteArray := prog_13_method_52_code
def yX11_chain : MethodName := ⟨RX11, "chain", "(II)I"⟩
abbrev cX11_booksOf : ByteArray := prog_13_method_53_code
def yX11_booksOf : MethodName := ⟨RX11, "booksOf", "(I)I"⟩
abbrev cX11_waterOf : ByteArray := prog_13_method_54_code
def yX11_waterOf : MethodName := ⟨RX11, "waterOf", "(I)I"⟩
abbrev cX11_really : ByteArray := prog_13_method_55_code
def yX11_really : MethodName := ⟨RX11, "really", "(II)I"⟩
abbrev cX11_kept : ByteArray := prog_13_method_56_code
def yX11_kept : MethodName := ⟨RX11, "kept", "(III)I"⟩
abbrev cX11_isFlying : ByteArray := prog_13_method_57_code
def yX11_isFlying : MethodName := ⟨RX11, "isFlying", "(I)Z"⟩
abbrev cX11_flying : ByteArray := prog_13_method_58_code
def yX11_flying : MethodName := ⟨RX11, "flying", "(Z)I"⟩
abbrev cX11_sums : ByteArray := prog_13_method_59_code
def yX11_sums : MethodName := ⟨RX11, "sums", "(I)I"⟩
abbrev cX11_isDue : ByteArray := prog_13_method_60_code
def yX11_isDue : MethodName := ⟨RX11, "isDue", "(II)Z"⟩
abbrev cX11_isBehind : ByteArray := prog_13_method_61_code
def yX11_isBehind : MethodName := ⟨RX11, "isBehind", "(III)Z"⟩
abbrev cX11_gathersAsked : ByteArray := prog_13_method_62_code
def yX11_gathersAsked : MethodName := ⟨RX11, "gathersAsked", "(II)V"⟩
abbrev cX11_isReturned : ByteArray := prog_13_method_63_code
def yX11_isReturned : MethodName := ⟨RX11, "isReturned", "(I)Z"⟩
abbrev cX11_morning : ByteArray := prog_13_method_64_code
def yX11_morning : MethodName := ⟨RX11, "morning", "(I)I"⟩
abbrev cX11_day : ByteArray := prog_13_method_65_code
def yX11_day : MethodName := ⟨RX11, "day", "()I"⟩
abbrev cX11_flightOf : ByteArray := prog_13_method_66_code
def yX11_flightOf : MethodName := ⟨RX11, "flightOf", "(III)I"⟩
abbrev cX11_isDay : ByteArray := prog_13_method_67_code
def yX11_isDay : MethodName := ⟨RX11, "isDay", "(I)Z"⟩
abbrev cX11_flight : ByteArray := prog_13_method_68_code
def yX11_flight : MethodName := ⟨RX11, "flight", "(III)I"⟩
abbrev cX11_holdsUp : ByteArray := prog_13_method_69_code
def yX11_holdsUp : MethodName := ⟨RX11, "holdsUp", "(IIII)I"⟩
abbrev cX11_rings : ByteArray := prog_13_method_70_code
def yX11_rings : MethodName := ⟨RX11, "rings", "(IIIII)V"⟩
abbrev cX11_ring : ByteArray := prog_13_method_71_code
def yX11_ring : MethodName := ⟨RX11, "ring", "(IIII)I"⟩
abbrev cX11_letIn : ByteArray := prog_13_method_72_code
def yX11_letIn : MethodName := ⟨RX11, "letIn", "(IIII)I"⟩
abbrev cX11_leastHold : ByteArray := prog_13_method_73_code
def yX11_leastHold : MethodName := ⟨RX11, "leastHold", "(III)I"⟩
abbrev cX11_growth : ByteArray := prog_13_method_74_code
def yX11_growth : MethodName := ⟨RX11, "growth", "(III)I"⟩
abbrev cX11_isMatched : ByteArray := prog_13_method_75_code
def yX11_isMatched : MethodName := ⟨RX11, "isMatched", "(I)Z"⟩
abbrev cX11_signs : ByteArray := prog_13_method_76_code
def yX11_signs : MethodName := ⟨RX11, "signs", "(II)V"⟩
abbrev cX11_cryOf : ByteArray := prog_13_method_77_code
def yX11_cryOf : MethodName := ⟨RX11, "cryOf", "(II)Z"⟩
abbrev cX11_sign : ByteArray := prog_13_method_78_code
def yX11_sign : MethodName := ⟨RX11, "sign", "(III)I"⟩
abbrev cX11_kiters : ByteArray := prog_13_method_79_code
def yX11_kiters : MethodName := ⟨RX11, "kiters", "(I)Z"⟩
abbrev cX11_count : ByteArray := prog_13_method_80_code
def yX11_count : MethodName := ⟨RX11, "count", "(I)I"⟩
abbrev cX11_cries : ByteArray := prog_13_method_81_code
def yX11_cries : MethodName := ⟨RX11, "cries", "(II)I"⟩
abbrev cX11_like : ByteArray := prog_13_method_82_code
def yX11_like : MethodName := ⟨RX11, "like", "(III)I"⟩
abbrev cX11_alone : ByteArray := prog_13_method_83_code
def yX11_alone : MethodName := ⟨RX11, "alone", "(II)I"⟩
abbrev cX11_lossOf : ByteArray := prog_13_method_84_code
def yX11_lossOf : MethodName := ⟨RX11, "lossOf", "(I)I"⟩
abbrev cX11_lossOfAll : ByteArray := prog_13_method_85_code
def yX11_lossOfAll : MethodName := ⟨RX11, "lossOfAll", "()I"⟩
abbrev cX11_ends : ByteArray := prog_13_method_86_code
def yX11_ends : MethodName := ⟨RX11, "ends", "(II)I"⟩
abbrev cX11_ending : ByteArray := prog_13_method_87_code
def yX11_ending : MethodName := ⟨RX11, "ending", "(II)I"⟩
abbrev cX11_snowed : ByteArray := prog_13_method_88_code
def yX11_snowed : MethodName := ⟨RX11, "snowed", "()I"⟩
abbrev cX11_payment : ByteArray := prog_13_method_89_code
def yX11_payment : MethodName := ⟨RX11, "payment", "(II)I"⟩
abbrev cX11_floats : ByteArray := prog_13_method_90_code
def yX11_floats : MethodName := ⟨RX11, "floats", "(II)I"⟩
abbrev cX11_payFloat : ByteArray := prog_13_method_91_code
def yX11_payFloat : MethodName := ⟨RX11, "payFloat", "(II)I"⟩
abbrev cX11_room : ByteArray := prog_13_method_92_code
def yX11_room : MethodName := ⟨RX11, "room", "(II)I"⟩
abbrev cX11_seen : ByteArray := prog_13_method_93_code
def yX11_seen : MethodName := ⟨RX11, "seen", "(I)I"⟩
abbrev cX11_burnt : ByteArray := prog_13_method_94_code
def yX11_burnt : MethodName := ⟨RX11, "burnt", "(IIII)I"⟩
abbrev cX11_honest : ByteArray := prog_13_method_95_code
def yX11_honest : MethodName := ⟨RX11, "honest", "(I)I"⟩
abbrev cX11_image : ByteArray := prog_13_method_96_code
def yX11_image : MethodName := ⟨RX11, "image", "(Z)Z"⟩
abbrev cX11_look : ByteArray := prog_13_method_97_code
def yX11_look : MethodName := ⟨RX11, "look", "(I)I"⟩
def RJ11 : String := "java/lang/Character"
abbrev cJ11_isValidCodePoint_9a6ad : ByteArray := prog_14_method_11_code
def yJ11_isValidCodePoint_9a6ad : MethodName := ⟨RJ11, "isValidCodePoint", "(I)Z"⟩
abbrev cJ11_highSurrogate_5068e : ByteArray := prog_14_method_28_code
def yJ11_highSurrogate_5068e : MethodName := ⟨RJ11, "highSurrogate", "(I)C"⟩
abbrev cJ11_lowSurrogate_5068e : ByteArray := prog_14_method_29_code
def yJ11_lowSurrogate_5068e : MethodName := ⟨RJ11, "lowSurrogate", "(I)C"⟩
def RJ6 : String := "java/lang/Integer"
abbrev cJ6_bitCount_0f7a4 : ByteArray := prog_15_method_49_code
def yJ6_bitCount_0f7a4 : MethodName := ⟨RJ6, "bitCount", "(I)I"⟩
def RJ9 : String := "java/lang/Math"
abbrev cJ9_abs_0f7a4 : ByteArray := prog_16_method_59_code
def yJ9_abs_0f7a4 : MethodName := ⟨RJ9, "abs", "(I)I"⟩
abbrev cJ9_max_7cf53 : ByteArray := prog_16_method_65_code
def yJ9_max_7cf53 : MethodName := ⟨RJ9, "max", "(II)I"⟩
abbrev cJ9_min_7cf53 : ByteArray := prog_16_method_69_code
def yJ9_min_7cf53 : MethodName := ⟨RJ9, "min", "(II)I"⟩
abbrev cJ9_min_f86c9 : ByteArray := prog_16_method_70_code
def yJ9_min_f86c9 : MethodName := ⟨RJ9, "min", "(JJ)J"⟩
def RJ0 : String := "java/lang/String"
abbrev cJ0_length_8abf5 : ByteArray := prog_17_method_54_code
def yJ0_length_8abf5 : MethodName := ⟨RJ0, "length", "()I"⟩
abbrev cJ0_charAt_5068e : ByteArray := prog_17_method_56_code
def yJ0_charAt_5068e : MethodName := ⟨RJ0, "charAt", "(I)C"⟩
abbrev cJ0_indexOf_0f7a4 : ByteArray := prog_17_method_79_code
def yJ0_indexOf_0f7a4 : MethodName := ⟨RJ0, "indexOf", "(I)I"⟩
abbrev cJ0_indexOf_7cf53 : ByteArray := prog_17_method_80_code
def yJ0_indexOf_7cf53 : MethodName := ⟨RJ0, "indexOf", "(II)I"⟩
abbrev cJ0_coder_7d493 : ByteArray := prog_17_method_152_code
def yJ0_coder_7d493 : MethodName := ⟨RJ0, "coder", "()B"⟩
abbrev cJ0_isLatin1_aae02 : ByteArray := prog_17_method_154_code
def yJ0_isLatin1_aae02 : MethodName := ⟨RJ0, "isLatin1", "()Z"⟩
abbrev cJ0_checkIndex_df160 : ByteArray := prog_17_method_155_code
def yJ0_checkIndex_df160 : MethodName := ⟨RJ0, "checkIndex", "(II)V"⟩
abbrev cJ0_checkBoundsBeginEnd_23922 : ByteArray := prog_17_method_158_code
def yJ0_checkBoundsBeginEnd_23922 : MethodName := ⟨RJ0, "checkBoundsBeginEnd", "(III)V"⟩
def RJ1 : String := "java/lang/StringLatin1"
abbrev cJ1_charAt_3b067 : ByteArray := prog_18_method_2_code
def yJ1_charAt_3b067 : MethodName := ⟨RJ1, "charAt", "([BI)C"⟩
abbrev cJ1_canEncode_9a6ad : ByteArray := prog_18_method_4_code
def yJ1_canEncode_9a6ad : MethodName := ⟨RJ1, "canEncode", "(I)Z"⟩
abbrev cJ1_indexOf_4cfef : ByteArray := prog_18_method_22_code
def yJ1_indexOf_4cfef : MethodName := ⟨RJ1, "indexOf", "([BIII)I"⟩
abbrev cJ1_indexOfChar_4cfef : ByteArray := prog_18_method_23_code
def yJ1_indexOfChar_4cfef : MethodName := ⟨RJ1, "indexOfChar", "([BIII)I"⟩
def RJ2 : String := "java/lang/StringUTF16"
abbrev cJ2_getChar_3b067 : ByteArray := prog_19_method_5_code
def yJ2_getChar_3b067 : MethodName := ⟨RJ2, "getChar", "([BI)C"⟩
abbrev cJ2_length_9d52b : ByteArray := prog_19_method_6_code
def yJ2_length_9d52b : MethodName := ⟨RJ2, "length", "([B)I"⟩
abbrev cJ2_indexOf_4cfef : ByteArray := prog_19_method_40_code
def yJ2_indexOf_4cfef : MethodName := ⟨RJ2, "indexOf", "([BIII)I"⟩
abbrev cJ2_indexOfChar_4cfef : ByteArray := prog_19_method_47_code
def yJ2_indexOfChar_4cfef : MethodName := ⟨RJ2, "indexOfChar", "([BIII)I"⟩
abbrev cJ2_indexOfCharUnsafe_4cfef : ByteArray := prog_19_method_48_code
def yJ2_indexOfCharUnsafe_4cfef : MethodName := ⟨RJ2, "indexOfCharUnsafe", "([BIII)I"⟩
abbrev cJ2_indexOfSupplementary_4cfef : ByteArray := prog_19_method_49_code
def yJ2_indexOfSupplementary_4cfef : MethodName := ⟨RJ2, "indexOfSupplementary", "([BIII)I"⟩
abbrev cJ2_charAt_3b067 : ByteArray := prog_19_method_83_code
def yJ2_charAt_3b067 : MethodName := ⟨RJ2, "charAt", "([BI)C"⟩
abbrev cJ2_checkIndex_2214a : ByteArray := prog_19_method_91_code
def yJ2_checkIndex_2214a : MethodName := ⟨RJ2, "checkIndex", "(I[B)V"⟩
abbrev cJ2_checkBoundsBeginEnd_d044e : ByteArray := prog_19_method_93_code
def yJ2_checkBoundsBeginEnd_d044e : MethodName := ⟨RJ2, "checkBoundsBeginEnd", "(II[B)V"⟩
def RJ10 : String := "java/lang/System"
def RJ3 : String := "jdk/internal/util/Preconditions"
abbrev cJ3_checkIndex_8e157 : ByteArray := prog_21_method_11_code
def yJ3_checkIndex_8e157 : MethodName := ⟨RJ3, "checkIndex", "(IILjava/util/function/BiFunction;)I"⟩
abbrev cJ3_checkFromToIndex_8c36e : ByteArray := prog_21_method_12_code
def yJ3_checkFromToIndex_8c36e : MethodName := ⟨RJ3, "checkFromToIndex", "(IIILjava/util/function/BiFunction;)I"⟩
def RL : String := "NowhereMoneyLaw"
abbrev cL_law : ByteArray := code
def yL_law : MethodName := ⟨RL, "law", "([I)Z"⟩
abbrev vwCl : List vw_C := [(RX0, TX0, 6), (RX1, TX1, 2), (RX2, TX2, 10), (RX3, TX3, 9), (RX4, TX4, 4), (RX5, TX5, 8), (RX6, TX6, 2), (RX7, TX7, 2), (RX8, TX8, 6), (RX9, TX9, 9), (RX10, TX10, 15), (RX11, TX11, 31)]
end
section
/-! A small machine of my own: shapes of cells, an int memory, code lists with their pool resolved. -/
abbrev am_R : Type := Nat × Nat × Nat × Nat
abbrev am_I : Type := Nat × Instr × am_R
abbrev am_Sh : Type := List (Nat × List Value)
abbrev am_M : Type := Nat → Nat → Int32
abbrev am_L : Type := List (Option Value)
/-- an int constant: (_, size, sign, _) -/
def am_k (r : am_R) : Int32 := match r.2.2.1 with
  | 0 => nI r.2.1
  | _ => - nI r.2.1
def am_row (μ : am_M) (c : Nat) (f : Nat → Int32) : am_M := fun c' => if c' = c then f else μ c'
def am_get (ls : am_L) (i : Nat) : Option Value := match ls[i]? with
  | some (some v) => some v
  | _ => none
def am_cat2 (o : Option (Option Value)) : Bool := match o with
  | some (some v) => Nat.beq v.category 2
  | _ => false
def am_clr (ls : am_L) (i : Nat) : am_L := match i with
  | 0 => ls
  | j + 1 => match am_cat2 ls[j]? with
    | true => ls.set j none
    | false => ls
def am_set (ls : am_L) (i : Nat) (v : Value) : am_L := (am_clr ls i).set i (some v)
def am_set2 (ls : am_L) (i : Nat) (v : Value) : am_L := ((am_clr ls i).set i (some v)).set (i + 1) none
def am_ldI (ls : am_L) (j : Nat) (st : List Value) : Option (am_L × List Value) := match am_get ls j with
  | some (.int x) => some (ls, .int x :: st)
  | _ => none
def am_ldL (ls : am_L) (j : Nat) (st : List Value) : Option (am_L × List Value) := match am_get ls j with
  | some (.long x) => some (ls, .long x :: st)
  | _ => none
def am_ldA (ls : am_L) (j : Nat) (st : List Value) : Option (am_L × List Value) := match am_get ls j with
  | some (.ref x) => some (ls, .ref x :: st)
  | some .null => some (ls, .null :: st)
  | _ => none
def am_stI (ls : am_L) (j : Nat) (st : List Value) : Option (am_L × List Value) := match st with
  | .int x :: t => some (am_set ls j (.int x), t)
  | _ => none
def am_stL (ls : am_L) (j : Nat) (st : List Value) : Option (am_L × List Value) := match st with
  | .long x :: t => some (am_set2 ls j (.long x), t)
  | _ => none
def am_stA (ls : am_L) (j : Nat) (st : List Value) : Option (am_L × List Value) := match st with
  | .ref x :: t => some (am_set ls j (.ref x), t)
  | .null :: t => some (am_set ls j .null, t)
  | _ => none
def am_bin (f : Int32 → Int32 → Int32) (ls : am_L) (st : List Value) : Option (am_L × List Value) := match st with
  | .int y :: .int x :: t => some (ls, .int (f x y) :: t)
  | _ => none
def am_binL (f : Int64 → Int64 → Int64) (ls : am_L) (st : List Value) : Option (am_L × List Value) := match st with
  | .long y :: .long x :: t => some (ls, .long (f x y) :: t)
  | _ => none
def am_un (f : Int32 → Value) (ls : am_L) (st : List Value) : Option (am_L × List Value) := match st with
  | .int x :: t => some (ls, f x :: t)
  | _ => none
/-- strings: how many, their lengths, their bytes -/
def am_sN : Nat := 21
def am_sT : List String := ["hold", "limit", "fee", "when", "o\x72", "and", "not", "amount", "fa\x72", "rail", "house", "weekday", "book", "count", "cry", "turn", "round", "match", "low", "", ";+-*/()<=>"]
def am_sB : List (List Int32) := am_sT.map (fun s => s.toList.map (fun c => nI c.toNat))
def am_sL : List Nat := am_sB.map List.length
/-- the length of what arraylength is asked of -/
def am_alen (L : Nat) (S : am_Sh) (c : Nat) : Option Nat := match S[c]? with
  | some (kd, vs) => bif Nat.ble 100 kd then some (kd - 100) else bif Nat.beq kd 98 then some vs.length else none
  | none => bif Nat.beq c 3000 then some L else bif Nat.ble 2000 c && Nat.blt c (2000 + am_sN) then some (am_sL.getD (c - 2000) 0) else none
/-- the length of an int array that iaload is asked of -/
def am_ilen (L : Nat) (S : am_Sh) (c : Nat) : Option Nat := match S[c]? with
  | some (kd, _) => bif Nat.ble 100 kd then some (kd - 100) else none
  | none => bif Nat.beq c 3000 then some L else none
def am_getf (S : am_Sh) (r : am_R) (ls : am_L) (st : List Value) (μ : am_M) : Option (am_L × List Value) := match st with
  | .ref c :: t => match r.1 with
    | 0 => match S[c]? with
      | some (kd, vs) => bif Nat.beq kd r.2.1 then (match vs[r.2.2.1]? with
        | some (.int _) => some (ls, .int (μ c r.2.2.1) :: t)
        | some (.ref a) => some (ls, .ref a :: t)
        | some .null => some (ls, .null :: t)
        | _ => none) else none
      | none => none
    | 6 => bif Nat.ble 1000 c && Nat.blt c (1000 + am_sN) then (match r.2.1 with
      | 0 => some (ls, .ref (c + 1000) :: t)
      | _ => some (ls, .int 0 :: t)) else none
    | _ => none
  | _ => none
def am_pure (L : Nat) (S : am_Sh) (i : Instr) (r : am_R) (ls : am_L) (st : List Value) (μ : am_M) : Option (am_L × List Value) := match i with
  | .iconst _ => some (ls, .int (am_k r) :: st)
  | .bipush _ => some (ls, .int (am_k r) :: st)
  | .sipush _ => some (ls, .int (am_k r) :: st)
  | .ldc _ => (match r.1 with
    | 3 => some (ls, .int (am_k r) :: st)
    | 4 => some (ls, .ref (1000 + r.2.1) :: st)
    | _ => none)
  | .ldc_w _ => (match r.1 with
    | 3 => some (ls, .int (am_k r) :: st)
    | _ => none)
  | .ldc2_w _ => (match r.1 with
    | 5 => some (ls, .long (lN r.2.1) :: st)
    | _ => none)
  | .aconst_null => some (ls, .null :: st)
  | .iload j => am_ldI ls j st
  | .iload_n j => am_ldI ls j.val st
  | .lload j => am_ldL ls j st
  | .lload_n j => am_ldL ls j.val st
  | .aload j => am_ldA ls j st
  | .aload_n j => am_ldA ls j.val st
  | .istore j => am_stI ls j st
  | .istore_n j => am_stI ls j.val st
  | .lstore j => am_stL ls j st
  | .lstore_n j => am_stL ls j.val st
  | .astore j => am_stA ls j st
  | .astore_n j => am_stA ls j.val st
  | .iinc j _ => (match am_get ls j with
    | some (.int x) => some (am_set ls j (.int (x + am_k r)), st)
    | _ => none)
  | .iadd => am_bin (· + ·) ls st
  | .isub => am_bin (· - ·) ls st
  | .imul => am_bin (· * ·) ls st
  | .iand => am_bin (· &&& ·) ls st
  | .ior => am_bin (· ||| ·) ls st
  | .ixor => am_bin (· ^^^ ·) ls st
  | .ishl => am_bin (fun x y => x <<< (y &&& 31)) ls st
  | .ishr => am_bin (fun x y => x >>> (y &&& 31)) ls st
  | .iushr => am_bin (fun x y => (x.toUInt32 >>> (y.toUInt32 &&& Int32.toUInt32 31)).toInt32) ls st
  | .ladd => am_binL (· + ·) ls st
  | .lmul => am_binL (· * ·) ls st
  | .ineg => am_un (fun x => .int (-x)) ls st
  | .i2l => am_un (fun x => .long x.toInt64) ls st
  | .i2c => am_un (fun x => .int (x.toUInt32 % 65536).toInt32) ls st
  | .l2i => (match st with
    | .long x :: t => some (ls, .int x.toInt32 :: t)
    | _ => none)
  | .lcmp => (match st with
    | .long y :: .long x :: t => some (ls, .int (lg_cmp x y) :: t)
    | _ => none)
  | .dup => (match st with
    | .int x :: t => some (ls, .int x :: .int x :: t)
    | .ref x :: t => some (ls, .ref x :: .ref x :: t)
    | _ => none)
  | .dup2 => (match st with
    | .int y :: .int x :: t => some (ls, .int y :: .int x :: .int y :: .int x :: t)
    | .int y :: .ref x :: t => some (ls, .int y :: .ref x :: .int y :: .ref x :: t)
    | _ => none)
  | .pop => (match st with
    | .int _ :: t => some (ls, t)
    | .ref _ :: t => some (ls, t)
    | _ => none)
  | .arraylength => (match st with
    | .ref c :: t => (match am_alen L S c with
      | some n => some (ls, .int (nI n) :: t)
      | none => none)
    | _ => none)
  | .getfield _ => am_getf S r ls st μ
  | .getstatic _ => (match r.1 with
    | 9 => (match r.2.1 with
      | 0 => some (ls, .int 1 :: st)
      | _ => some (ls, .ref 3001 :: st))
    | _ => none)
  | _ => none
def am_inb (i : Int32) (n : Nat) : Bool := !(decide (i < 0)) && Nat.blt i.toNatClampNeg n
/-- the fields of a new object of a class: marks of its int places, null else -/
def am_def (ci : Nat) : List Value := match ci with
  | 0 => [.null, .null, .null, .null, .null, .int 0]
  | 1 => [.null, .int 0]
  | 2 => [.null, .null, .null, .null, .null, .null, .null, .null, .int 0, .int 0]
  | 3 => [.null, .null, .null, .null, .int 0, .int 0, .int 0, .int 0, .int 0]
  | 4 => [.null, .null, .int 0, .int 0]
  | 5 => [.null, .null, .null, .null, .null, .null, .int 0, .int 0]
  | 6 => [.null, .int 0]
  | 7 => [.null, .null]
  | 8 => [.null, .null, .int 0, .int 0, .int 0, .int 0]
  | 9 => [.null, .null, .null, .null, .null, .null, .null, .int 0, .int 0]
  | 10 => [.null, .null, .null, .null, .null, .null, .null, .null, .null, .int 0, .int 0, .int 0, .int 0, .int 0, .int 0]
  | 11 => [.null, .null, .null, .int 0, .null, .null, .null, .null, .null, .int 0, .int 0, .int 0, .int 0, .int 0, .int 0, .int 0, .int 0, .int 0, .int 0, .int 0, .int 0, .int 0, .null, .int 0, .null, .null, .int 0, .int 0, .int 0, .int 0, .null]
  | _ => []

def am_eff (L : Nat) (d : Nat) (S : am_Sh) (i : Instr) (r : am_R) (st : List Value) (μ : am_M) : Option (Bool × List Value × am_Sh × am_M) := match i with
  | .iaload => (match st with
    | .int i :: .ref c :: t => (match am_ilen L S c with
      | some n => some (am_inb i n, .int (μ c i.toNatClampNeg) :: t, S, μ)
      | none => none)
    | _ => none)
  | .baload => (match st with
    | .int i :: .ref c :: t => bif Nat.ble 2000 c && Nat.blt c (2000 + am_sN) then some (am_inb i (am_sL.getD (c - 2000) 0), .int ((am_sB.getD (c - 2000) []).getD i.toNatClampNeg 0) :: t, S, μ) else none
    | _ => none)
  | .aaload => (match st with
    | .int i :: .ref c :: t => (match S[c]? with
      | some (kd, vs) => bif Nat.beq kd 98 then (match vs[i.toNatClampNeg]? with
        | some (.ref a) => some (am_inb i vs.length, .ref a :: t, S, μ)
        | _ => none) else none
      | none => none)
    | _ => none)
  | .iastore => (match st with
    | .int x :: .int i :: .ref c :: t => (match S[c]? with
      | some (kd, _) => bif Nat.ble 100 kd then some (am_inb i (kd - 100), t, S, am_row μ c (upd (μ c) i.toNatClampNeg x)) else none
      | none => none)
    | _ => none)
  | .aastore => (match st with
    | .ref v :: .int i :: .ref c :: t => (match S[c]?, S[v]? with
      | some (kd, vs), some (5, _) => bif Nat.beq kd 98 then some (am_inb i vs.length, t, S.set c (98, vs.set i.toNatClampNeg (.ref v)), μ) else none
      | _, _ => none)
    | _ => none)
  | .putfield _ => (match st with
    | v :: .ref c :: t => (match r.1, S[c]? with
      | 0, some (kd, vs) => bif Nat.beq kd r.2.1 then (match vs[r.2.2.1]?, v with
        | some (.int _), .int x => some (Nat.beq r.2.2.2 0 || (Nat.beq r.2.2.2 1 && (decide (x = 0) || decide (x = 1))), t, S, am_row μ c (upd (μ c) r.2.2.1 x))
        | some .null, .ref a => some (Nat.beq r.2.2.2 2, t, S.set c (kd, vs.set r.2.2.1 (.ref a)), μ)
        | some .null, .null => some (Nat.beq r.2.2.2 2, t, S.set c (kd, vs.set r.2.2.1 .null), μ)
        | _, _ => none) else none
      | _, _ => none)
    | _ => none)
  | .idiv => (match st with
    | .int y :: .int x :: t => some (!(decide (y = 0)), .int (x / y) :: t, S, μ)
    | _ => none)
  | .irem => (match st with
    | .int y :: .int x :: t => some (!(decide (y = 0)), .int (x - x / y * y) :: t, S, μ)
    | _ => none)
  | .ldiv => (match st with
    | .long y :: .long x :: t => some (!(decide (y = 0)), .long (x / y) :: t, S, μ)
    | _ => none)
  | .invokestatic _ => (match r.1, st with
    | 7, .int n :: .int dp :: .ref c1 :: .int sp :: .ref c0 :: t => (match S[c0]?, S[c1]? with
      | some (k0, _), some (k1, _) => bif Nat.ble 100 k0 && Nat.ble 100 k1 then
          some (Nat.blt 0 d && Nat.ble (t.map Value.category).sum 8 && (!(decide (sp < 0)) && (!(decide (dp < 0)) && (!(decide (n < 0)) && (Nat.ble (sp.toNatClampNeg + n.toNatClampNeg) (k0 - 100) && Nat.ble (dp.toNatClampNeg + n.toNatClampNeg) (k1 - 100))))), t, S, am_row μ c1 (va_cpy (μ c0) (μ c1) sp.toNatClampNeg dp.toNatClampNeg n.toNatClampNeg)) else none
      | _, _ => none)
    | _, _ => none)
  | .invokespecial _ => (match r.1, st with
    | 8, .ref _ :: t => some (Nat.blt 0 d && Nat.ble (t.map Value.category).sum 8, t, S, μ)
    | _, _ => none)
  | .new _ => (match r.1 with
    | 2 => some (Nat.blt S.length 900, .ref S.length :: st, S ++ [(r.2.1, am_def r.2.1)], am_row μ S.length (fun _ => 0))
    | _ => none)
  | .newarray .int => (match st with
    | .int n :: t => some (Nat.blt S.length 900 && !(decide (n < 0)) && Nat.ble n.toNatClampNeg 100000, .ref S.length :: t, S ++ [(100 + n.toNatClampNeg, [])], am_row μ S.length (fun _ => 0))
    | _ => none)
  | .anewarray _ => (match r.1, st with
    | 10, .int n :: t => some (Nat.blt S.length 900 && !(decide (n < 0)) && Nat.ble n.toNatClampNeg 100000, .ref S.length :: t, S ++ [(98, List.replicate n.toNatClampNeg .null)], μ)
    | _, _ => none)
  | _ => none
def am_cmp (c : ClassFile.Cond) (x y : Int32) : Bool := match c with
  | .eq => decide (x = y)
  | .ne => !(decide (x = y))
  | .lt => decide (x < y)
  | .ge => decide (y ≤ x)
  | .gt => decide (y < x)
  | .le => decide (x ≤ y)
def am_cmpP (c : ClassFile.Cond) (x y : Int32) : Prop := match c with
  | .eq => x = y
  | .ne => ¬ x = y
  | .lt => x < y
  | .ge => y ≤ x
  | .gt => y < x
  | .le => x ≤ y
/-- a jump: whether, whither, the stack -/
def am_jmp (i : Instr) (r : am_R) (pc : Nat) (st : List Value) : Option (Bool × Nat × List Value) := match i with
  | .goto _ => some (true, r.2.1, st)
  | .ifCond c _ => (match st with
    | .int x :: t => some (am_cmp c x 0, r.2.1, t)
    | _ => none)
  | .if_icmp c _ => (match st with
    | .int y :: .int x :: t => some (am_cmp c x y, r.2.1, t)
    | _ => none)
  | .ifnull _ => (match st with
    | .null :: t => some (true, r.2.1, t)
    | .ref _ :: t => some (false, r.2.1, t)
    | _ => none)
  | .tableswitch dflt lo hi offs => (match st with
    | .int x :: t => (match decide (x.toInt < lo) || decide (hi < x.toInt) with
      | true => some (true, ((pc : Int) + dflt).toNat, t)
      | false => (match offs[(x.toInt - lo).toNat]? with
        | some o => some (true, ((pc : Int) + o).toNat, t)
        | none => none))
    | _ => none)
  | _ => none
/-- what a value that is answered must keep to: 1 boolean, 2 byte, 3 char -/
def am_nar (t : Nat) (x : Int32) : Bool := match t with
  | 0 => true
  | 1 => decide (x = 0) || decide (x = 1)
  | 2 => decide (x.toInt8.toInt32 = x)
  | _ => decide (x.toUInt32.toUInt16.toUInt32.toInt32 = x)
def am_ret (i : Instr) (r : am_R) (st : List Value) : Option (Bool × Option Value) := match i with
  | .ireturn => (match st with
    | [.int x] => some (am_nar r.2.1 x, some (.int x))
    | _ => none)
  | .lreturn => (match st with
    | [.long x] => some (true, some (.long x))
    | _ => none)
  | .areturn => (match st with
    | [.ref a] => some (true, some (.ref a))
    | _ => none)
  | .return_ => (match st with
    | [] => some (true, none)
    | _ => none)
  | _ => none
/-- n values off the stack, the lowest first, and the rest -/
def am_pop : Nat → List Value → Option (List Value × List Value)
  | 0, st => some ([], st)
  | _ + 1, [] => none
  | n + 1, v :: st => match am_pop n st with
    | some (a, t) => some (a ++ [v], t)
    | none => none
/-- whether a cell is of a class (20: a string) -/
def am_isA (S : am_Sh) (c ci : Nat) : Bool := match S[c]? with
  | some (kd, _) => Nat.beq kd ci && Nat.blt ci 12
  | none => Nat.beq ci 20 && (Nat.ble 1000 c && Nat.blt c (1000 + am_sN))
/-- a call: the method, its arguments, the rest of the stack -/
def am_cal (S : am_Sh) (i : Instr) (r : am_R) (st : List Value) : Option (Nat × List Value × List Value) := match r.1 with
  | 1 => (match am_pop r.2.2.1 st with
    | some (a, t) => (match i with
      | .invokestatic _ => bif Nat.ble (t.map Value.category).sum 8 then some (r.2.1, a, t) else none
      | .invokevirtual _ => (match t with
        | .ref c :: t2 => bif am_isA S c r.2.2.2 && Nat.ble (t2.map Value.category).sum 8 then some (r.2.1, .ref c :: a, t2) else none
        | _ => none)
      | .invokespecial _ => (match t with
        | .ref c :: t2 => bif Nat.ble (t2.map Value.category).sum 8 then some (r.2.1, .ref c :: a, t2) else none
        | _ => none)
      | _ => none)
    | none => none)
  | _ => none
def am_ent : List Value → am_L
  | [] => []
  | v :: vs => bif Nat.beq v.category 2 then some v :: none :: am_ent vs else some v :: am_ent vs
/-- the locals at a method's entry -/
def am_loc (n : Nat) (vs : List Value) : am_L := am_ent vs ++ List.replicate (n - (am_ent vs).length) none
def am_at (k : List am_I) (t : Nat) : List am_I := k.dropWhile (fun e => !(Nat.beq e.1 t))
def am_okV (n : Nat) (v : Value) : Bool := match v with
  | .ref a => Nat.blt a n || Nat.ble 1000 a
  | _ => true
def am_okS (n : Nat) (st : List Value) : Bool := st.all (am_okV n)
def am_okL (n : Nat) (ls : am_L) : Bool := ls.all (fun o => match o with
  | some v => am_okV n v
  | none => true)
def am_okH (n : Nat) (S : am_Sh) : Bool := S.all (fun e => am_okS n e.2)
/-- no new cells; or no reference is loose -/
def am_gr (S S' : am_Sh) (ls : am_L) (st : List Value) : Bool := Nat.beq S'.length S.length || (am_okL S.length ls && (am_okS S.length st && am_okH S.length S))
def am_run (P : Nat → List am_I) (ML : Nat → Nat) (L : Nat) : Nat → Nat → Nat → List am_I → am_L → List Value → am_Sh → am_M → Option (Option Value × am_Sh × am_M)
  | 0, _, _, _, _, _, _, _ => none
  | _ + 1, _, _, [], _, _, _, _ => none
  | n + 1, d, m, (pc, i, r) :: k, ls, st, S, μ =>
    match am_pure L S i r ls st μ with
    | some (ls', st') => am_run P ML L n d m k ls' st' S μ
    | none => match am_eff L d S i r st μ with
      | some (g, st', S', μ') => (match g && am_gr S S' ls st with
        | true => am_run P ML L n d m k ls st' S' μ'
        | false => none)
      | none => match am_jmp i r pc st with
        | some (b, t, st') => (match b with
          | true => am_run P ML L n d m (am_at (P m) t) ls st' S μ
          | false => am_run P ML L n d m k ls st' S μ)
        | none => match am_ret i r st with
          | some (g, rv) => (match g with
            | true => some (rv, S, μ)
            | false => none)
          | none => match am_cal S i r st with
            | some (m', a, t) => (match d with
              | 0 => none
              | d' + 1 => match Nat.ble (am_ent a).length (ML m') with
                | false => none
                | true => match am_run P ML L n d' m' (P m') (am_loc (ML m') a) [] S μ with
                  | some (rv, S', μ') => (match am_gr S S' ls t with
                    | true => am_run P ML L n (d' + 1) m k ls (rv.toList ++ t) S' μ'
                    | false => none)
                  | none => none)
            | none => none
end
section
/-! The words: what the small machine's cells, locals and values are on the real one. -/
abbrev am_G : Type := (Nat → Nat) × (Nat → Nat) × Nat × Nat
/-- the address of a reference of the small machine -/
def am_ad (G : am_G) (al : List Nat) (c : Nat) : Nat := bif Nat.blt c 1000 then al.getD c 0 else bif Nat.blt c 2000 then G.1 (c - 1000) else bif Nat.blt c 3000 then G.2.1 (c - 2000) else bif Nat.beq c 3000 then G.2.2.1 else G.2.2.2
def am_tr (G : am_G) (al : List Nat) (v : Value) : Value := match v with
  | .ref c => .ref (am_ad G al c)
  | v => v
theorem am_tr_cat {G : am_G} {al : List Nat} {v : Value} : (am_tr G al v).category = v.category := by cases v <;> rfl
/-- the locals that are known, by their places -/
def am_prs (f : Value → Value) : Nat → am_L → List (Nat × Value)
  | _, [] => []
  | k, none :: t => am_prs f (k + 1) t
  | k, some v :: t => (k, f v) :: am_prs f (k + 1) t
theorem am_prs_mem {f : Value → Value} : ∀ (ls : am_L) (k : Nat) (q : Nat × Value), q ∈ am_prs f k ls ↔ ∃ (j : Nat) (u : Value), q.1 = k + j ∧ ls[j]? = some (some u) ∧ q.2 = f u := by
  intro ls
  induction ls with
  | nil => intro k q; simp [am_prs]
  | cons o t ih =>
    intro k q
    cases o with
    | none =>
      rw [am_prs, ih]
      constructor
      · rintro ⟨j, u, h1, h2, h3⟩
        exact ⟨j + 1, u, by omega, by simpa using h2, h3⟩
      · rintro ⟨j, u, h1, h2, h3⟩
        cases j with
        | zero => simp at h2
        | succ j => exact ⟨j, u, by omega, by simpa using h2, h3⟩
    | some v =>
      rw [am_prs, List.mem_cons, ih]
      constructor
      · rintro (h | ⟨j, u, h1, h2, h3⟩)
        · exact ⟨0, v, by rw [h]; rfl, by simp, by rw [h]⟩
        · exact ⟨j + 1, u, by omega, by simpa using h2, h3⟩
      · rintro ⟨j, u, h1, h2, h3⟩
        cases j with
        | zero =>
          left
          simp at h2
          subst h2
          exact Prod.ext (by simpa using h1) h3
        | succ j => exact Or.inr ⟨j, u, by omega, by simpa using h2, h3⟩
theorem lv_less {ls : Array Slot} {nL : Nat} {l l' : List (Nat × Value)} (h : lv_has ls nL l) (hs : ∀ q ∈ l', q ∈ l) : lv_has ls nL l' := ⟨h.1, h.2.1, fun q hq => h.2.2 q (hs q hq)⟩
def am_hasL (f : Value → Value) (ar : Array Slot) (nL : Nat) (ls : am_L) : Prop := ls.length = nL ∧ lv_has ar nL (am_prs f 0 ls)
theorem am_get_some {ls : am_L} {i : Nat} {v : Value} (h : am_get ls i = some v) : ls[i]? = some (some v) := by
  unfold am_get at h
  split at h
  · cases h; assumption
  · cases h
theorem am_hasL.at {f : Value → Value} {ar : Array Slot} {nL : Nat} {ls : am_L} (h : am_hasL f ar nL ls) {i : Nat} {v : Value} (hv : am_get ls i = some v) : ar[i]? = some (.val (f v)) :=
  h.2.2.2 (i, f v) ((am_prs_mem ls 0 _).mpr ⟨i, v, (Nat.zero_add i).symm, am_get_some hv, rfl⟩)
theorem am_clr_len (ls : am_L) (i : Nat) : (am_clr ls i).length = ls.length := by
  unfold am_clr
  cases i with
  | zero => rfl
  | succ j =>
    dsimp only
    cases am_cat2 ls[j]? <;> simp
theorem am_set_len (ls : am_L) (i : Nat) (v : Value) : (am_set ls i v).length = ls.length := by simp [am_set, am_clr_len]
theorem am_set2_len (ls : am_L) (i : Nat) (v : Value) : (am_set2 ls i v).length = ls.length := by simp [am_set2, am_clr_len]
theorem am_clr_at {ls : am_L} {i j : Nat} {u : Value} (h : (am_clr ls i)[j]? = some (some u)) : ls[j]? = some (some u) ∧ ¬ (j + 1 = i ∧ u.category = 2) := by
  unfold am_clr at h
  cases i with
  | zero => exact ⟨h, fun q => by omega⟩
  | succ k =>
    dsimp only at h
    cases hc : am_cat2 ls[k]? with
    | true =>
      rw [hc] at h
      dsimp only at h
      rw [List.getElem?_set] at h
      by_cases hkj : k = j
      · rw [if_pos hkj] at h
        split at h <;> cases h
      · rw [if_neg hkj] at h
        exact ⟨h, fun q => hkj (by omega)⟩
    | false =>
      rw [hc] at h
      refine ⟨h, fun q => ?_⟩
      have hkj : j = k := by omega
      subst hkj
      have h : ls[j]? = some (some u) := h
      rw [h] at hc
      simp only [am_cat2, q.2] at hc
      cases hc
theorem am_hasL.store {f : Value → Value} (hf : ∀ v, (f v).category = v.category) {ar ar' : Array Slot} {nL : Nat} {ls : am_L} {i : Nat} {v : Value} (h : am_hasL f ar nL ls)
    (h' : lv_has ar' nL ((i, f v) :: (am_prs f 0 ls).filter (fun q => !(q.1 == i) && !(q.1 + 1 == i && q.2.category == 2)))) : am_hasL f ar' nL (am_set ls i v) := by
  refine ⟨by rw [am_set_len]; exact h.1, lv_less h' fun q hq => ?_⟩
  obtain ⟨j, u, h1, h2, h3⟩ := (am_prs_mem _ 0 q).mp hq
  unfold am_set at h2
  rw [List.getElem?_set] at h2
  by_cases hij : i = j
  · rw [if_pos hij] at h2
    split at h2
    · cases h2
      exact List.mem_cons.mpr (Or.inl (Prod.ext (by simp; omega) h3))
    · cases h2
  · rw [if_neg hij] at h2
    obtain ⟨g1, g2⟩ := am_clr_at h2
    refine List.mem_cons.mpr (Or.inr (List.mem_filter.mpr ⟨(am_prs_mem _ 0 q).mpr ⟨j, u, h1, g1, h3⟩, ?_⟩))
    have e1 : q.1 = j := by omega
    rw [e1, h3, hf]
    have e2 : (j == i) = false := by simp; omega
    rw [e2]
    by_cases hc : j + 1 = i
    · have : ¬ u.category = 2 := fun e => g2 ⟨hc, e⟩
      simp [this]
    · simp [hc]
theorem am_hasL.store2 {f : Value → Value} (hf : ∀ v, (f v).category = v.category) {ar ar' : Array Slot} {nL : Nat} {ls : am_L} {i : Nat} {v : Value} (h : am_hasL f ar nL ls)
    (h' : lv_has ar' nL ((i, f v) :: (am_prs f 0 ls).filter (fun q => !(q.1 == i) && (!(q.1 == i + 1) && !(q.1 + 1 == i && q.2.category == 2))))) : am_hasL f ar' nL (am_set2 ls i v) := by
  refine ⟨by rw [am_set2_len]; exact h.1, lv_less h' fun q hq => ?_⟩
  obtain ⟨j, u, h1, h2, h3⟩ := (am_prs_mem _ 0 q).mp hq
  unfold am_set2 at h2
  rw [List.getElem?_set] at h2
  by_cases hij2 : i + 1 = j
  · rw [if_pos hij2] at h2
    split at h2 <;> cases h2
  rw [if_neg hij2, List.getElem?_set] at h2
  by_cases hij : i = j
  · rw [if_pos hij] at h2
    split at h2
    · cases h2
      exact List.mem_cons.mpr (Or.inl (Prod.ext (by simp; omega) h3))
    · cases h2
  · rw [if_neg hij] at h2
    obtain ⟨g1, g2⟩ := am_clr_at h2
    refine List.mem_cons.mpr (Or.inr (List.mem_filter.mpr ⟨(am_prs_mem _ 0 q).mpr ⟨j, u, h1, g1, h3⟩, ?_⟩))
    have e1 : q.1 = j := by omega
    rw [e1, h3, hf]
    have e2 : (j == i) = false := by simp; omega
    have e3 : (j == i + 1) = false := by simp; omega
    rw [e2, e3]
    by_cases hc : j + 1 = i
    · have : ¬ u.category = 2 := fun e => g2 ⟨hc, e⟩
      simp [this]
    · simp [hc]
theorem am_prs_congr {f g : Value → Value} : ∀ (ls : am_L) (k : Nat), (∀ u, some u ∈ ls → f u = g u) → am_prs f k ls = am_prs g k ls := by
  intro ls
  induction ls with
  | nil => intro k _; rfl
  | cons o t ih =>
    intro k h
    cases o with
    | none => rw [am_prs, am_prs]; exact ih _ (fun u hu => h u (List.mem_cons_of_mem _ hu))
    | some v => rw [am_prs, am_prs, h v List.mem_cons_self, ih _ (fun u hu => h u (List.mem_cons_of_mem _ hu))]
/-- the locals at a method's entry -/
theorem am_ent_prs {f : Value → Value} (hf : ∀ v, (f v).category = v.category) : ∀ (vs : List Value) (k n : Nat), am_prs f k (am_ent vs ++ List.replicate n none) = lv_args k (vs.map f) := by
  have h0 : ∀ (n k : Nat), am_prs f k (List.replicate n none) = [] := by
    intro n
    induction n with
    | zero => intro k; rfl
    | succ n ih => intro k; rw [List.replicate_succ, am_prs, ih]
  intro vs
  induction vs with
  | nil => intro k n; simp only [am_ent, List.nil_append, List.map_nil, lv_args]; exact h0 n k
  | cons v t ih =>
    intro k n
    rw [am_ent, List.map_cons, lv_args, hf]
    by_cases h : v.category = 2
    · have hb : Nat.beq v.category 2 = true := by rw [h]; rfl
      rw [hb, if_pos h]
      show am_prs f k (some v :: none :: (am_ent t ++ List.replicate n none)) = _
      rw [am_prs, am_prs, ih]
    · have hb : Nat.beq v.category 2 = false := by
        cases hq : Nat.beq v.category 2 with
        | true => exact absurd (Nat.eq_of_beq_eq_true hq) h
        | false => rfl
      rw [hb, if_neg h]
      show am_prs f k (some v :: (am_ent t ++ List.replicate n none)) = _
      rw [am_prs, ih]
theorem am_ent_len {f : Value → Value} (hf : ∀ v, (f v).category = v.category) : ∀ vs : List Value, (am_ent vs).length = (lg_sl (vs.map f)).length := by
  intro vs
  induction vs with
  | nil => rfl
  | cons v t ih =>
    rw [am_ent, List.map_cons]
    have e : lg_sl (f v :: t.map f) = (if (f v).category = 2 then [.val (f v), .second] else [.val (f v)]) ++ lg_sl (t.map f) := rfl
    rw [e, hf]
    by_cases h : v.category = 2
    · have hb : Nat.beq v.category 2 = true := by rw [h]; rfl
      rw [hb, if_pos h]
      simp [ih]
    · have hb : Nat.beq v.category 2 = false := by
        cases hq : Nat.beq v.category 2 with
        | true => exact absurd (Nat.eq_of_beq_eq_true hq) h
        | false => rfl
      rw [hb, if_neg h]
      simp [ih]
/-! cells -/
def am_fld (G : am_G) (al : List Nat) (μ : am_M) (c k : Nat) (v : Value) : Value := match v with
  | .int _ => .int (μ c k)
  | v => am_tr G al v
def am_qf (G : am_G) (al : List Nat) (vs : List Value) (j : Nat) : Option Nat := match vs[j]? with
  | some (.ref a) => some (am_ad G al a)
  | _ => none
def am_cell (G : am_G) (dA dB : ClassId) (al : List Nat) (μ : am_M) (c : Nat) (e : Nat × List Value) : va_E :=
  bif Nat.blt e.1 50 then .inr (e.1, e.2.mapIdx (am_fld G al μ c))
  else bif Nat.ble 100 e.1 then .inl (dA, e.1 - 100, .inl (μ c))
  else .inl (dB, e.2.length, .inr (.inr (.inr (.inr (am_qf G al e.2)))))
def am_conc (G : am_G) (dA dB : ClassId) (al : List Nat) (S : am_Sh) (μ : am_M) : va_W := S.mapIdx (fun c e => (al.getD c 0, am_cell G dA dB al μ c e))
theorem am_conc_at (G : am_G) (dA dB : ClassId) (al : List Nat) (S : am_Sh) (μ : am_M) (c : Nat) : (am_conc G dA dB al S μ)[c]? = S[c]?.map (fun e => (al.getD c 0, am_cell G dA dB al μ c e)) := by
  unfold am_conc
  rw [List.getElem?_mapIdx]
theorem am_cell_row {G : am_G} {dA dB : ClassId} {al : List Nat} {μ : am_M} {c c' : Nat} {f : Nat → Int32} {e : Nat × List Value} (h : c' ≠ c) : am_cell G dA dB al (am_row μ c f) c' e = am_cell G dA dB al μ c' e := by
  have h1 : am_row μ c f c' = μ c' := by unfold am_row; rw [if_neg h]
  have h2 : am_fld G al (am_row μ c f) c' = am_fld G al μ c' := by
    funext k v
    cases v <;> simp [am_fld, h1]
  unfold am_cell
  rw [h1, h2]
theorem am_row_at (μ : am_M) (c : Nat) (f : Nat → Int32) : am_row μ c f c = f := by unfold am_row; rw [if_pos rfl]
theorem am_row_ne {μ : am_M} {c c' : Nat} {f : Nat → Int32} (h : c' ≠ c) : am_row μ c f c' = μ c' := by unfold am_row; rw [if_neg h]
/-- one cell written -/
theorem am_conc_set {G : am_G} {dA dB : ClassId} {al : List Nat} {S : am_Sh} {μ : am_M} {c : Nat} {e' : Nat × List Value} {f : Nat → Int32} {x : va_E} (hc : c < S.length) (hx : am_cell G dA dB al (am_row μ c f) c e' = x) :
    (am_conc G dA dB al S μ).set c (al.getD c 0, x) = am_conc G dA dB al (S.set c e') (am_row μ c f) := by
  apply List.ext_getElem?
  intro j
  rw [List.getElem?_set, am_conc_at, am_conc_at, List.getElem?_set]
  by_cases h : c = j
  · subst h
    have hl : c < (am_conc G dA dB al S μ).length := by unfold am_conc; simpa using hc
    rw [if_pos rfl, if_pos rfl, if_pos hl, if_pos hc]
    simp [hx]
  · rw [if_neg h, if_neg h]
    congr 1
    funext e
    rw [am_cell_row (fun q => h q.symm)]
end
section
/-! What a code list must keep to; the simulation of the rows that change nothing but locals and stack. -/
def am_len (i : Instr) : Nat := match i with
  | .bipush _ | .ldc _ | .iload _ | .lload _ | .aload _ | .istore _ | .lstore _ | .astore _ | .newarray _ => 2
  | .sipush _ | .ldc_w _ | .ldc2_w _ | .iinc _ _ | .getfield _ | .putfield _ | .getstatic _ | .invokestatic _ | .invokevirtual _ | .invokespecial _ | .new _ | .anewarray _ | .goto _ | .ifCond _ _ | .if_icmp _ _ | .ifnull _ => 3
  | .tableswitch _ _ _ _ => 0
  | _ => 1
def am_W (w : Cond) : Prop := w ∈ lw_tbl ∧ goodWord w = true
def am_ws : List Cond := lw_tbl.filter goodWord
theorem am_W.mem {w : Cond} (h : am_W w) : w ∈ am_ws := List.mem_filter.mpr h
/-- names of the classes that own code: 0 .. 11 the program's, 20 .. the JDK's, 30 the law -/
def am_cn (k : Nat) : String := match k with
  | 0 => RX0 | 1 => RX1 | 2 => RX2 | 3 => RX3 | 4 => RX4 | 5 => RX5 | 6 => RX6 | 7 => RX7 | 8 => RX8 | 9 => RX9 | 10 => RX10 | 11 => RX11
  | 20 => RJ0 | 21 => RJ1 | 22 => RJ3 | 23 => RJ9 | 24 => RJ6 | _ => RL
/-- the tables of the program: code, locals, class of the code, names, bytes, answers; the pool; the strings' places (class, index, number) -/
abbrev am_T : Type := (Nat → List am_I) × (Nat → Nat) × (Nat → Nat) × (Nat → MethodName) × (Nat → ByteArray) × (Nat → Option FieldType) × List (Nat × Nat × am_R) × List (Nat × Nat × Nat) × List (Nat × Nat × Nat)
def am_P (t : am_T) := t.1
def am_ML (t : am_T) := t.2.1
def am_O (t : am_T) (m : Nat) : String := am_cn (t.2.2.1 m)
def am_Y (t : am_T) := t.2.2.2.1
def am_B (t : am_T) := t.2.2.2.2.1
def am_RT (t : am_T) := t.2.2.2.2.2.1
def am_pl (t : am_T) := t.2.2.2.2.2.2.1
def am_ss (t : am_T) := t.2.2.2.2.2.2.2.1
def am_ns (t : am_T) := t.2.2.2.2.2.2.2.2
/-- what a pool entry says of the words -/
def am_PW (t : am_T) (own : String) (x : Nat) (r : am_R) : Prop := match r.1 with
  | 0 => ∃ (C : String) (T : u_T) (N : Nat) (ty : FieldType), vwCl[r.2.1]? = some (C, T, N) ∧ r.2.2.1 < N ∧ r.2.1 < 12 ∧ (T r.2.2.1).1 = C ∧ am_W (.fieldLink own x C (T r.2.2.1).2.1 (T r.2.2.1).2.2.1) ∧ parseFieldDescriptor (T r.2.2.1).2.2.1 = some ty ∧ (r.2.2.2 = 0 → ty = .int) ∧ (r.2.2.2 = 1 → ty = .boolean) ∧ (r.2.2.2 = 2 → (∃ n, ty = .object n) ∨ ∃ e, ty = .array e)
  | 1 => ((am_Y t r.2.1).cls ≠ "java/lang/invoke/MethodHandle" ∧ (am_Y t r.2.1).cls ≠ "java/lang/invoke/VarHandle") ∧ (parseMethodDescriptor (am_Y t r.2.1).desc).map (fun d => d.parameters.length) = some r.2.2.1 ∧ plainName (am_Y t r.2.1).cls = true ∧ am_W (.code (am_Y t r.2.1) (am_B t r.2.1) (am_ML t r.2.1) (am_RT t r.2.1)) ∧ am_W (.initialized (am_Y t r.2.1).cls) ∧ (am_W (.methodLink own x (am_Y t r.2.1)) ∨ ∃ oc, own = am_cn oc ∧ (oc, x, r.2.1) ∈ am_ns t) ∧ (r.2.2.2 = 99 → am_W (.static (am_Y t r.2.1))) ∧ (r.2.2.2 = 98 → (am_Y t r.2.1).name = "<init>" ∧ am_RT t r.2.1 = none ∧ am_W (.instanceMethod (am_Y t r.2.1))) ∧ (r.2.2.2 < 98 → (am_Y t r.2.1).cls = am_cn r.2.2.2 ∧ am_W (.instanceMethod (am_Y t r.2.1)) ∧ am_W (.selects (am_Y t r.2.1).cls (am_Y t r.2.1) (am_Y t r.2.1))) ∧ am_ML t r.2.1 ≤ 150 ∧ r.2.1 < 1000
  | 2 => ∃ (C : String) (T : u_T) (N : Nat), vwCl[r.2.1]? = some (C, T, N) ∧ am_W (.classLink own x C) ∧ am_W (.instantiable C N) ∧ am_W (.initialized C)
  | 3 => am_W (.constant own x (am_k r))
  | 5 => am_W (.constantLong own x (lN r.2.1))
  | 6 => (r.2.1 = 0 ∧ am_W (.fieldLink own x "java/lang/String" "value" "[B")) ∨ (r.2.1 = 1 ∧ am_W (.fieldLink own x "java/lang/String" "coder" "B"))
  | 7 => am_W (.methodLink own x arraycopyName) ∧ am_W (.native arraycopyName) ∧ am_W (.static arraycopyName) ∧ am_W (.initialized "java/lang/System")
  | 8 => am_W (.methodLink own x Lib.objectInit) ∧ am_W (.instanceMethod Lib.objectInit) ∧ am_W (.code Lib.objectInit ⟨#[0xb1]⟩ 1 none)
  | 9 => (r.2.1 = 0 ∧ am_W (.fieldLink own x "java/lang/String" "COMPACT_STRINGS" "Z")) ∨ (r.2.1 = 1 ∧ am_W (.fieldLink own x "jdk/internal/util/Preconditions" "SIOOBE_FORMATTER" "Ljava/util/function/BiFunction;"))
  | 10 => am_W (.classLink own x "NowhereMoney$Script")
  | _ => False
def am_rty (n : Nat) : FieldType := match n with
  | 0 => .int
  | 1 => .boolean
  | 2 => .byte
  | _ => .char
/-- what an instruction asks of what stands beside it -/
def am_GR (t : am_T) (m pc : Nat) (i : Instr) (r : am_R) : Prop := match i with
  | .iconst n => Int32.ofInt n = am_k r
  | .bipush n => (Int8.ofInt n).toInt32 = am_k r
  | .sipush n => (Int16.ofInt n).toInt32 = am_k r
  | .iinc j n => Int32.ofInt n = am_k r ∧ j < am_ML t m
  | .istore j => j < am_ML t m
  | .istore_n j => j.val < am_ML t m
  | .astore j => j < am_ML t m
  | .astore_n j => j.val < am_ML t m
  | .lstore j => j + 1 < am_ML t m
  | .lstore_n j => j.val + 1 < am_ML t m
  | .ldc x => (r.1 = 3 ∧ (t.2.2.1 m, x, r) ∈ am_pl t) ∨ (r.1 = 4 ∧ (t.2.2.1 m, x, r.2.1) ∈ am_ss t ∧ r.2.1 < am_sN)
  | .ldc_w x | .ldc2_w x | .getfield x | .getstatic x | .new x | .anewarray x | .invokevirtual x => (t.2.2.1 m, x, r) ∈ am_pl t
  | .invokestatic x => r.1 ≠ 0 → (t.2.2.1 m, x, r) ∈ am_pl t ∧ (r.1 = 1 → r.2.2.2 = 99)
  | .invokespecial x => (t.2.2.1 m, x, r) ∈ am_pl t ∧ (r.1 = 1 → r.2.2.2 = 98)
  | .putfield x => (t.2.2.1 m, x, r) ∈ am_pl t ∧ (∀ q, vwCl[r.2.1]? = some q → (q.2.1 r.2.2.1).2.2.2 = true → (am_Y t m).name = "<init>" ∧ am_O t m = q.1)
  | .goto o | .ifCond _ o | .if_icmp _ o | .ifnull o => (pc : Int) + o = (r.2.1 : Int)
  | .tableswitch dflt _ _ offs => 0 ≤ (pc : Int) + dflt ∧ ∀ o ∈ offs.toList, 0 ≤ (pc : Int) + o
  | .ireturn => am_RT t m = some (am_rty r.2.1)
  | .lreturn => am_RT t m = some .long
  | .areturn => ∃ n, am_RT t m = some (.object n)
  | .return_ => am_RT t m = none
  | _ => True
def am_dec (b : ByteArray) (pc : Nat) (i : Instr) : Prop := (am_len i ≠ 0 → decode b pc = .ok (i, am_len i)) ∧ (am_len i = 0 → ∃ n, decode b pc = .ok (i, n))
def am_pc (k : List am_I) : Nat := match k with
  | e :: _ => e.1
  | [] => 0
def am_GM (t : am_T) (m : Nat) : Prop := ∀ (e : am_I) (k : List am_I), e :: k <:+ am_P t m → am_dec (am_B t m) e.1 e.2.1 ∧ am_GR t m e.1 e.2.1 e.2.2 ∧ (k ≠ [] → am_len e.2.1 ≠ 0 → am_pc k = e.1 + am_len e.2.1)
def am_Good (t : am_T) : Prop := (∀ m, am_GM t m ∧ am_pc (am_P t m) = 0 ∧ (am_Y t m).cls = am_O t m) ∧ (∀ e ∈ am_pl t, am_PW t (am_cn e.1) e.2.1 e.2.2) ∧ (∀ (ci : Nat) (q : vw_C), vwCl[ci]? = some q → (∀ w ∈ u_ws q.1 q.2.1 q.2.2, am_W w)) ∧ am_W (.arrayClass .int)
/-- the static part of the world -/
def am_St (t : am_T) (D : va_G) (G : am_G) (dA dB : ClassId) (N0 L : Nat) (xs : Nat → Int32) (U : State) (H : Heap) : Prop :=
  va_K D vwCl [(dA, .int), (dB, .object "NowhereMoney$Script")] U ∧ va_AO "NowhereMoney$Script" U ∧ (∀ e ∈ am_ss t, vk_R (am_cn e.1) e.2.1 (am_sT.getD e.2.2 "") (G.1 e.2.2) U) ∧ vk_S am_sN am_sL am_sB G.1 G.2.1 (fun q => N0 ≤ q) U H ∧
  va_Z "java/lang/String" "COMPACT_STRINGS" "Z" (.int 1) (fun q => N0 ≤ q) U H ∧ va_Z "jdk/internal/util/Preconditions" "SIOOBE_FORMATTER" "Ljava/util/function/BiFunction;" (.ref G.2.2.2) (fun q => N0 ≤ q) U H ∧ va_X G.2.2.1 L xs U H ∧ G.2.2.1 < N0 ∧ N0 ≤ H.size ∧ (∀ e ∈ am_ns t, va_Nw (.methodLinkNest (am_cn e.1) e.2.1 (am_Y t e.2.2) "NowhereMoney") U)
def am_Wd (D : va_G) (G : am_G) (dA dB : ClassId) (N0 : Nat) (xs : Nat → Int32) (al : List Nat) (S : am_Sh) (μ : am_M) (H : Heap) : Prop :=
  al.length = S.length ∧ S.length ≤ 900 ∧ μ 3000 = xs ∧ va_P D vwCl (am_conc G dA dB al S μ) H ∧ va_D (fun q => N0 ≤ q) (am_conc G dA dB al S μ)
theorem am_ldI_some {ls ls' : am_L} {j : Nat} {st st' : List Value} (h : am_ldI ls j st = some (ls', st')) : ∃ x, am_get ls j = some (.int x) ∧ ls' = ls ∧ st' = .int x :: st := by
  unfold am_ldI at h
  split at h
  · cases h; exact ⟨_, by assumption, rfl, rfl⟩
  · cases h
theorem am_ldL_some {ls ls' : am_L} {j : Nat} {st st' : List Value} (h : am_ldL ls j st = some (ls', st')) : ∃ x, am_get ls j = some (.long x) ∧ ls' = ls ∧ st' = .long x :: st := by
  unfold am_ldL at h
  split at h
  · cases h; exact ⟨_, by assumption, rfl, rfl⟩
  · cases h
theorem am_ldA_some {ls ls' : am_L} {j : Nat} {st st' : List Value} (h : am_ldA ls j st = some (ls', st')) : (∃ x, am_get ls j = some (.ref x) ∧ ls' = ls ∧ st' = .ref x :: st) ∨ (am_get ls j = some .null ∧ ls' = ls ∧ st' = .null :: st) := by
  unfold am_ldA at h
  split at h
  · cases h; exact Or.inl ⟨_, by assumption, rfl, rfl⟩
  · cases h; exact Or.inr ⟨by assumption, rfl, rfl⟩
  · cases h
theorem am_stI_some {ls ls' : am_L} {j : Nat} {st st' : List Value} (h : am_stI ls j st = some (ls', st')) : ∃ x, st = .int x :: st' ∧ ls' = am_set ls j (.int x) := by
  unfold am_stI at h
  split at h
  · cases h; exact ⟨_, rfl, rfl⟩
  · cases h
theorem am_stL_some {ls ls' : am_L} {j : Nat} {st st' : List Value} (h : am_stL ls j st = some (ls', st')) : ∃ x, st = .long x :: st' ∧ ls' = am_set2 ls j (.long x) := by
  unfold am_stL at h
  split at h
  · cases h; exact ⟨_, rfl, rfl⟩
  · cases h
theorem am_stA_some {ls ls' : am_L} {j : Nat} {st st' : List Value} (h : am_stA ls j st = some (ls', st')) : (∃ x, st = .ref x :: st' ∧ ls' = am_set ls j (.ref x)) ∨ (st = .null :: st' ∧ ls' = am_set ls j .null) := by
  unfold am_stA at h
  split at h
  · cases h; exact Or.inl ⟨_, rfl, rfl⟩
  · cases h; exact Or.inr ⟨rfl, rfl⟩
  · cases h
theorem am_bin_some {f : Int32 → Int32 → Int32} {ls ls' : am_L} {st st' : List Value} (h : am_bin f ls st = some (ls', st')) : ∃ x y u, st = .int y :: .int x :: u ∧ ls' = ls ∧ st' = .int (f x y) :: u := by
  unfold am_bin at h
  split at h
  · cases h; exact ⟨_, _, _, rfl, rfl, rfl⟩
  · cases h
theorem am_binL_some {f : Int64 → Int64 → Int64} {ls ls' : am_L} {st st' : List Value} (h : am_binL f ls st = some (ls', st')) : ∃ x y u, st = .long y :: .long x :: u ∧ ls' = ls ∧ st' = .long (f x y) :: u := by
  unfold am_binL at h
  split at h
  · cases h; exact ⟨_, _, _, rfl, rfl, rfl⟩
  · cases h
theorem am_un_some {f : Int32 → Value} {ls ls' : am_L} {st st' : List Value} (h : am_un f ls st = some (ls', st')) : ∃ x u, st = .int x :: u ∧ ls' = ls ∧ st' = f x :: u := by
  unfold am_un at h
  split at h
  · cases h; exact ⟨_, _, rfl, rfl, rfl⟩
  · cases h
theorem am_sL_of {c : Nat} (h : c < am_sN) : am_sL.getD c 0 < 2 ^ 31 := by
  have : ∀ c, c < 21 → am_sL.getD c 0 < 2 ^ 31 := by decide +kernel
  exact this c h
theorem am_ad_lt {G : am_G} {al : List Nat} {c : Nat} (h : c < 1000) : am_ad G al c = al.getD c 0 := by
  unfold am_ad
  have : Nat.blt c 1000 = true := by unfold Nat.blt; exact Nat.ble_eq_true_of_le h
  rw [this]; rfl
theorem am_blt {a b : Nat} : Nat.blt a b = true ↔ a < b := by unfold Nat.blt; rw [Nat.ble_eq]; exact Iff.rfl
theorem am_ad_str {G : am_G} {al : List Nat} {c : Nat} (h : 1000 ≤ c) (h2 : c < 2000) : am_ad G al c = G.1 (c - 1000) := by
  unfold am_ad
  have e1 : Nat.blt c 1000 = false := by rw [← Bool.not_eq_true, am_blt]; omega
  have e2 : Nat.blt c 2000 = true := am_blt.mpr h2
  rw [e1, e2]; rfl
theorem am_ad_byt {G : am_G} {al : List Nat} {c : Nat} (h : 2000 ≤ c) (h2 : c < 3000) : am_ad G al c = G.2.1 (c - 2000) := by
  unfold am_ad
  have e1 : Nat.blt c 1000 = false := by rw [← Bool.not_eq_true, am_blt]; omega
  have e2 : Nat.blt c 2000 = false := by rw [← Bool.not_eq_true, am_blt]; omega
  have e3 : Nat.blt c 3000 = true := am_blt.mpr h2
  rw [e1, e2, e3]; rfl
theorem am_ad_scr {G : am_G} {al : List Nat} : am_ad G al 3000 = G.2.2.1 := rfl
theorem am_ad_fmt {G : am_G} {al : List Nat} : am_ad G al 3001 = G.2.2.2 := rfl
theorem am_lt_len {α : Type} {l : List α} {i : Nat} {x : α} (h : l[i]? = some x) : i < l.length := (List.getElem?_eq_some_iff.mp h).1
section VAR
variable {p : Program} {l : Launch} {e : Env} {R : Room} {s : State} {mi : MethodId} {args : Array Value} {below : List Frame} {meth : Method} {c : Code} {H : Heap} {locs : List Loc} {cells slots : Nat} {Q : State → Prop}
variable {t : am_T} {D : va_G} {G : am_G} {dA dB : ClassId} {N0 L : Nat} {xs : Nat → Int32} {al : List Nat} {S : am_Sh} {μ : am_M} {m : Nat}
/-- what holds all through a method's body -/
def am_Env (t : am_T) (D : va_G) (G : am_G) (dA dB : ClassId) (N0 L : Nat) (xs : Nat → Int32) (p : Program) (s : State) (mi : MethodId) (args : Array Value) (meth : Method) (c : Code) (m : Nat) : Prop :=
  p.tables.exec = Jvm.exec ∧ c.code = am_B t m ∧ c.maxLocals = am_ML t m ∧ s.vm.findClass (am_O t m) = some mi.cls ∧ (∀ w ∈ am_ws, w.before args s = true) ∧ ((am_Y t m).name = "<init>" → meth.name = "<init>") ∧ am_St t D G dA dB N0 L xs s s.heap
set_option maxHeartbeats 4000000 in
theorem am_sim_pure (hG : am_Good t) (hE : am_Env t D G dA dB N0 L xs p s mi args meth c m) {pc : Nat} {i : Instr} {r : am_R} {ls ls' : am_L} {st st' : List Value} {ar : Array Slot}
    (hrun : am_pure L S i r ls st μ = some (ls', st')) (hdec : am_dec (am_B t m) pc i) (hgr : am_GR t m pc i r) (hW : am_Wd D G dA dB N0 xs al S μ H) (hS : va_S (fun q => N0 ≤ q) s.heap H locs)
    (hl : am_hasL (am_tr G al) ar (am_ML t m) ls)
    (kk : ∀ ar', am_hasL (am_tr G al) ar' (am_ML t m) ls' → W p l e R s mi args below meth c H locs cells slots Q (F0 mi (pc + am_len i) ar' (st'.map (am_tr G al)))) :
    W p l e R s mi args below meth c H locs cells slots Q (F0 mi pc ar (st.map (am_tr G al))) := by
  obtain ⟨hx, hb, hml, hown, hts, hin, hSt⟩ := hE
  have hd := hdec.1
  cases i
  case iconst n =>
    cases hrun
    refine lv_iconst hx hb (hd (Nat.succ_ne_zero _)) hgr ?_
    exact kk ar hl
  case bipush n =>
    cases hrun
    refine lv_bipush hx hb (hd (Nat.succ_ne_zero _)) hgr ?_
    exact kk ar hl
  case sipush n =>
    cases hrun
    refine lv_sipush hx hb (hd (Nat.succ_ne_zero _)) hgr ?_
    exact kk ar hl
  case iload j =>
    obtain ⟨x, hg, rfl, rfl⟩ := am_ldI_some hrun
    refine lv_iload hx hb (hd (Nat.succ_ne_zero _)) (hl.at hg) ?_
    exact kk ar hl
  case iload_n j =>
    obtain ⟨x, hg, rfl, rfl⟩ := am_ldI_some hrun
    refine lv_iload_n hx hb (hd (Nat.succ_ne_zero _)) rfl (hl.at hg) ?_
    exact kk ar hl
  case lload j =>
    obtain ⟨x, hg, rfl, rfl⟩ := am_ldL_some hrun
    refine lv_lload hx hb (hd (Nat.succ_ne_zero _)) (hl.at hg) ?_
    exact kk ar hl
  case lload_n j =>
    obtain ⟨x, hg, rfl, rfl⟩ := am_ldL_some hrun
    refine lv_lload_n hx hb (hd (Nat.succ_ne_zero _)) rfl (hl.at hg) ?_
    exact kk ar hl
  case aload j =>
    rcases am_ldA_some hrun with ⟨x, hg, rfl, rfl⟩ | ⟨hg, rfl, rfl⟩
    · refine lv_aload hx hb (hd (Nat.succ_ne_zero _)) (hl.at hg) ?_
      exact kk ar hl
    · refine lv_aloadN hx hb (hd (Nat.succ_ne_zero _)) (hl.at hg) ?_
      exact kk ar hl
  case aload_n j =>
    rcases am_ldA_some hrun with ⟨x, hg, rfl, rfl⟩ | ⟨hg, rfl, rfl⟩
    · refine lv_aload_n hx hb (hd (Nat.succ_ne_zero _)) rfl (hl.at hg) ?_
      exact kk ar hl
    · refine lv_aload_nN hx hb (hd (Nat.succ_ne_zero _)) rfl (hl.at hg) ?_
      exact kk ar hl
  case istore j =>
    obtain ⟨x, rfl, rfl⟩ := am_stI_some hrun
    refine lv_istore hx hb (hd (Nat.succ_ne_zero _)) hl.2 hgr rfl (fun ar' hl' => ?_)
    exact kk ar' (am_hasL.store (fun _ => am_tr_cat) hl hl')
  case istore_n j =>
    obtain ⟨x, rfl, rfl⟩ := am_stI_some hrun
    refine lv_istore_n hx hb (hd (Nat.succ_ne_zero _)) rfl hl.2 hgr rfl (fun ar' hl' => ?_)
    exact kk ar' (am_hasL.store (fun _ => am_tr_cat) hl hl')
  case lstore j =>
    obtain ⟨x, rfl, rfl⟩ := am_stL_some hrun
    refine lv_lstore hx hb (hd (Nat.succ_ne_zero _)) hl.2 hgr rfl (fun ar' hl' => ?_)
    exact kk ar' (am_hasL.store2 (fun _ => am_tr_cat) hl hl')
  case lstore_n j =>
    obtain ⟨x, rfl, rfl⟩ := am_stL_some hrun
    refine lv_lstore_n hx hb (hd (Nat.succ_ne_zero _)) rfl hl.2 hgr rfl (fun ar' hl' => ?_)
    exact kk ar' (am_hasL.store2 (fun _ => am_tr_cat) hl hl')
  case astore j =>
    rcases am_stA_some hrun with ⟨x, rfl, rfl⟩ | ⟨rfl, rfl⟩
    · refine lv_astore hx hb (hd (Nat.succ_ne_zero _)) hl.2 hgr rfl (fun ar' hl' => ?_)
      exact kk ar' (am_hasL.store (v := .ref x) (fun _ => am_tr_cat) hl hl')
    · refine lv_astoreN hx hb (hd (Nat.succ_ne_zero _)) hl.2 hgr rfl (fun ar' hl' => ?_)
      exact kk ar' (am_hasL.store (v := .null) (fun _ => am_tr_cat) hl hl')
  case astore_n j =>
    rcases am_stA_some hrun with ⟨x, rfl, rfl⟩ | ⟨rfl, rfl⟩
    · refine lv_astore_n hx hb (hd (Nat.succ_ne_zero _)) rfl hl.2 hgr rfl (fun ar' hl' => ?_)
      exact kk ar' (am_hasL.store (v := .ref x) (fun _ => am_tr_cat) hl hl')
    · refine lv_astore_nN hx hb (hd (Nat.succ_ne_zero _)) rfl hl.2 hgr rfl (fun ar' hl' => ?_)
      exact kk ar' (am_hasL.store (v := .null) (fun _ => am_tr_cat) hl hl')
  case iinc j n =>
    dsimp only [am_pure] at hrun
    split at hrun
    · rename_i x hg
      cases hrun
      obtain ⟨k, hk⟩ := List.getElem?_of_mem ((am_prs_mem (f := am_tr G al) ls 0 (j, .int x)).mpr ⟨j, .int x, (Nat.zero_add j).symm, am_get_some hg, rfl⟩)
      refine lv_iinc hx hb (hd (Nat.succ_ne_zero _)) hl.2 hk (by rw [hgr.1]) hgr.2 rfl (fun ar' hl' => ?_)
      exact kk ar' (am_hasL.store (v := .int (x + am_k r)) (fun _ => am_tr_cat) hl hl')
    · cases hrun
  case iadd =>
    obtain ⟨x, y, u, rfl, rfl, rfl⟩ := am_bin_some hrun
    refine lv_iadd hx hb (hd (Nat.succ_ne_zero _)) ?_
    exact kk ar hl
  case isub =>
    obtain ⟨x, y, u, rfl, rfl, rfl⟩ := am_bin_some hrun
    refine lv_isub hx hb (hd (Nat.succ_ne_zero _)) ?_
    exact kk ar hl
  case imul =>
    obtain ⟨x, y, u, rfl, rfl, rfl⟩ := am_bin_some hrun
    refine lv_imul hx hb (hd (Nat.succ_ne_zero _)) ?_
    exact kk ar hl
  case iand =>
    obtain ⟨x, y, u, rfl, rfl, rfl⟩ := am_bin_some hrun
    refine lv_iand hx hb (hd (Nat.succ_ne_zero _)) ?_
    exact kk ar hl
  case ior =>
    obtain ⟨x, y, u, rfl, rfl, rfl⟩ := am_bin_some hrun
    refine lv_ior hx hb (hd (Nat.succ_ne_zero _)) ?_
    exact kk ar hl
  case ixor =>
    obtain ⟨x, y, u, rfl, rfl, rfl⟩ := am_bin_some hrun
    refine lv_ixor hx hb (hd (Nat.succ_ne_zero _)) ?_
    exact kk ar hl
  case ishl =>
    obtain ⟨x, y, u, rfl, rfl, rfl⟩ := am_bin_some hrun
    refine lv_ishl hx hb (hd (Nat.succ_ne_zero _)) ?_
    exact kk ar hl
  case ishr =>
    obtain ⟨x, y, u, rfl, rfl, rfl⟩ := am_bin_some hrun
    refine lv_ishr hx hb (hd (Nat.succ_ne_zero _)) ?_
    exact kk ar hl
  case iushr =>
    obtain ⟨x, y, u, rfl, rfl, rfl⟩ := am_bin_some hrun
    refine lv_iushr hx hb (hd (Nat.succ_ne_zero _)) rfl ?_
    exact kk ar hl
  case ladd =>
    obtain ⟨x, y, u, rfl, rfl, rfl⟩ := am_binL_some hrun
    refine lv_ladd hx hb (hd (Nat.succ_ne_zero _)) ?_
    exact kk ar hl
  case lmul =>
    obtain ⟨x, y, u, rfl, rfl, rfl⟩ := am_binL_some hrun
    refine lv_lmul hx hb (hd (Nat.succ_ne_zero _)) ?_
    exact kk ar hl
  case ineg =>
    obtain ⟨x, u, rfl, rfl, rfl⟩ := am_un_some hrun
    refine lv_ineg hx hb (hd (Nat.succ_ne_zero _)) ?_
    exact kk ar hl
  case i2l =>
    obtain ⟨x, u, rfl, rfl, rfl⟩ := am_un_some hrun
    refine lv_i2l hx hb (hd (Nat.succ_ne_zero _)) rfl ?_
    exact kk ar hl
  case i2c =>
    obtain ⟨x, u, rfl, rfl, rfl⟩ := am_un_some hrun
    refine lv_i2c hx hb (hd (Nat.succ_ne_zero _)) rfl ?_
    exact kk ar hl
  case l2i =>
    dsimp only [am_pure] at hrun
    split at hrun
    · cases hrun
      refine lv_l2i hx hb (hd (Nat.succ_ne_zero _)) rfl ?_
      exact kk ar hl
    · cases hrun
  case lcmp =>
    dsimp only [am_pure] at hrun
    split at hrun
    · cases hrun
      refine W.lcmp hx hb (hd (Nat.succ_ne_zero _)) ?_
      exact kk ar hl
    · cases hrun
  case dup =>
    dsimp only [am_pure] at hrun
    split at hrun
    · cases hrun
      refine lv_dup hx hb (hd (Nat.succ_ne_zero _)) rfl ?_
      exact kk ar hl
    · cases hrun
      refine lv_dup hx hb (hd (Nat.succ_ne_zero _)) rfl ?_
      exact kk ar hl
    · cases hrun
  case dup2 =>
    dsimp only [am_pure] at hrun
    split at hrun
    · cases hrun
      refine lv_dup2_11 hx hb (hd (Nat.succ_ne_zero _)) rfl rfl ?_
      exact kk ar hl
    · cases hrun
      refine lv_dup2_11 hx hb (hd (Nat.succ_ne_zero _)) rfl rfl ?_
      exact kk ar hl
    · cases hrun
  case pop =>
    dsimp only [am_pure] at hrun
    split at hrun
    · cases hrun
      refine lv_pop hx hb (hd (Nat.succ_ne_zero _)) rfl ?_
      exact kk ar hl
    · cases hrun
      refine lv_pop hx hb (hd (Nat.succ_ne_zero _)) rfl ?_
      exact kk ar hl
    · cases hrun
  case aconst_null =>
    cases hrun
    refine lv_null hx hb (hd (Nat.succ_ne_zero _)) ?_
    exact kk ar hl
  case ldc x =>
    rcases hgr with ⟨h3, hm⟩ | ⟨h4, hm, hlt⟩
    · have hw := hG.2.1 _ hm
      unfold am_PW at hw
      simp only [h3] at hw
      simp only [am_pure, h3] at hrun
      cases hrun
      refine lv_ldc hx hb hown (hts _ hw.mem) (hd (Nat.succ_ne_zero _)) ?_
      exact kk ar hl
    · simp only [am_pure, h4] at hrun
      cases hrun
      have hz := hSt.2.2.1 _ hm
      refine va_ldcS hx hb hown hz (hd (Nat.succ_ne_zero _)) ?_
      have e1 : am_tr G al (.ref (1000 + r.2.1)) = .ref (G.1 r.2.1) := by
        show Value.ref (am_ad G al (1000 + r.2.1)) = _
        have : r.2.1 < 21 := hlt
        rw [am_ad_str (by omega) (by omega), show 1000 + r.2.1 - 1000 = r.2.1 by omega]
      have := kk ar hl
      rw [List.map_cons, e1] at this
      exact this
  case ldc_w x =>
    dsimp only [am_pure] at hrun
    split at hrun
    · rename_i h3
      cases hrun
      have hw := hG.2.1 _ hgr
      unfold am_PW at hw
      simp only [h3] at hw
      refine lv_ldcw hx hb hown (hts _ hw.mem) (hd (Nat.succ_ne_zero _)) ?_
      exact kk ar hl
    · cases hrun
  case ldc2_w x =>
    dsimp only [am_pure] at hrun
    split at hrun
    · rename_i h3
      cases hrun
      have hw := hG.2.1 _ hgr
      unfold am_PW at hw
      simp only [h3] at hw
      refine lv_ldc2 hx hb hown (hts _ hw.mem) (hd (Nat.succ_ne_zero _)) ?_
      exact kk ar hl
    · cases hrun
  case getstatic x =>
    dsimp only [am_pure] at hrun
    split at hrun
    · rename_i h3
      have hw := hG.2.1 _ hgr
      unfold am_PW at hw
      simp only [h3] at hw
      rcases hw with ⟨h0, hw⟩ | ⟨h0, hw⟩
      · rw [h0] at hrun
        cases hrun
        refine va_gets hx hb hSt.2.2.2.2.1 hS hown (hts _ hw.mem) (fun _ h => h) (hd (Nat.succ_ne_zero _)) ?_
        exact kk ar hl
      · rw [h0] at hrun
        cases hrun
        refine va_gets hx hb hSt.2.2.2.2.2.1 hS hown (hts _ hw.mem) (fun _ h => h) (hd (Nat.succ_ne_zero _)) ?_
        exact kk ar hl
    · cases hrun
  case arraylength =>
    dsimp only [am_pure] at hrun
    split at hrun
    · rename_i cc u
      split at hrun
      · rename_i n hn
        cases hrun
        show W p l e R s mi args below meth c H locs cells slots Q (F0 mi pc ar (.ref (am_ad G al cc) :: u.map (am_tr G al)))
        unfold am_alen at hn
        split at hn
        · rename_i kd vs hc
          have hlt := am_lt_len hc
          have hat := am_conc_at G dA dB al S μ cc
          rw [hc] at hat
          rw [am_ad_lt (Nat.lt_of_lt_of_le hlt (Nat.le_trans hW.2.1 (by decide)))]
          cases hk : Nat.ble 100 kd with
          | true =>
            rw [hk] at hn
            cases hn
            have e5 : Nat.blt kd 50 = false := by
              have := Nat.le_of_ble_eq_true hk
              rw [← Bool.not_eq_true, am_blt]; omega
            simp only [Option.map_some, am_cell, e5, hk, cond_true, cond_false] at hat
            exact va_alen hx hb hSt.1 hW.2.2.2.1 cc 0 hat rfl rfl (hd (Nat.succ_ne_zero _)) (kk ar hl)
          | false =>
            rw [hk] at hn
            cases hk2 : Nat.beq kd 98 with
            | true =>
              rw [hk2] at hn
              cases hn
              have := Nat.eq_of_beq_eq_true hk2
              subst this
              exact va_alen hx hb hSt.1 hW.2.2.2.1 cc 1 hat rfl rfl (hd (Nat.succ_ne_zero _)) (kk ar hl)
            | false => rw [hk2] at hn; cases hn
        · cases hk : Nat.beq cc 3000 with
          | true =>
            rw [hk] at hn
            have hn : L = n := Option.some.inj hn
            subst hn
            have := Nat.eq_of_beq_eq_true hk
            subst this
            exact va_slen hx hb hSt.2.2.2.2.2.2.1 (Nat.lt_of_lt_of_le hSt.2.2.2.2.2.2.2.1 hSt.2.2.2.2.2.2.2.2.1) (Nat.not_le.mpr hSt.2.2.2.2.2.2.2.1) hS (hd (Nat.succ_ne_zero _)) (kk ar hl)
          | false =>
            rw [hk] at hn
            cases hk2 : (Nat.ble 2000 cc && Nat.blt cc (2000 + am_sN)) with
            | true =>
              rw [hk2] at hn
              have hn : am_sL.getD (cc - 2000) 0 = n := Option.some.inj hn
              subst hn
              obtain ⟨k1, k2⟩ := (Bool.and_eq_true _ _).mp hk2
              have k1 := Nat.le_of_ble_eq_true k1
              have k2 : cc < 2021 := am_blt.mp k2
              rw [am_ad_byt k1 (Nat.lt_trans k2 (by decide))]
              obtain ⟨-, -, -, hT⟩ := hSt.2.2.2.1.1 (cc - 2000) ((Nat.sub_lt_iff_lt_add k1).mpr k2)
              obtain ⟨cell, g1, g2, g3, g4, g5, g6, g7⟩ := hT
              refine W.alen (cell := cell) (ty := .byte) (n := nI (am_sL.getD (cc - 2000) 0)) hx hb ?_ g2 g5 rfl rfl (hd (Nat.succ_ne_zero _)) (kk ar hl)
              rw [hS.2.1 _ (Array.getElem?_eq_some_iff.mp g1).1 g7]
              exact g1
            | false => rw [hk2] at hn; cases hn
      · cases hrun
    · cases hrun
  case getfield x =>
    change am_getf S r ls st μ = some (ls', st') at hrun
    unfold am_getf at hrun
    split at hrun
    · rename_i cc u
      have hw := hG.2.1 _ hgr
      unfold am_PW at hw
      show W p l e R s mi args below meth c H locs cells slots Q (F0 mi pc ar (.ref (am_ad G al cc) :: u.map (am_tr G al)))
      split at hrun
      · rename_i h0
        simp only [h0] at hw
        obtain ⟨C, T, N, ty, hc, hk, hci, hCd, hlk, -⟩ := hw
        split at hrun
        · rename_i kd vs hcc
          have hlt := am_lt_len hcc
          rw [am_ad_lt (Nat.lt_of_lt_of_le hlt (Nat.le_trans hW.2.1 (by decide)))]
          have hat := am_conc_at G dA dB al S μ cc
          rw [hcc] at hat
          cases hkd : Nat.beq kd r.2.1 with
          | false => rw [hkd] at hrun; cases hrun
          | true =>
            have e0 := Nat.eq_of_beq_eq_true hkd
            subst e0
            rw [hkd] at hrun
            have e5 : Nat.blt r.2.1 50 = true := am_blt.mpr (by omega)
            simp only [Option.map_some, am_cell, e5, cond_true] at hat
            simp only [cond_true] at hrun
            have hfv : ∀ v, vs[r.2.2.1]? = some v → (vs.mapIdx (am_fld G al μ cc))[r.2.2.1]? = some (am_fld G al μ cc r.2.2.1 v) := fun v hv => by rw [List.getElem?_mapIdx, hv]; rfl
            have hget : ∀ v, vs[r.2.2.1]? = some v → W p l e R s mi args below meth c H locs cells slots Q (F0 mi (pc + 3) ar (am_fld G al μ cc r.2.2.1 v :: u.map (am_tr G al))) → W p l e R s mi args below meth c H locs cells slots Q (F0 mi pc ar (.ref (al.getD cc 0) :: u.map (am_tr G al))) := fun v hv kv =>
              va_get hx hb (hts) (fun w hw => (hG.2.2.1 _ _ hc w hw).mem) hown hSt.1 hW.2.2.2.1 cc hat hc r.2.2.1 hk (ref := C) (hts _ hlk.mem) (fun x hx => by rw [← hCd]; exact hx) (hfv v hv) (hd (Nat.succ_ne_zero _)) kv
            split at hrun
            · rename_i hv
              cases hrun
              exact hget _ hv (kk ar hl)
            · rename_i hv
              cases hrun
              exact hget _ hv (kk ar hl)
            · rename_i hv
              cases hrun
              exact hget _ hv (kk ar hl)
            · cases hrun
        · cases hrun
      · rename_i h6
        simp only [h6] at hw
        cases hk2 : (Nat.ble 1000 cc && Nat.blt cc (1000 + am_sN)) with
        | false => rw [hk2] at hrun; cases hrun
        | true =>
          rw [hk2] at hrun
          obtain ⟨k1, k2⟩ := (Bool.and_eq_true _ _).mp hk2
          have k1 := Nat.le_of_ble_eq_true k1
          have k2 : cc < 1021 := am_blt.mp k2
          have k3 : cc - 1000 < 21 := (Nat.sub_lt_iff_lt_add k1).mpr k2
          have k4 : cc + 1000 < 3000 := Nat.add_lt_add_right (Nat.lt_trans k2 (by decide)) 1000
          have k5 : 2000 ≤ cc + 1000 := Nat.add_le_add_right k1 1000
          have k6 : cc < 2000 := Nat.lt_trans k2 (by decide)
          rw [am_ad_str k1 k6]
          obtain ⟨-, hco, hva, -⟩ := hSt.2.2.2.1.1 (cc - 1000) k3
          simp only [cond_true] at hrun
          rcases hw with ⟨h0, hw⟩ | ⟨h0, hw⟩
          · rw [h0] at hrun
            cases hrun
            refine vk_getf hx hb hva hS hown (hts _ hw.mem) (fun _ h => h) (hd (Nat.succ_ne_zero _)) ?_
            have := kk ar hl
            have e1 : am_tr G al (.ref (cc + 1000)) = .ref (G.2.1 (cc - 1000)) := by
              show Value.ref (am_ad G al (cc + 1000)) = _
              rw [am_ad_byt k5 k4, show cc + 1000 - 2000 = cc - 1000 from Nat.add_sub_add_right cc 1000 1000]
            rw [List.map_cons, e1] at this
            exact this
          · rw [h0] at hrun
            cases hrun
            refine vk_getf hx hb hco hS hown (hts _ hw.mem) (fun _ h => h) (hd (Nat.succ_ne_zero _)) ?_
            exact kk ar hl
      · cases hrun
    · cases hrun
  all_goals (dsimp only [am_pure] at hrun; cases hrun)
end VAR
end
section
/-! The rows that change cells. -/
def am_slc (e : Nat × List Value) : Nat := bif Nat.ble 100 e.1 then e.1 - 100 else e.2.length
def am_sl (S : am_Sh) : Nat := (S.map am_slc).sum
theorem am_sl_app (S : am_Sh) (e : Nat × List Value) : am_sl (S ++ [e]) = am_sl S + am_slc e := by simp [am_sl]
theorem am_sl_set : ∀ (S : am_Sh) (c : Nat) (e e' : Nat × List Value), S[c]? = some e → am_slc e' = am_slc e → am_sl (S.set c e') = am_sl S := by
  intro S
  induction S with
  | nil => intro c e e' h; simp at h
  | cons x t ih =>
    intro c e e' h h2
    cases c with
    | zero =>
      simp at h
      subst h
      simp [am_sl, h2]
    | succ c =>
      have := ih c e e' (by simpa using h) h2
      simp only [am_sl, List.set_cons_succ, List.map_cons, List.sum_cons] at this ⊢
      omega
theorem am_set_same {α : Type} {S : List α} {c : Nat} {e : α} (h : S[c]? = some e) : S.set c e = S := by
  apply List.ext_getElem?
  intro j
  rw [List.getElem?_set]
  by_cases hj : c = j
  · subst hj
    rw [if_pos rfl, if_pos (am_lt_len h), h]
  · rw [if_neg hj]
theorem am_ad_push {G : am_G} {al : List Nat} {q a : Nat} (h9 : al.length ≤ 900) (h : am_okV al.length (.ref a) = true) : am_ad G (al ++ [q]) a = am_ad G al a := by
  unfold am_ad
  have h : (Nat.blt a al.length || Nat.ble 1000 a) = true := h
  cases h1 : Nat.blt a 1000 with
  | false => rfl
  | true =>
    have h2 : a < al.length := by
      rcases (Bool.or_eq_true _ _).mp h with h | h
      · exact am_blt.mp h
      · exact absurd (Nat.le_of_ble_eq_true h) (Nat.not_le.mpr (am_blt.mp h1))
    show (al ++ [q]).getD a 0 = al.getD a 0
    rw [List.getD_eq_getElem?_getD, List.getD_eq_getElem?_getD, List.getElem?_append_left h2]
theorem am_tr_push {G : am_G} {al : List Nat} {q : Nat} {v : Value} (h9 : al.length ≤ 900) (h : am_okV al.length v = true) : am_tr G (al ++ [q]) v = am_tr G al v := by
  cases v with
  | ref a => show Value.ref _ = Value.ref _; rw [am_ad_push h9 h]
  | _ => rfl
theorem am_cell_push {G : am_G} {dA dB : ClassId} {al : List Nat} {μ : am_M} {q c : Nat} {e : Nat × List Value} (h9 : al.length ≤ 900) (h : am_okS al.length e.2 = true) : am_cell G dA dB (al ++ [q]) μ c e = am_cell G dA dB al μ c e := by
  have hv : ∀ v ∈ e.2, am_okV al.length v = true := fun v hv => List.all_eq_true.mp h v hv
  unfold am_cell
  have e1 : e.2.mapIdx (am_fld G (al ++ [q]) μ c) = e.2.mapIdx (am_fld G al μ c) := by
    apply List.ext_getElem?
    intro j
    rw [List.getElem?_mapIdx, List.getElem?_mapIdx]
    cases hj : e.2[j]? with
    | none => rfl
    | some v =>
      have := am_tr_push (G := G) (q := q) h9 (hv v (List.mem_of_getElem? hj))
      cases v <;> simp_all [am_fld]
  have e2 : am_qf G (al ++ [q]) e.2 = am_qf G al e.2 := by
    funext j
    unfold am_qf
    cases hj : e.2[j]? with
    | none => rfl
    | some v =>
      cases v with
      | ref a => show some _ = some _; rw [am_ad_push h9 (hv _ (List.mem_of_getElem? hj))]
      | _ => rfl
  rw [e1, e2]
theorem am_conc_push {G : am_G} {dA dB : ClassId} {al : List Nat} {S : am_Sh} {μ : am_M} {q : Nat} {e : Nat × List Value} {f : Nat → Int32} {x : va_E} (hlen : al.length = S.length) (h9 : S.length ≤ 900) (hok : am_okH S.length S = true) (hx : am_cell G dA dB (al ++ [q]) (am_row μ S.length f) S.length e = x) :
    am_conc G dA dB al S μ ++ [(q, x)] = am_conc G dA dB (al ++ [q]) (S ++ [e]) (am_row μ S.length f) := by
  apply List.ext_getElem?
  intro j
  have hl : (am_conc G dA dB al S μ).length = S.length := by unfold am_conc; simp
  rw [am_conc_at]
  by_cases hj : j < S.length
  · rw [List.getElem?_append_left (by omega), List.getElem?_append_left hj, am_conc_at]
    cases hs : S[j]? with
    | none => rfl
    | some y =>
      simp only [Option.map_some]
      rw [am_cell_row (Nat.ne_of_lt hj), am_cell_push (by omega) (by rw [hlen]; exact List.all_eq_true.mp hok y (List.mem_of_getElem? hs)), List.getD_eq_getElem?_getD, List.getD_eq_getElem?_getD, List.getElem?_append_left (by omega)]
  · by_cases hj2 : j = S.length
    · subst hj2
      rw [List.getElem?_append_right (by omega), List.getElem?_append_right (Nat.le_refl _), hl]
      simp only [Nat.sub_self, List.getElem?_cons_zero, Option.map_some, hx]
      rw [List.getD_eq_getElem?_getD, List.getElem?_append_right (by omega), hlen]
      simp
    · rw [List.getElem?_eq_none (by simp; omega), List.getElem?_eq_none (by simp; omega)]
      rfl
theorem am_conc_push0 {G : am_G} {dA dB : ClassId} {al : List Nat} {S : am_Sh} {μ : am_M} {q : Nat} {e : Nat × List Value} {x : va_E} (hlen : al.length = S.length) (h9 : S.length ≤ 900) (hok : am_okH S.length S = true) (hx : am_cell G dA dB (al ++ [q]) μ S.length e = x) :
    am_conc G dA dB al S μ ++ [(q, x)] = am_conc G dA dB (al ++ [q]) (S ++ [e]) μ := by
  have h : am_row μ S.length (μ S.length) = μ := by
    funext c
    unfold am_row
    split
    · rename_i h; rw [h]
    · rfl
  have := am_conc_push (G := G) (dA := dA) (dB := dB) (μ := μ) (f := μ S.length) (q := q) (e := e) (x := x) hlen h9 hok (by rw [h]; exact hx)
  rw [h] at this
  exact this
/-- what is the same for each class -/
theorem am_cls : ∀ (ci : Nat) (q : vw_C), vwCl[ci]? = some q → ∃ ty0 : Nat → FieldType, (∀ k, k < q.2.2 → parseFieldDescriptor (q.2.1 k).2.2.1 = some (ty0 k)) ∧ (∀ a, a < q.2.2 → ∀ b, b < q.2.2 → a ≠ b → (q.2.1 a).2.1 ≠ (q.2.1 b).2.1) ∧ (∀ j, j < q.2.2 → defaultValue (ty0 j) = vp_V (am_def ci) j) ∧ (am_def ci).length = q.2.2 ∧ ci < 12 := by
  intro ci q h
  match ci, h with
  | 0, h => cases h; exact ⟨tyX0, tyX0_ok, nmX0, by decide +kernel, rfl, by decide⟩
  | 1, h => cases h; exact ⟨tyX1, tyX1_ok, nmX1, by decide +kernel, rfl, by decide⟩
  | 2, h => cases h; exact ⟨tyX2, tyX2_ok, nmX2, by decide +kernel, rfl, by decide⟩
  | 3, h => cases h; exact ⟨tyX3, tyX3_ok, nmX3, by decide +kernel, rfl, by decide⟩
  | 4, h => cases h; exact ⟨tyX4, tyX4_ok, nmX4, by decide +kernel, rfl, by decide⟩
  | 5, h => cases h; exact ⟨tyX5, tyX5_ok, nmX5, by decide +kernel, rfl, by decide⟩
  | 6, h => cases h; exact ⟨tyX6, tyX6_ok, nmX6, by decide +kernel, rfl, by decide⟩
  | 7, h => cases h; exact ⟨tyX7, tyX7_ok, nmX7, by decide +kernel, rfl, by decide⟩
  | 8, h => cases h; exact ⟨tyX8, tyX8_ok, nmX8, by decide +kernel, rfl, by decide⟩
  | 9, h => cases h; exact ⟨tyX9, tyX9_ok, nmX9, by decide +kernel, rfl, by decide⟩
  | 10, h => cases h; exact ⟨tyX10, tyX10_ok, nmX10, by decide +kernel, rfl, by decide⟩
  | 11, h => cases h; exact ⟨tyX11, tyX11_ok, nmX11, by decide +kernel, rfl, by decide⟩
  | k + 12, h => exact absurd (am_lt_len h) (by simp)
theorem am_def_new {G : am_G} {al : List Nat} {μ : am_M} {c : Nat} (h : μ c = fun _ => 0) : ∀ ci, ci < 12 → (am_def ci).mapIdx (am_fld G al μ c) = am_def ci := by
  intro ci hci
  match ci, hci with
  | 0, _ | 1, _ | 2, _ | 3, _ | 4, _ | 5, _ | 6, _ | 7, _ | 8, _ | 9, _ | 10, _ | 11, _ => simp [am_def, am_fld, h, am_tr]
  | k + 12, h => omega
theorem am_inb_in {i : Int32} {n : Nat} (h : am_inb i n = true) : vp_in i n := by
  unfold am_inb at h
  obtain ⟨h1, h2⟩ := (Bool.and_eq_true _ _).mp h
  have h1 : ¬ i < 0 := by simpa using h1
  have h2 := am_blt.mp h2
  exact fun q => q.elim h1 (fun q => absurd h2 (Nat.not_lt.mpr q))
theorem am_gr_new {S S' : am_Sh} {ls : am_L} {st : List Value} (h : am_gr S S' ls st = true) (hl : S'.length = S.length + 1) : am_okL S.length ls = true ∧ am_okS S.length st = true ∧ am_okH S.length S = true := by
  unfold am_gr at h
  have : Nat.beq S'.length S.length = false := by
    cases hq : Nat.beq S'.length S.length with
    | false => rfl
    | true => have := Nat.eq_of_beq_eq_true hq; omega
  rw [this] at h
  simpa using h
theorem am_hasL.push {G : am_G} {al : List Nat} {q n : Nat} {ar : Array Slot} {ls : am_L} (h9 : al.length ≤ 900) (h : am_hasL (am_tr G al) ar n ls) (hok : am_okL al.length ls = true) : am_hasL (am_tr G (al ++ [q])) ar n ls := by
  refine ⟨h.1, ?_⟩
  rw [am_prs_congr (g := am_tr G al) ls 0 (fun u hu => am_tr_push h9 (List.all_eq_true.mp hok _ hu))]
  exact h.2
theorem am_map_push {G : am_G} {al : List Nat} {q : Nat} {st : List Value} (h9 : al.length ≤ 900) (hok : am_okS al.length st = true) : st.map (am_tr G (al ++ [q])) = st.map (am_tr G al) :=
  List.map_congr_left (fun u hu => am_tr_push h9 (List.all_eq_true.mp hok _ hu))
section VAR
variable {p : Program} {l : Launch} {e : Env} {R : Room} {s : State} {mi : MethodId} {args : Array Value} {below : List Frame} {meth : Method} {c : Code} {H : Heap} {locs : List Loc} {cells slots : Nat} {Q : State → Prop}
variable {t : am_T} {D : va_G} {G : am_G} {dA dB : ClassId} {N0 L : Nat} {xs : Nat → Int32} {al : List Nat} {S : am_Sh} {μ : am_M} {m : Nat}
set_option maxHeartbeats 4000000 in
theorem am_sim_eff (hG : am_Good t) (hE : am_Env t D G dA dB N0 L xs p s mi args meth c m) {d pc : Nat} {i : Instr} {r : am_R} {ls : am_L} {st st' : List Value} {ar : Array Slot} {S' : am_Sh} {μ' : am_M}
    (hrun : am_eff L d S i r st μ = some (true, st', S', μ')) (hgrow : am_gr S S' ls st = true) (hdec : am_dec (am_B t m) pc i) (hgr : am_GR t m pc i r) (hW : am_Wd D G dA dB N0 xs al S μ H) (hS : va_S (fun q => N0 ≤ q) s.heap H locs)
    (hl : am_hasL (am_tr G al) ar (am_ML t m) ls) (hd1 : d ≤ R.frames) (hd2 : 200 * d ≤ R.locals) (hrc : cells + S'.length ≤ R.cells + S.length) (hrs : slots + am_sl S' ≤ R.slots + am_sl S)
    (kk : ∀ (H1 : Heap) (locs1 : List Loc) (cells1 slots1 : Nat) (al' : List Nat), cells1 + S.length = cells + S'.length → slots1 + am_sl S = slots + am_sl S' → al <+: al' → am_Wd D G dA dB N0 xs al' S' μ' H1 → va_S (fun q => N0 ≤ q) s.heap H1 locs1 → am_hasL (am_tr G al') ar (am_ML t m) ls → W p l e R s mi args below meth c H1 locs1 cells1 slots1 Q (F0 mi (pc + am_len i) ar (st'.map (am_tr G al')))) :
    W p l e R s mi args below meth c H locs cells slots Q (F0 mi pc ar (st.map (am_tr G al))) := by
  obtain ⟨hx, hb, hml, hown, hts, hin, hSt⟩ := hE
  have hd := hdec.1
  have k0 : S' = S → μ' = μ → W p l e R s mi args below meth c H locs cells slots Q (F0 mi (pc + am_len i) ar (st'.map (am_tr G al))) := fun e1 e2 => by
    subst e1; subst e2
    exact kk H locs cells slots al rfl rfl List.prefix_rfl hW hS hl
  cases i
  case iaload =>
    dsimp only [am_eff] at hrun
    split at hrun
    · rename_i i cc u
      split at hrun
      · rename_i n hn
        injection hrun with hrun
        injection hrun with hg hrun
        injection hrun with h1 hrun
        injection hrun with h2 h3
        have k1 := k0 h2.symm h3.symm
        rw [← h1] at k1
        have hin := am_inb_in hg
        show W p l e R s mi args below meth c H locs cells slots Q (F0 mi pc ar (.int i :: .ref (am_ad G al cc) :: u.map (am_tr G al)))
        unfold am_ilen at hn
        split at hn
        · rename_i kd vs hc
          have hlt := am_lt_len hc
          rw [am_ad_lt (Nat.lt_of_lt_of_le hlt (Nat.le_trans hW.2.1 (by decide)))]
          have hat := am_conc_at G dA dB al S μ cc
          rw [hc] at hat
          cases hk : Nat.ble 100 kd with
          | false => rw [hk] at hn; cases hn
          | true =>
            rw [hk] at hn
            have hn : kd - 100 = n := Option.some.inj hn
            subst hn
            have e5 : Nat.blt kd 50 = false := by
              have := Nat.le_of_ble_eq_true hk
              rw [← Bool.not_eq_true, am_blt]; omega
            simp only [Option.map_some, am_cell, e5, hk, cond_true, cond_false] at hat
            exact va_iald hx hb hSt.1 hW.2.2.2.1 cc 0 hat rfl hin (hd (Nat.succ_ne_zero _)) k1
        · cases hk : Nat.beq cc 3000 with
          | false => rw [hk] at hn; cases hn
          | true =>
            rw [hk] at hn
            have hn : L = n := Option.some.inj hn
            subst hn
            have := Nat.eq_of_beq_eq_true hk
            subst this
            refine va_sld hx hb hSt.2.2.2.2.2.2.1 (Nat.lt_of_lt_of_le hSt.2.2.2.2.2.2.2.1 hSt.2.2.2.2.2.2.2.2.1) (Nat.not_le.mpr hSt.2.2.2.2.2.2.2.1) hS hin (hd (Nat.succ_ne_zero _)) ?_
            rw [← hW.2.2.1]
            exact k1
      · cases hrun
    · cases hrun
  case baload =>
    dsimp only [am_eff] at hrun
    split at hrun
    · rename_i i cc u
      cases hk2 : (Nat.ble 2000 cc && Nat.blt cc (2000 + am_sN)) with
      | false => rw [hk2] at hrun; cases hrun
      | true =>
        rw [hk2] at hrun
        have hrun : some (am_inb i (am_sL.getD (cc - 2000) 0), Value.int ((am_sB.getD (cc - 2000) []).getD i.toNatClampNeg 0) :: u, S, μ) = some (true, st', S', μ') := hrun
        injection hrun with hrun
        injection hrun with hg hrun
        injection hrun with h1 hrun
        injection hrun with h2 h3
        have k1 := k0 h2.symm h3.symm
        rw [← h1] at k1
        have hin := am_inb_in hg
        obtain ⟨k2, k3⟩ := (Bool.and_eq_true _ _).mp hk2
        have k2 := Nat.le_of_ble_eq_true k2
        have k3 : cc < 2021 := am_blt.mp k3
        show W p l e R s mi args below meth c H locs cells slots Q (F0 mi pc ar (.int i :: .ref (am_ad G al cc) :: u.map (am_tr G al)))
        rw [am_ad_byt k2 (Nat.lt_trans k3 (by decide))]
        obtain ⟨-, -, -, hT⟩ := hSt.2.2.2.1.1 (cc - 2000) ((Nat.sub_lt_iff_lt_add k2).mpr k3)
        obtain ⟨cell, g1, g2, g3, g4, g5, g6, g7⟩ := hT
        have hlt : i.toNatClampNeg < am_sL.getD (cc - 2000) 0 := Nat.not_le.mp fun q => hin (Or.inr q)
        refine W.bald (cell := cell) hx hb ?_ g2 g3 ?_ (g6 _ hlt) rfl rfl (hd (Nat.succ_ne_zero _)) k1
        · rw [hS.2.1 _ (Array.getElem?_eq_some_iff.mp g1).1 g7]
          exact g1
        · exact fun q => q.elim (fun q => hin (Or.inl q)) (fun q => absurd (Nat.lt_of_lt_of_le hlt g4) (Nat.not_lt.mpr q))
    · cases hrun
  case aaload =>
    dsimp only [am_eff] at hrun
    split at hrun
    · rename_i i cc u
      split at hrun
      · rename_i kd vs hc
        cases hk : Nat.beq kd 98 with
        | false => rw [hk] at hrun; cases hrun
        | true =>
          rw [hk] at hrun
          have hk := Nat.eq_of_beq_eq_true hk
          subst hk
          simp only [cond_true] at hrun
          split at hrun
          · rename_i a hv
            injection hrun with hrun
            injection hrun with hg hrun
            injection hrun with h1 hrun
            injection hrun with h2 h3
            have k1 := k0 h2.symm h3.symm
            rw [← h1] at k1
            have hin := am_inb_in hg
            show W p l e R s mi args below meth c H locs cells slots Q (F0 mi pc ar (.int i :: .ref (am_ad G al cc) :: u.map (am_tr G al)))
            have hlt := am_lt_len hc
            rw [am_ad_lt (Nat.lt_of_lt_of_le hlt (Nat.le_trans hW.2.1 (by decide)))]
            have hat := am_conc_at G dA dB al S μ cc
            rw [hc] at hat
            have hat : (am_conc G dA dB al S μ)[cc]? = some (al.getD cc 0, .inl (dB, vs.length, .inr (.inr (.inr (.inr (am_qf G al vs)))))) := hat
            refine va_aldq hx hb hSt.1 hW.2.2.2.1 cc 1 hat rfl hin (hd (Nat.succ_ne_zero _)) ?_
            have e1 : va_rf (am_qf G al vs i.toNatClampNeg) = .ref (am_ad G al a) := by
              unfold am_qf
              rw [hv]
              rfl
            rw [e1]
            exact k1
          · cases hrun
      · cases hrun
    · cases hrun
  case iastore =>
    dsimp only [am_eff] at hrun
    split at hrun
    · rename_i x i cc u
      split at hrun
      · rename_i kd vs hc
        cases hk : Nat.ble 100 kd with
        | false => rw [hk] at hrun; cases hrun
        | true =>
          rw [hk] at hrun
          have hrun : some (am_inb i (kd - 100), u, S, am_row μ cc (upd (μ cc) i.toNatClampNeg x)) = some (true, st', S', μ') := hrun
          injection hrun with hrun
          injection hrun with hg hrun
          injection hrun with h1 hrun
          injection hrun with h2 h3
          subst h1 h2 h3
          have hin := am_inb_in hg
          have hlt := am_lt_len hc
          have hlt9 : cc < 1000 := Nat.lt_of_lt_of_le hlt (Nat.le_trans hW.2.1 (by decide))
          show W p l e R s mi args below meth c H locs cells slots Q (F0 mi pc ar (.int x :: .int i :: .ref (am_ad G al cc) :: u.map (am_tr G al)))
          rw [am_ad_lt hlt9]
          have hat := am_conc_at G dA dB al S μ cc
          rw [hc] at hat
          have e5 : Nat.blt kd 50 = false := by
            have := Nat.le_of_ble_eq_true hk
            rw [← Bool.not_eq_true, am_blt]; omega
          simp only [Option.map_some, am_cell, e5, hk, cond_true, cond_false] at hat
          refine va_iast hx hb hSt.1 hW.2.2.2.1 hW.2.2.2.2 hS cc 0 hat rfl hin (hd (Nat.succ_ne_zero _)) (fun H1 locs1 hP hD hS1 => ?_)
          have hx1 : am_cell G dA dB al (am_row μ cc (upd (μ cc) i.toNatClampNeg x)) cc (kd, vs) = .inl (dA, kd - 100, .inl (upd (μ cc) i.toNatClampNeg x)) := by
            simp only [am_cell, e5, hk, cond_true, cond_false, am_row_at]
          rw [am_conc_set hlt hx1, am_set_same hc] at hP hD
          exact kk H1 locs1 cells slots al rfl rfl List.prefix_rfl ⟨hW.1, hW.2.1, by rw [am_row_ne (Nat.ne_of_gt (Nat.lt_trans hlt9 (by decide)))]; exact hW.2.2.1, hP, hD⟩ hS1 hl
      · cases hrun
    · cases hrun
  case aastore =>
    dsimp only [am_eff] at hrun
    split at hrun
    · rename_i v i cc u
      split at hrun
      · rename_i kd vs vs2 hc hv2
        cases hk : Nat.beq kd 98 with
        | false => rw [hk] at hrun; cases hrun
        | true =>
          rw [hk] at hrun
          have hk := Nat.eq_of_beq_eq_true hk
          subst hk
          have hrun : some (am_inb i vs.length, u, S.set cc (98, vs.set i.toNatClampNeg (.ref v)), μ) = some (true, st', S', μ') := hrun
          injection hrun with hrun
          injection hrun with hg hrun
          injection hrun with h1 hrun
          injection hrun with h2 h3
          subst h1 h2 h3
          have hin := am_inb_in hg
          have hlt := am_lt_len hc
          have hlt2 := am_lt_len hv2
          have hlt9 : cc < 1000 := Nat.lt_of_lt_of_le hlt (Nat.le_trans hW.2.1 (by decide))
          have hlt8 : v < 1000 := Nat.lt_of_lt_of_le hlt2 (Nat.le_trans hW.2.1 (by decide))
          show W p l e R s mi args below meth c H locs cells slots Q (F0 mi pc ar (.ref (am_ad G al v) :: .int i :: .ref (am_ad G al cc) :: u.map (am_tr G al)))
          rw [am_ad_lt hlt9, am_ad_lt hlt8]
          have hat := am_conc_at G dA dB al S μ cc
          rw [hc] at hat
          have hat : (am_conc G dA dB al S μ)[cc]? = some (al.getD cc 0, .inl (dB, vs.length, .inr (.inr (.inr (.inr (am_qf G al vs)))))) := hat
          have hav := am_conc_at G dA dB al S μ v
          rw [hv2] at hav
          have hav : (am_conc G dA dB al S μ)[v]? = some (al.getD v 0, .inr (5, vs2.mapIdx (am_fld G al μ v))) := hav
          refine va_astq hx hb hSt.1 hW.2.2.2.1 hW.2.2.2.2 hS cc 1 v 5 hat (r := (RX5, TX5, 8)) rfl hav rfl hin (hd (Nat.succ_ne_zero _)) (fun H1 locs1 hP hD hS1 => ?_)
          have hil : i.toNatClampNeg < vs.length := Nat.not_le.mp fun q => hin (Or.inr q)
          have hq : am_qf G al (vs.set i.toNatClampNeg (.ref v)) = va_up (am_qf G al vs) i.toNatClampNeg (some (al.getD v 0)) := by
            funext j
            unfold am_qf va_up
            rw [List.getElem?_set]
            by_cases hj : i.toNatClampNeg = j
            · rw [if_pos hj, if_pos (by omega), if_pos hj.symm]
              show some (am_ad G al v) = _
              rw [am_ad_lt hlt8]
            · rw [if_neg hj, if_neg (fun q => hj q.symm)]
          have hrow : am_row μ cc (μ cc) = μ := by
            funext z
            unfold am_row
            split
            · rename_i h; rw [h]
            · rfl
          have hx1 : am_cell G dA dB al (am_row μ cc (μ cc)) cc (98, vs.set i.toNatClampNeg (.ref v)) = .inl (dB, vs.length, .inr (.inr (.inr (.inr (va_up (am_qf G al vs) i.toNatClampNeg (some (al.getD v 0))))))) := by
            rw [← hq]
            show Sum.inl (dB, (vs.set i.toNatClampNeg (.ref v)).length, _) = _
            rw [List.length_set]
          rw [am_conc_set hlt hx1, hrow] at hP hD
          have e1 : am_sl (S.set cc (98, vs.set i.toNatClampNeg (.ref v))) = am_sl S := am_sl_set _ _ _ _ hc (by show (vs.set _ _).length = vs.length; simp)
          exact kk H1 locs1 cells slots al (by simp) (by rw [e1]) List.prefix_rfl ⟨by simpa using hW.1, by simpa using hW.2.1, hW.2.2.1, hP, hD⟩ hS1 hl
      · cases hrun
    · cases hrun
  case idiv =>
    dsimp only [am_eff] at hrun
    split at hrun
    · rename_i y x u
      injection hrun with hrun
      injection hrun with hg hrun
      injection hrun with h1 hrun
      injection hrun with h2 h3
      have k1 := k0 h2.symm h3.symm
      rw [← h1] at k1
      exact lv_idiv hx hb (hd (Nat.succ_ne_zero _)) (by simpa using hg) k1
    · cases hrun
  case irem =>
    dsimp only [am_eff] at hrun
    split at hrun
    · rename_i y x u
      injection hrun with hrun
      injection hrun with hg hrun
      injection hrun with h1 hrun
      injection hrun with h2 h3
      have k1 := k0 h2.symm h3.symm
      rw [← h1] at k1
      exact lv_irem hx hb (hd (Nat.succ_ne_zero _)) (by simpa using hg) k1
    · cases hrun
  case ldiv =>
    dsimp only [am_eff] at hrun
    split at hrun
    · rename_i y x u
      injection hrun with hrun
      injection hrun with hg hrun
      injection hrun with h1 hrun
      injection hrun with h2 h3
      have k1 := k0 h2.symm h3.symm
      rw [← h1] at k1
      exact lv_ldiv hx hb (hd (Nat.succ_ne_zero _)) (by simpa using hg) k1
    · cases hrun
  case putfield x =>
    dsimp only [am_eff] at hrun
    split at hrun
    · rename_i v cc u
      split at hrun
      · rename_i kd vs h0 hc
        have hw := hG.2.1 _ hgr.1
        unfold am_PW at hw
        simp only [h0] at hw
        obtain ⟨C, T, N, ty, hvc, hk, hci, hCd, hlk, hty, hy0, hy1, hy2⟩ := hw
        have hfinal := hgr.2 _ hvc
        obtain ⟨ty0, q1, q2, q3, q4, q5⟩ := am_cls _ _ hvc
        have hu : ∀ w ∈ u_ws C T N, w ∈ am_ws := fun w hw => (hG.2.2.1 _ _ hvc w hw).mem
        have hlt := am_lt_len hc
        have hlt9 : cc < 1000 := Nat.lt_of_lt_of_le hlt (Nat.le_trans hW.2.1 (by decide))
        cases hkd : Nat.beq kd r.2.1 with
        | false => rw [hkd] at hrun; cases hrun
        | true =>
          rw [hkd] at hrun
          have e0 := Nat.eq_of_beq_eq_true hkd
          subst e0
          simp only [cond_true] at hrun
          have e5 : Nat.blt r.2.1 50 = true := am_blt.mpr (by omega)
          have hat := am_conc_at G dA dB al S μ cc
          rw [hc] at hat
          simp only [Option.map_some, am_cell, e5, cond_true] at hat
          have hput : ∀ v2 : Value, r.2.2.1 < vs.length → narrow ty v2 = v2 → fits ty v2 = true →
              (∀ (H1 : Heap) (locs1 : List Loc), va_P D vwCl ((am_conc G dA dB al S μ).set cc (al.getD cc 0, .inr (r.2.1, (vs.mapIdx (am_fld G al μ cc)).set r.2.2.1 v2))) H1 → va_D (fun q => N0 ≤ q) ((am_conc G dA dB al S μ).set cc (al.getD cc 0, .inr (r.2.1, (vs.mapIdx (am_fld G al μ cc)).set r.2.2.1 v2))) → va_S (fun q => N0 ≤ q) s.heap H1 locs1 → W p l e R s mi args below meth c H1 locs1 cells slots Q (F0 mi (pc + 3) ar (u.map (am_tr G al)))) →
              W p l e R s mi args below meth c H locs cells slots Q (F0 mi pc ar (v2 :: .ref (al.getD cc 0) :: u.map (am_tr G al))) := by
            intro v2 hlen hn hfit kv
            cases hf : (T r.2.2.1).2.2.2 with
            | false => exact va_put hx hb hts hu ty0 q1 q2 hown hSt.1 hW.2.2.2.1 hW.2.2.2.2 hS cc hat hvc r.2.2.1 hk (ref := C) (hts _ hlk.mem) (fun x hx => by rw [← hCd]; exact hx) hf hty hn hfit (by simpa using hlen) (hd (Nat.succ_ne_zero _)) kv
            | true =>
              obtain ⟨z1, z2⟩ := hfinal hf
              exact va_putF hx hb hts hu ty0 q1 q2 hown hSt.1 hW.2.2.2.1 hW.2.2.2.2 hS cc hat hvc r.2.2.1 hk (ref := C) (hts _ hlk.mem) (fun x hx => by rw [← hCd]; exact hx) hf (hin z1) (by rw [hCd, z2]) hty hn hfit (by simpa using hlen) (hd (Nat.succ_ne_zero _)) kv
          show W p l e R s mi args below meth c H locs cells slots Q (F0 mi pc ar (am_tr G al v :: .ref (am_ad G al cc) :: u.map (am_tr G al)))
          rw [am_ad_lt hlt9]
          have hrow : am_row μ cc (μ cc) = μ := by
            funext z
            unfold am_row
            split
            · rename_i h; rw [h]
            · rfl
          split at hrun
          · rename_i z x hv
            injection hrun with hrun
            injection hrun with hg hrun
            injection hrun with h1 hrun
            injection hrun with h2 h3
            subst h1 h2 h3
            have hty2 : narrow ty (.int x) = .int x ∧ fits ty (.int x) = true := by
              rcases (Bool.or_eq_true _ _).mp hg with g | g
              · rw [hy0 (Nat.eq_of_beq_eq_true g)]; exact ⟨rfl, rfl⟩
              · obtain ⟨g1, g2⟩ := (Bool.and_eq_true _ _).mp g
                rw [hy1 (Nat.eq_of_beq_eq_true g1)]
                rcases (Bool.or_eq_true _ _).mp g2 with g2 | g2
                · rw [of_decide_eq_true g2]; exact ⟨by decide, by decide⟩
                · rw [of_decide_eq_true g2]; exact ⟨by decide, by decide⟩
            refine hput (.int x) (am_lt_len hv) hty2.1 hty2.2 (fun H1 locs1 hP hD hS1 => ?_)
            have hx1 : am_cell G dA dB al (am_row μ cc (upd (μ cc) r.2.2.1 x)) cc (r.2.1, vs) = .inr (r.2.1, (vs.mapIdx (am_fld G al μ cc)).set r.2.2.1 (.int x)) := by
              simp only [am_cell, e5, cond_true]
              congr 2
              apply List.ext_getElem?
              intro j
              rw [List.getElem?_mapIdx, List.getElem?_set, List.getElem?_mapIdx]
              by_cases hj : r.2.2.1 = j
              · subst hj
                rw [if_pos rfl, hv, if_pos (by simpa using am_lt_len hv)]
                simp [am_fld, am_row_at, upd]
              · rw [if_neg hj]
                cases hvj : vs[j]? with
                | none => rfl
                | some y =>
                  have : ¬ j = r.2.2.1 := fun q => hj q.symm
                  cases y <;> simp [am_fld, am_row_at, upd, this]
            rw [am_conc_set hlt hx1, am_set_same hc] at hP hD
            exact kk H1 locs1 cells slots al rfl rfl List.prefix_rfl ⟨hW.1, hW.2.1, by rw [am_row_ne (Nat.ne_of_gt (Nat.lt_trans hlt9 (by decide)))]; exact hW.2.2.1, hP, hD⟩ hS1 hl
          · rename_i a hv
            injection hrun with hrun
            injection hrun with hg hrun
            injection hrun with h1 hrun
            injection hrun with h2 h3
            subst h1 h2 h3
            have hty2 : narrow ty (.ref (am_ad G al a)) = .ref (am_ad G al a) ∧ fits ty (.ref (am_ad G al a)) = true := by
              rcases hy2 (Nat.eq_of_beq_eq_true hg) with ⟨n, rfl⟩ | ⟨n, rfl⟩ <;> exact ⟨rfl, rfl⟩
            refine hput (.ref (am_ad G al a)) (am_lt_len hv) hty2.1 hty2.2 (fun H1 locs1 hP hD hS1 => ?_)
            have hx1 : am_cell G dA dB al (am_row μ cc (μ cc)) cc (r.2.1, vs.set r.2.2.1 (.ref a)) = .inr (r.2.1, (vs.mapIdx (am_fld G al μ cc)).set r.2.2.1 (.ref (am_ad G al a))) := by
              simp only [am_cell, e5, cond_true, hrow]
              congr 2
              apply List.ext_getElem?
              intro j
              rw [List.getElem?_mapIdx, List.getElem?_set, List.getElem?_set, List.getElem?_mapIdx]
              by_cases hj : r.2.2.1 = j
              · subst hj
                rw [if_pos rfl, if_pos rfl, if_pos (am_lt_len hv), if_pos (by simpa using am_lt_len hv)]
                rfl
              · rw [if_neg hj, if_neg hj]
            rw [am_conc_set hlt hx1, hrow] at hP hD
            have e1 : am_sl (S.set cc (r.2.1, vs.set r.2.2.1 (.ref a))) = am_sl S := am_sl_set _ _ _ _ hc (by unfold am_slc; simp)
            exact kk H1 locs1 cells slots al (by simp) (by rw [e1]) List.prefix_rfl ⟨by simpa using hW.1, by simpa using hW.2.1, hW.2.2.1, hP, hD⟩ hS1 hl
          · rename_i hv
            injection hrun with hrun
            injection hrun with hg hrun
            injection hrun with h1 hrun
            injection hrun with h2 h3
            subst h1 h2 h3
            have hty2 : narrow ty .null = .null ∧ fits ty .null = true := by
              rcases hy2 (Nat.eq_of_beq_eq_true hg) with ⟨n, rfl⟩ | ⟨n, rfl⟩ <;> exact ⟨rfl, rfl⟩
            refine hput .null (am_lt_len hv) hty2.1 hty2.2 (fun H1 locs1 hP hD hS1 => ?_)
            have hx1 : am_cell G dA dB al (am_row μ cc (μ cc)) cc (r.2.1, vs.set r.2.2.1 .null) = .inr (r.2.1, (vs.mapIdx (am_fld G al μ cc)).set r.2.2.1 .null) := by
              simp only [am_cell, e5, cond_true, hrow]
              congr 2
              apply List.ext_getElem?
              intro j
              rw [List.getElem?_mapIdx, List.getElem?_set, List.getElem?_set, List.getElem?_mapIdx]
              by_cases hj : r.2.2.1 = j
              · subst hj
                rw [if_pos rfl, if_pos rfl, if_pos (am_lt_len hv), if_pos (by simpa using am_lt_len hv)]
                rfl
              · rw [if_neg hj, if_neg hj]
            rw [am_conc_set hlt hx1, hrow] at hP hD
            have e1 : am_sl (S.set cc (r.2.1, vs.set r.2.2.1 .null)) = am_sl S := am_sl_set _ _ _ _ hc (by unfold am_slc; simp)
            exact kk H1 locs1 cells slots al (by simp) (by rw [e1]) List.prefix_rfl ⟨by simpa using hW.1, by simpa using hW.2.1, hW.2.2.1, hP, hD⟩ hS1 hl
          · cases hrun
      · cases hrun
    · cases hrun
  case invokestatic x =>
    dsimp only [am_eff] at hrun
    split at hrun
    · rename_i n dp c1 sp c0 u h7
      have hw := hG.2.1 _ (hgr (by rw [h7]; decide)).1
      unfold am_PW at hw
      simp only [h7] at hw
      obtain ⟨w1, w2, w3, w4⟩ := hw
      split at hrun
      · rename_i k0' v0 k1' v1 hc0 hc1
        cases hk : (Nat.ble 100 k0' && Nat.ble 100 k1') with
        | false => rw [hk] at hrun; cases hrun
        | true =>
          rw [hk] at hrun
          simp only [cond_true] at hrun
          injection hrun with hrun
          injection hrun with hg hrun
          injection hrun with h1 hrun
          injection hrun with h2 h3
          subst h1 h2 h3
          simp only [Bool.and_eq_true, Bool.not_eq_true', decide_eq_false_iff_not] at hg hk
          obtain ⟨⟨g0, gs⟩, g1, g2, g3, g4, g5⟩ := hg
          have g0 := am_blt.mp g0
          have gs := Nat.le_of_ble_eq_true gs
          have g4 := Nat.le_of_ble_eq_true g4
          have g5 := Nat.le_of_ble_eq_true g5
          have hlt0 := am_lt_len hc0
          have hlt1 := am_lt_len hc1
          have hl0 : c0 < 1000 := Nat.lt_of_lt_of_le hlt0 (Nat.le_trans hW.2.1 (by decide))
          have hl1 : c1 < 1000 := Nat.lt_of_lt_of_le hlt1 (Nat.le_trans hW.2.1 (by decide))
          show W p l e R s mi args below meth c H locs cells slots Q (F0 mi pc ar (.int n :: .int dp :: .ref (am_ad G al c1) :: .int sp :: .ref (am_ad G al c0) :: u.map (am_tr G al)))
          rw [am_ad_lt hl0, am_ad_lt hl1]
          have e50 : Nat.blt k0' 50 = false := by
            have := Nat.le_of_ble_eq_true hk.1
            rw [← Bool.not_eq_true, am_blt]; omega
          have e51 : Nat.blt k1' 50 = false := by
            have := Nat.le_of_ble_eq_true hk.2
            rw [← Bool.not_eq_true, am_blt]; omega
          have hat0 := am_conc_at G dA dB al S μ c0
          rw [hc0] at hat0
          simp only [Option.map_some, am_cell, e50, hk.1, cond_true, cond_false] at hat0
          have hat1 := am_conc_at G dA dB al S μ c1
          rw [hc1] at hat1
          simp only [Option.map_some, am_cell, e51, hk.2, cond_true, cond_false] at hat1
          have hcat : ((u.map (am_tr G al)).map fun v => v.category) = u.map Value.category := by
            rw [List.map_map]
            exact List.map_congr_left (fun v _ => am_tr_cat)
          refine va_copyi (ty := .int) hx hb (by rw [hml]; exact hl.2.1.symm) hown (hts _ w1.mem) (hts _ w2.mem) (hts _ w3.mem) (hts _ w4.mem) hSt.1 hW.2.2.2.1 hW.2.2.2.2 hS c0 c1 0 0 hat0 hat1 rfl rfl rfl g1 g2 g3 g4 g5 (fun _ _ => rfl) (Nat.le_trans g0 hd1) ?_ (hd (Nat.succ_ne_zero _)) (fun H1 locs1 hP hD hS1 => ?_)
          · rw [hcat]
            have : nativeFrameWords "java/lang/System" "arraycopy" 5 ≤ 150 := by decide +kernel
            have g0 : 1 ≤ d := g0
            omega
          · have hx1 : am_cell G dA dB al (am_row μ c1 (va_cpy (μ c0) (μ c1) sp.toNatClampNeg dp.toNatClampNeg n.toNatClampNeg)) c1 (k1', v1) = .inl (dA, k1' - 100, .inl (va_cpy (μ c0) (μ c1) sp.toNatClampNeg dp.toNatClampNeg n.toNatClampNeg)) := by
              simp only [am_cell, e51, hk.2, cond_true, cond_false, am_row_at]
            rw [am_conc_set hlt1 hx1, am_set_same hc1] at hP hD
            exact kk H1 locs1 cells slots al rfl rfl List.prefix_rfl ⟨hW.1, hW.2.1, by rw [am_row_ne (Nat.ne_of_gt (Nat.lt_trans hl1 (by decide)))]; exact hW.2.2.1, hP, hD⟩ hS1 hl
      · cases hrun
    · cases hrun
  case invokespecial x =>
    dsimp only [am_eff] at hrun
    split at hrun
    · rename_i a u h8
      have hw := hG.2.1 _ hgr.1
      unfold am_PW at hw
      simp only [h8] at hw
      obtain ⟨w1, w2, w3⟩ := hw
      injection hrun with hrun
      injection hrun with hg hrun
      injection hrun with h1 hrun
      injection hrun with h2 h3
      have k1 := k0 h2.symm h3.symm
      rw [← h1] at k1
      obtain ⟨g0, gs⟩ := (Bool.and_eq_true _ _).mp hg
      have g0 : 1 ≤ d := am_blt.mp g0
      have gs := Nat.le_of_ble_eq_true gs
      have hcat : ((u.map (am_tr G al)).map fun v => v.category) = u.map Value.category := by
        rw [List.map_map]
        exact List.map_congr_left (fun v _ => am_tr_cat)
      refine W.objInit hx hb hown (hts _ w1.mem) (hts _ w2.mem) (hts _ w3.mem) rfl (by rw [hml]; exact hl.2.1) rfl (hd (Nat.succ_ne_zero _)) (Nat.le_trans g0 hd1) ?_ ?_
      · show 2 * 0 + _ + 12 ≤ _
        rw [hcat]
        omega
      · exact k1
    · cases hrun
  case new x =>
    dsimp only [am_eff] at hrun
    split at hrun
    · rename_i h2'
      have hw := hG.2.1 _ hgr
      unfold am_PW at hw
      simp only [h2'] at hw
      obtain ⟨C, T, N, hvc, w1, w2, w3⟩ := hw
      obtain ⟨ty0, q1, q2, q3, q4, q5⟩ := am_cls _ _ hvc
      have q4 : (am_def r.2.1).length = N := q4
      injection hrun with hrun
      injection hrun with hg hrun
      injection hrun with h1 hrun
      injection hrun with h2 h3
      subst h1 h2 h3
      have g9 := am_blt.mp hg
      obtain ⟨o1, o2, o3⟩ := am_gr_new hgrow (by simp)
      have e5 : Nat.blt r.2.1 50 = true := am_blt.mpr (by omega)
      have e6 : Nat.ble 100 r.2.1 = false := by
        cases hq : Nat.ble 100 r.2.1 with
        | false => rfl
        | true => have := Nat.le_of_ble_eq_true hq; omega
      have hsl : am_slc (r.2.1, am_def r.2.1) = N := by
        unfold am_slc
        rw [e6]
        exact q4
      rw [am_sl_app, hsl] at hrs
      simp only [List.length_append, List.length_cons, List.length_nil] at hrc
      refine va_new hx hb hts (fun w hw => (hG.2.2.1 _ _ hvc w hw).mem) ty0 q1 hown (hts _ w1.mem) (hts _ w2.mem) (hts _ w3.mem) hSt.1 hW.2.2.2.1 hW.2.2.2.2 hS (fun q h => Nat.le_trans hSt.2.2.2.2.2.2.2.2.1 h) hvc q3 (by omega) (by show slots + N ≤ R.slots; omega) (hd (Nat.succ_ne_zero _)) (fun q H1 hP hD hS1 => ?_)
      have hx1 : am_cell G dA dB (al ++ [q]) (am_row μ S.length (fun _ => 0)) S.length (r.2.1, am_def r.2.1) = .inr (r.2.1, am_def r.2.1) := by
        simp only [am_cell, e5, cond_true]
        rw [am_def_new (am_row_at _ _ _) _ q5]
      rw [am_conc_push hW.1 hW.2.1 o3 hx1] at hP hD
      have h9 : al.length ≤ 900 := by rw [hW.1]; exact hW.2.1
      have kk1 := kk H1 locs (cells + 1) (slots + N) (al ++ [q]) (by simp; omega) (by rw [am_sl_app, hsl]; omega) (List.prefix_append _ _) ⟨by simp [hW.1], by simp; omega, by rw [am_row_ne (by omega)]; exact hW.2.2.1, hP, hD⟩ hS1 (hl.push h9 (by rw [hW.1]; exact o1))
      rw [List.map_cons, am_map_push h9 (by rw [hW.1]; exact o2)] at kk1
      have e7 : am_tr G (al ++ [q]) (.ref S.length) = .ref q := by
        show Value.ref (am_ad G (al ++ [q]) S.length) = _
        rw [am_ad_lt (by omega), ← hW.1]
        simp
      rw [e7] at kk1
      exact kk1
    · cases hrun
  case newarray ty =>
    cases ty
    case int =>
      dsimp only [am_eff] at hrun
      split at hrun
      · rename_i n u
        injection hrun with hrun
        injection hrun with hg hrun
        injection hrun with h1 hrun
        injection hrun with h2 h3
        subst h1 h2 h3
        simp only [Bool.and_eq_true, Bool.not_eq_true', decide_eq_false_iff_not] at hg
        obtain ⟨⟨g9, g1⟩, g2⟩ := hg
        have g9 := am_blt.mp g9
        have g2 := Nat.le_of_ble_eq_true g2
        obtain ⟨o1, o2, o3⟩ := am_gr_new hgrow (by simp)
        have e6 : Nat.ble 100 (100 + n.toNatClampNeg) = true := Nat.ble_eq_true_of_le (Nat.le_add_right _ _)
        have e5 : Nat.blt (100 + n.toNatClampNeg) 50 = false := by
          rw [← Bool.not_eq_true, am_blt]; omega
        have hsl : am_slc (100 + n.toNatClampNeg, []) = n.toNatClampNeg := by
          unfold am_slc
          rw [e6]
          exact Nat.add_sub_cancel_left _ _
        rw [am_sl_app, hsl] at hrs
        simp only [List.length_append, List.length_cons, List.length_nil] at hrc
        refine va_newa (atype := .int) (ty := .int) (a0 := (n.toNatClampNeg, .inl (fun _ => 0))) hx hb (hts _ hG.2.2.2.mem) rfl hSt.1 hW.2.2.2.1 hW.2.2.2.2 hS (fun q h => Nat.le_trans hSt.2.2.2.2.2.2.2.2.1 h) (fun _ => rfl) g1 rfl (by show _ * 4 ≤ _; omega) (by omega) (by omega) (hd (Nat.succ_ne_zero _)) (fun q cA H1 hK hP hD hS1 => ?_)
        have hcA : cA = dA := by
          have f1 := (hK.2 2 (cA, .int) rfl).2
          have f2 := (hK.2 0 (dA, .int) rfl).2
          exact Option.some.inj (f1.symm.trans f2)
        subst hcA
        have hx1 : am_cell G cA dB (al ++ [q]) (am_row μ S.length (fun _ => 0)) S.length (100 + n.toNatClampNeg, []) = .inl (cA, n.toNatClampNeg, .inl (fun _ => 0)) := by
          simp only [am_cell, e5, e6, cond_true, cond_false, am_row_at, Nat.add_sub_cancel_left]
        rw [am_conc_push hW.1 hW.2.1 o3 hx1] at hP hD
        have h9 : al.length ≤ 900 := by rw [hW.1]; exact hW.2.1
        have o2 : am_okS S.length u = true := by
          unfold am_okS at o2 ⊢
          simp only [List.all_cons, Bool.and_eq_true] at o2
          exact o2.2
        have kk1 := kk H1 locs (cells + 1) (slots + n.toNatClampNeg) (al ++ [q]) (by simp; omega) (by rw [am_sl_app, hsl]; omega) (List.prefix_append _ _) ⟨by simp [hW.1], by simp; omega, by rw [am_row_ne (by omega)]; exact hW.2.2.1, hP, hD⟩ hS1 (hl.push h9 (by rw [hW.1]; exact o1))
        rw [List.map_cons, am_map_push h9 (by rw [hW.1]; exact o2)] at kk1
        have e7 : am_tr G (al ++ [q]) (.ref S.length) = .ref q := by
          show Value.ref (am_ad G (al ++ [q]) S.length) = _
          rw [am_ad_lt (by omega), ← hW.1]
          simp
        rw [e7] at kk1
        exact kk1
      · cases hrun
    all_goals (dsimp only [am_eff] at hrun; cases hrun)
  case anewarray x =>
    dsimp only [am_eff] at hrun
    split at hrun
    · rename_i n u h10
      have hw := hG.2.1 _ hgr
      unfold am_PW at hw
      simp only [h10] at hw
      injection hrun with hrun
      injection hrun with hg hrun
      injection hrun with h1 hrun
      injection hrun with h2 h3
      subst h1 h2 h3
      simp only [Bool.and_eq_true, Bool.not_eq_true', decide_eq_false_iff_not] at hg
      obtain ⟨⟨g9, g1⟩, g2⟩ := hg
      have g9 := am_blt.mp g9
      have g2 := Nat.le_of_ble_eq_true g2
      obtain ⟨o1, o2, o3⟩ := am_gr_new hgrow (by simp)
      have hsl : am_slc (98, List.replicate n.toNatClampNeg Value.null) = n.toNatClampNeg := by
        show (List.replicate n.toNatClampNeg Value.null).length = _
        simp
      rw [am_sl_app, hsl] at hrs
      simp only [List.length_append, List.length_cons, List.length_nil] at hrc
      refine va_newq hx hb hown (hts _ hw.mem) hSt.2.1 hSt.1 hW.2.2.2.1 hW.2.2.2.2 hS (fun q h => Nat.le_trans hSt.2.2.2.2.2.2.2.2.1 h) g1 rfl (by omega) (by omega) (by omega) (hd (Nat.succ_ne_zero _)) (fun q cA H1 hK hP hD hS1 => ?_)
      have hcA : cA = dB := by
        obtain ⟨_, _, _, _, _, f1⟩ := (hK.2 2 (cA, .object "NowhereMoney$Script") rfl).2
        obtain ⟨_, _, _, _, _, f2⟩ := (hK.2 1 (dB, .object "NowhereMoney$Script") rfl).2
        exact Option.some.inj (f1.symm.trans f2)
      subst hcA
      have hx1 : am_cell G dA cA (al ++ [q]) μ S.length (98, List.replicate n.toNatClampNeg .null) = .inl (cA, n.toNatClampNeg, .inr (.inr (.inr (.inr (fun _ => none))))) := by
        show Sum.inl (cA, (List.replicate n.toNatClampNeg Value.null).length, _) = _
        have e3 : am_qf G (al ++ [q]) (List.replicate n.toNatClampNeg Value.null) = fun _ => none := by
          funext j
          unfold am_qf
          rw [List.getElem?_replicate]
          split
          · rename_i a h
            split at h <;> cases h
          · rfl
        rw [List.length_replicate]
        show Sum.inl (cA, n.toNatClampNeg, Sum.inr (Sum.inr (Sum.inr (Sum.inr (am_qf G (al ++ [q]) (List.replicate n.toNatClampNeg Value.null)))))) = _
        rw [e3]
      rw [am_conc_push0 hW.1 hW.2.1 o3 hx1] at hP hD
      have h9 : al.length ≤ 900 := by rw [hW.1]; exact hW.2.1
      have o2 : am_okS S.length u = true := by
        unfold am_okS at o2 ⊢
        simp only [List.all_cons, Bool.and_eq_true] at o2
        exact o2.2
      have kk1 := kk H1 locs (cells + 1) (slots + n.toNatClampNeg) (al ++ [q]) (by simp; omega) (by rw [am_sl_app, hsl]; omega) (List.prefix_append _ _) ⟨by simp [hW.1], by simp; omega, hW.2.2.1, hP, hD⟩ hS1 (hl.push h9 (by rw [hW.1]; exact o1))
      rw [List.map_cons, am_map_push h9 (by rw [hW.1]; exact o2)] at kk1
      have e7 : am_tr G (al ++ [q]) (.ref S.length) = .ref q := by
        show Value.ref (am_ad G (al ++ [q]) S.length) = _
        rw [am_ad_lt (by omega), ← hW.1]
        simp
      rw [e7] at kk1
      exact kk1
    · cases hrun
  all_goals (dsimp only [am_eff] at hrun; cases hrun)
end VAR
end
section
/-! Jumps, answers, calls: the whole simulation. -/
theorem am_eff_mono {L d : Nat} {S S' : am_Sh} {i : Instr} {r : am_R} {st st' : List Value} {μ μ' : am_M} {g : Bool} (h : am_eff L d S i r st μ = some (g, st', S', μ')) : S.length ≤ S'.length ∧ am_sl S ≤ am_sl S' := by
  have fin : S' = S → S.length ≤ S'.length ∧ am_sl S ≤ am_sl S' := fun e => by rw [e]; exact ⟨Nat.le_refl _, Nat.le_refl _⟩
  have finA : ∀ x, S' = S ++ [x] → S.length ≤ S'.length ∧ am_sl S ≤ am_sl S' := fun x e => by rw [e, am_sl_app]; exact ⟨by simp, by omega⟩
  have finS : ∀ c x y, S[c]? = some x → am_slc y = am_slc x → S' = S.set c y → S.length ≤ S'.length ∧ am_sl S ≤ am_sl S' := fun c x y h1 h2 e => by rw [e, am_sl_set S c x y h1 h2]; exact ⟨by simp, Nat.le_refl _⟩
  cases i
  case iaload =>
    dsimp only [am_eff] at h
    split at h
    · split at h
      · cases h; exact fin rfl
      · cases h
    · cases h
  case baload =>
    dsimp only [am_eff] at h
    split at h
    · rename_i i cc u
      cases hk : (Nat.ble 2000 cc && Nat.blt cc (2000 + am_sN)) with
      | false => rw [hk] at h; cases h
      | true =>
        rw [hk] at h
        simp only [cond_true, Option.some.injEq, Prod.mk.injEq] at h
        exact fin h.2.2.1.symm
    · cases h
  case aaload =>
    dsimp only [am_eff] at h
    split at h
    · split at h
      · rename_i kd vs hc
        cases hk : Nat.beq kd 98 with
        | false => rw [hk] at h; cases h
        | true =>
          rw [hk] at h
          simp only [cond_true] at h
          split at h
          · simp only [Option.some.injEq, Prod.mk.injEq] at h
            exact fin h.2.2.1.symm
          · cases h
      · cases h
    · cases h
  case iastore =>
    dsimp only [am_eff] at h
    split at h
    · split at h
      · rename_i kd vs hc
        cases hk : Nat.ble 100 kd with
        | false => rw [hk] at h; cases h
        | true =>
          rw [hk] at h
          simp only [cond_true, Option.some.injEq, Prod.mk.injEq] at h
          exact fin h.2.2.1.symm
      · cases h
    · cases h
  case aastore =>
    dsimp only [am_eff] at h
    split at h
    · split at h
      · rename_i kd vs vs2 hc hv2
        cases hk : Nat.beq kd 98 with
        | false => rw [hk] at h; cases h
        | true =>
          rw [hk] at h
          have hk := Nat.eq_of_beq_eq_true hk
          subst hk
          simp only [cond_true, Option.some.injEq, Prod.mk.injEq] at h
          exact finS _ _ _ hc (by show (vs.set _ _).length = vs.length; simp) h.2.2.1.symm
      · cases h
    · cases h
  case putfield x =>
    dsimp only [am_eff] at h
    split at h
    · split at h
      · rename_i kd vs h0 hc
        cases hk : Nat.beq kd r.2.1 with
        | false => rw [hk] at h; cases h
        | true =>
          rw [hk] at h
          simp only [cond_true] at h
          split at h
          · simp only [Option.some.injEq, Prod.mk.injEq] at h
            exact fin h.2.2.1.symm
          · simp only [Option.some.injEq, Prod.mk.injEq] at h
            exact finS _ _ _ hc (by unfold am_slc; simp) h.2.2.1.symm
          · simp only [Option.some.injEq, Prod.mk.injEq] at h
            exact finS _ _ _ hc (by unfold am_slc; simp) h.2.2.1.symm
          · cases h
      · cases h
    · cases h
  case idiv =>
    dsimp only [am_eff] at h
    split at h
    · simp only [Option.some.injEq, Prod.mk.injEq] at h
      exact fin h.2.2.1.symm
    · cases h
  case irem =>
    dsimp only [am_eff] at h
    split at h
    · simp only [Option.some.injEq, Prod.mk.injEq] at h
      exact fin h.2.2.1.symm
    · cases h
  case ldiv =>
    dsimp only [am_eff] at h
    split at h
    · simp only [Option.some.injEq, Prod.mk.injEq] at h
      exact fin h.2.2.1.symm
    · cases h
  case invokestatic x =>
    dsimp only [am_eff] at h
    split at h
    · split at h
      · rename_i k0 v0 k1 v1 hc0 hc1
        cases hk : (Nat.ble 100 k0 && Nat.ble 100 k1) with
        | false => rw [hk] at h; cases h
        | true =>
          rw [hk] at h
          simp only [cond_true, Option.some.injEq, Prod.mk.injEq] at h
          exact fin h.2.2.1.symm
      · cases h
    · cases h
  case invokespecial x =>
    dsimp only [am_eff] at h
    split at h
    · simp only [Option.some.injEq, Prod.mk.injEq] at h
      exact fin h.2.2.1.symm
    · cases h
  case new x =>
    dsimp only [am_eff] at h
    split at h
    · simp only [Option.some.injEq, Prod.mk.injEq] at h
      exact finA _ h.2.2.1.symm
    · cases h
  case newarray ty =>
    cases ty
    case int =>
      dsimp only [am_eff] at h
      split at h
      · simp only [Option.some.injEq, Prod.mk.injEq] at h
        exact finA _ h.2.2.1.symm
      · cases h
    all_goals (dsimp only [am_eff] at h; cases h)
  case anewarray x =>
    dsimp only [am_eff] at h
    split at h
    · simp only [Option.some.injEq, Prod.mk.injEq] at h
      exact finA _ h.2.2.1.symm
    · cases h
  all_goals (dsimp only [am_eff] at h; cases h)
theorem am_mono {P : Nat → List am_I} {ML : Nat → Nat} {L : Nat} : ∀ (n d m : Nat) (k : List am_I) (ls : am_L) (st : List Value) (S : am_Sh) (μ : am_M) (rv : Option Value) (S1 : am_Sh) (μ1 : am_M), am_run P ML L n d m k ls st S μ = some (rv, S1, μ1) → S.length ≤ S1.length ∧ am_sl S ≤ am_sl S1 := by
  intro n
  induction n with
  | zero => intro d m k ls st S μ rv S1 μ1 h; simp [am_run] at h
  | succ n ih =>
    intro d m k ls st S μ rv S1 μ1 h
    cases k with
    | nil => simp [am_run] at h
    | cons x k =>
      obtain ⟨pc, i, r⟩ := x
      rw [am_run] at h
      split at h
      · exact ih _ _ _ _ _ _ _ _ _ _ h
      · split at h
        · rename_i heff
          split at h
          · have h1 := ih _ _ _ _ _ _ _ _ _ _ h
            have h2 := am_eff_mono heff
            omega
          · cases h
        · split at h
          · split at h
            · exact ih _ _ _ _ _ _ _ _ _ _ h
            · exact ih _ _ _ _ _ _ _ _ _ _ h
          · split at h
            · split at h
              · cases h; exact ⟨Nat.le_refl _, Nat.le_refl _⟩
              · cases h
            · split at h
              · split at h
                · cases h
                · split at h
                  · cases h
                  · split at h
                    · rename_i hc
                      split at h
                      · have h1 := ih _ _ _ _ _ _ _ _ _ _ h
                        have h2 := ih _ _ _ _ _ _ _ _ _ _ hc
                        omega
                      · cases h
                    · cases h
              · cases h
theorem am_ad_pre {G : am_G} {al al' : List Nat} {a : Nat} (hp : al <+: al') (h9 : al.length ≤ 900) (h : am_okV al.length (.ref a) = true) : am_ad G al' a = am_ad G al a := by
  obtain ⟨x, rfl⟩ := hp
  unfold am_ad
  have h : (Nat.blt a al.length || Nat.ble 1000 a) = true := h
  cases h1 : Nat.blt a 1000 with
  | false => rfl
  | true =>
    have h2 : a < al.length := by
      rcases (Bool.or_eq_true _ _).mp h with h | h
      · exact am_blt.mp h
      · exact absurd (Nat.le_of_ble_eq_true h) (Nat.not_le.mpr (am_blt.mp h1))
    show (al ++ x).getD a 0 = al.getD a 0
    rw [List.getD_eq_getElem?_getD, List.getD_eq_getElem?_getD, List.getElem?_append_left h2]
theorem am_tr_pre {G : am_G} {al al' : List Nat} {v : Value} (hp : al <+: al') (h9 : al.length ≤ 900) (h : am_okV al.length v = true) : am_tr G al' v = am_tr G al v := by
  cases v with
  | ref a => show Value.ref _ = Value.ref _; rw [am_ad_pre hp h9 h]
  | _ => rfl
theorem am_gr_pre {G : am_G} {al al' : List Nat} {S S' : am_Sh} {ls : am_L} {st : List Value} {n : Nat} {ar : Array Slot} (h : am_gr S S' ls st = true) (hp : al <+: al') (h1 : al.length = S.length) (h2 : al'.length = S'.length) (h9 : S.length ≤ 900) (hl : am_hasL (am_tr G al) ar n ls) :
    am_hasL (am_tr G al') ar n ls ∧ st.map (am_tr G al') = st.map (am_tr G al) := by
  unfold am_gr at h
  rcases (Bool.or_eq_true _ _).mp h with h | h
  · have he := Nat.eq_of_beq_eq_true h
    have : al = al' := hp.eq_of_length (by omega)
    subst this
    exact ⟨hl, rfl⟩
  · obtain ⟨g1, g2⟩ := (Bool.and_eq_true _ _).mp h
    obtain ⟨g2, -⟩ := (Bool.and_eq_true _ _).mp g2
    rw [← h1] at g1 g2
    refine ⟨⟨hl.1, ?_⟩, List.map_congr_left (fun u hu => am_tr_pre hp (by omega) (List.all_eq_true.mp g2 _ hu))⟩
    rw [am_prs_congr (g := am_tr G al) ls 0 (fun u hu => am_tr_pre hp (by omega) (List.all_eq_true.mp g1 _ hu))]
    exact hl.2
theorem am_at_suf (k : List am_I) (tg : Nat) : am_at k tg <:+ k := List.dropWhile_suffix _
theorem am_at_pc (k : List am_I) (tg : Nat) (h : am_at k tg ≠ []) : am_pc (am_at k tg) = tg := by
  have h1 := List.head_dropWhile_not (l := k) (fun e : am_I => !(Nat.beq e.1 tg)) h
  have h2 : ∀ (l : List am_I) (h : l ≠ []), am_pc l = (l.head h).1 := by
    intro l h
    cases l with
    | nil => exact absurd rfl h
    | cons x y => simp [am_pc]
  rw [h2 _ h]
  have h1 : (!(Nat.beq ((am_at k tg).head h).1 tg)) = false := h1
  simp only [Bool.not_eq_false'] at h1
  exact Nat.eq_of_beq_eq_true h1
theorem am_cn_of : ∀ ci, ci < 12 → ∃ q, vwCl[ci]? = some q ∧ q.1 = am_cn ci := by
  intro ci h
  match ci, h with
  | 0, _ => exact ⟨_, rfl, rfl⟩
  | 1, _ => exact ⟨_, rfl, rfl⟩
  | 2, _ => exact ⟨_, rfl, rfl⟩
  | 3, _ => exact ⟨_, rfl, rfl⟩
  | 4, _ => exact ⟨_, rfl, rfl⟩
  | 5, _ => exact ⟨_, rfl, rfl⟩
  | 6, _ => exact ⟨_, rfl, rfl⟩
  | 7, _ => exact ⟨_, rfl, rfl⟩
  | 8, _ => exact ⟨_, rfl, rfl⟩
  | 9, _ => exact ⟨_, rfl, rfl⟩
  | 10, _ => exact ⟨_, rfl, rfl⟩
  | 11, _ => exact ⟨_, rfl, rfl⟩
  | k + 12, h => omega
section VAR
variable {p : Program} {l : Launch} {e : Env} {R : Room} {s : State} {mi : MethodId} {args : Array Value} {below : List Frame} {meth : Method} {c : Code} {H : Heap} {locs : List Loc} {cells slots : Nat} {Q : State → Prop}
variable {t : am_T} {D : va_G} {G : am_G} {dA dB : ClassId} {N0 L : Nat} {xs : Nat → Int32} {al : List Nat} {S : am_Sh} {μ : am_M} {m : Nat}
set_option maxHeartbeats 4000000 in
theorem am_sim_jmp (hx : p.tables.exec = Jvm.exec) (hb : c.code = am_B t m) {pc tg : Nat} {i : Instr} {r : am_R} {st st' : List Value} {ar : Array Slot} {b : Bool}
    (hrun : am_jmp i r pc st = some (b, tg, st')) (hdec : am_dec (am_B t m) pc i) (hgr : am_GR t m pc i r)
    (kt : b = true → W p l e R s mi args below meth c H locs cells slots Q (F0 mi tg ar (st'.map (am_tr G al))))
    (kf : b = false → am_len i ≠ 0 → W p l e R s mi args below meth c H locs cells slots Q (F0 mi (pc + am_len i) ar (st'.map (am_tr G al)))) :
    W p l e R s mi args below meth c H locs cells slots Q (F0 mi pc ar (st.map (am_tr G al))) := by
  have hd := hdec.1
  cases i
  case goto o =>
    cases hrun
    exact lv_goto hx hb (hd (Nat.succ_ne_zero _)) hgr (kt rfl)
  case ifCond cd o =>
    dsimp only [am_jmp] at hrun
    split at hrun
    · simp only [Option.some.injEq, Prod.mk.injEq] at hrun
      obtain ⟨hb1, rfl, rfl⟩ := hrun
      have kf := fun h => kf h (Nat.succ_ne_zero _)
      cases cd
      · exact lv_if_eq hx hb (hd (Nat.succ_ne_zero _)) hgr (fun h => kt (by rw [← hb1]; simpa [am_cmp] using h)) (fun h => kf (by rw [← hb1]; simpa [am_cmp] using h))
      · exact lv_if_ne hx hb (hd (Nat.succ_ne_zero _)) hgr (fun h => kt (by rw [← hb1]; simpa [am_cmp] using h)) (fun h => kf (by rw [← hb1]; simpa [am_cmp] using h))
      · exact lv_if_lt hx hb (hd (Nat.succ_ne_zero _)) hgr (fun h => kt (by rw [← hb1]; exact decide_eq_true h)) (fun h => kf (by rw [← hb1]; exact decide_eq_false h))
      · exact lv_if_ge hx hb (hd (Nat.succ_ne_zero _)) hgr (fun h => kt (by rw [← hb1]; exact decide_eq_true h)) (fun h => kf (by rw [← hb1]; exact decide_eq_false h))
      · exact lv_if_gt hx hb (hd (Nat.succ_ne_zero _)) hgr (fun h => kt (by rw [← hb1]; exact decide_eq_true h)) (fun h => kf (by rw [← hb1]; exact decide_eq_false h))
      · exact lv_if_le hx hb (hd (Nat.succ_ne_zero _)) hgr (fun h => kt (by rw [← hb1]; exact decide_eq_true h)) (fun h => kf (by rw [← hb1]; exact decide_eq_false h))
    · cases hrun
  case if_icmp cd o =>
    dsimp only [am_jmp] at hrun
    split at hrun
    · simp only [Option.some.injEq, Prod.mk.injEq] at hrun
      obtain ⟨hb1, rfl, rfl⟩ := hrun
      have kf := fun h => kf h (Nat.succ_ne_zero _)
      cases cd
      · exact lv_icmp_eq hx hb (hd (Nat.succ_ne_zero _)) hgr (fun h => kt (by rw [← hb1]; simpa [am_cmp] using h)) (fun h => kf (by rw [← hb1]; simpa [am_cmp] using h))
      · exact lv_icmp_ne hx hb (hd (Nat.succ_ne_zero _)) hgr (fun h => kt (by rw [← hb1]; simpa [am_cmp] using h)) (fun h => kf (by rw [← hb1]; simpa [am_cmp] using h))
      · exact lv_icmp_lt hx hb (hd (Nat.succ_ne_zero _)) hgr (fun h => kt (by rw [← hb1]; exact decide_eq_true h)) (fun h => kf (by rw [← hb1]; exact decide_eq_false h))
      · exact lv_icmp_ge hx hb (hd (Nat.succ_ne_zero _)) hgr (fun h => kt (by rw [← hb1]; exact decide_eq_true h)) (fun h => kf (by rw [← hb1]; exact decide_eq_false h))
      · exact lv_icmp_gt hx hb (hd (Nat.succ_ne_zero _)) hgr (fun h => kt (by rw [← hb1]; exact decide_eq_true h)) (fun h => kf (by rw [← hb1]; exact decide_eq_false h))
      · exact lv_icmp_le hx hb (hd (Nat.succ_ne_zero _)) hgr (fun h => kt (by rw [← hb1]; exact decide_eq_true h)) (fun h => kf (by rw [← hb1]; exact decide_eq_false h))
    · cases hrun
  case ifnull o =>
    dsimp only [am_jmp] at hrun
    split at hrun
    · cases hrun
      exact lv_ifnullN hx hb (hd (Nat.succ_ne_zero _)) hgr (kt rfl)
    · cases hrun
      exact lv_ifnull hx hb (hd (Nat.succ_ne_zero _)) (kf rfl (Nat.succ_ne_zero _))
    · cases hrun
  case tableswitch dflt lo hi offs =>
    obtain ⟨n, hn⟩ := hdec.2 rfl
    dsimp only [am_jmp] at hrun
    split at hrun
    · rename_i x u
      split at hrun
      · rename_i ho
        simp only [Option.some.injEq, Prod.mk.injEq] at hrun
        obtain ⟨hb1, rfl, rfl⟩ := hrun
        refine lv_tableOut hx hb hn ?_ (Int.toNat_of_nonneg hgr.1).symm (kt hb1.symm)
        simpa using ho
      · rename_i ho
        split at hrun
        · rename_i o hoo
          simp only [Option.some.injEq, Prod.mk.injEq] at hrun
          obtain ⟨hb1, rfl, rfl⟩ := hrun
          have ho : ¬ (x.toInt < lo ∨ hi < x.toInt) := by simpa using ho
          refine lv_tableIn hx hb hn (fun h => ho (Or.inl h)) (fun h => ho (Or.inr h)) hoo (Int.toNat_of_nonneg (hgr.2 o ?_)).symm (kt hb1.symm)
          exact Array.mem_toList_iff.mpr (Array.mem_of_getElem? hoo)
        · cases hrun
    · cases hrun
  all_goals (dsimp only [am_jmp] at hrun; cases hrun)
end VAR
end
section
/-! THE SIMULATION: where the small machine answers, the real one does. -/
theorem am_St.moved {t : am_T} {D : va_G} {G : am_G} {dA dB : ClassId} {N0 L : Nat} {xs : Nat → Int32} {s U : State} {H H1 : Heap} (hW : s.WarmedH U.vm) (h : am_St t D G dA dB N0 L xs s H) (hz : H.size ≤ H1.size) (hq : ∀ a : Nat, a < H.size → ¬ N0 ≤ a → H1[a]? = H[a]?) : am_St t D G dA dB N0 L xs U H1 := by
  obtain ⟨h1, h2, h3, h4, h5, h6, h7, h8, h9, h10⟩ := h
  have ha := hW.alike
  refine ⟨h1.moved ha, h2.moved ha, fun e he => (h3 e he).warm hW, (h4.kept hq).moved ha, (h5.kept hq).moved ha, (h6.kept hq).moved ha, ?_, h8, Nat.le_trans h9 hz, fun e he => (h10 e he).warmM hW⟩
  obtain ⟨scr, g1, g2⟩ := h7.moved ha
  exact ⟨scr, by rw [hq _ (Nat.lt_of_lt_of_le h8 h9) (Nat.not_le.mpr h8)]; exact g1, g2⟩
def am_WS (t : am_T) (m : Nat) : List Cond := Cond.code (am_Y t m) (am_B t m) (am_ML t m) (am_RT t m) :: am_ws
def am_Pc (t : am_T) (D : va_G) (G : am_G) (dA dB : ClassId) (N0 L : Nat) (xs : Nat → Int32) (al : List Nat) (S : am_Sh) (μ : am_M) (a : List Value) : Array Value → State → Prop := va_Pc (a.map (am_tr G al)) (fun U => am_St t D G dA dB N0 L xs U U.heap ∧ am_Wd D G dA dB N0 xs al S μ U.heap)
def am_Qc (D : va_G) (G : am_G) (dA dB : ClassId) (N0 : Nat) (xs : Nat → Int32) (al : List Nat) (rv : Option Value) (S' : am_Sh) (μ' : am_M) : Array Value → State → Outcome → State → Prop := fun _ st o t => (∃ al', o = .returned (rv.map (am_tr G al')) ∧ al <+: al' ∧ am_Wd D G dA dB N0 xs al' S' μ' t.heap) ∧ va_F (fun q => N0 ≤ q) st t
def am_Sim (t : am_T) (D : va_G) (G : am_G) (dA dB : ClassId) (N0 L : Nat) (xs : Nat → Int32) (l : Launch) (n : Nat) : Prop :=
  ∀ (d m : Nat) (k : List am_I) (ls : am_L) (st : List Value) (S : am_Sh) (μ : am_M) (rv : Option Value) (S1 : am_Sh) (μ1 : am_M), am_run (am_P t) (am_ML t) L n d m k ls st S μ = some (rv, S1, μ1) → k <:+ am_P t m →
  ∀ (p : Program) (e : Env) (R : Room) (s : State) (mi : MethodId) (args : Array Value) (below : List Frame) (meth : Method) (c : Code) (H : Heap) (locs : List Loc) (cells slots MC MS : Nat) (Q : State → Prop) (ar : Array Slot) (al : List Nat),
    am_Env t D G dA dB N0 L xs p s mi args meth c m → am_hasL (am_tr G al) ar (am_ML t m) ls → am_Wd D G dA dB N0 xs al S μ H → va_S (fun q => N0 ≤ q) s.heap H locs → d ≤ R.frames → 200 * d ≤ R.locals →
    cells + S1.length = MC + S.length → slots + am_sl S1 = MS + am_sl S → MC ≤ R.cells → MS ≤ R.slots →
    (∀ (pc : Nat) (i : Instr) (r : am_R) (st2 : List Value) (H2 : Heap) (locs2 : List Loc) (al2 : List Nat) (ar2 : Array Slot), am_dec (am_B t m) pc i → am_GR t m pc i r → am_ret i r st2 = some (true, rv) → al <+: al2 → am_Wd D G dA dB N0 xs al2 S1 μ1 H2 → va_S (fun q => N0 ≤ q) s.heap H2 locs2 → W p l e R s mi args below meth c H2 locs2 MC MS Q (F0 mi pc ar2 (st2.map (am_tr G al2)))) →
    W p l e R s mi args below meth c H locs cells slots Q (F0 mi (am_pc k) ar (st.map (am_tr G al)))
section VAR
variable {p : Program} {l : Launch} {e : Env} {R : Room} {s : State} {mi : MethodId} {args : Array Value} {below : List Frame} {meth : Method} {c : Code} {H : Heap} {locs : List Loc} {cells slots : Nat} {Q : State → Prop}
variable {t : am_T} {D : va_G} {G : am_G} {dA dB : ClassId} {N0 L : Nat} {xs : Nat → Int32} {al : List Nat} {S : am_Sh} {μ : am_M} {m : Nat}
/-- behind a call -/
theorem am_go {mc ms pc : Nat} {ar : Array Slot} {st0 rest : List Value} {a : Array Value} {rv : Option Value} {S' : am_Sh} {μ' : am_M} (hr : va_Run p l e R s mi args below meth c H locs cells slots mc ms (F0 mi pc ar st0) rest (am_Qc D G dA dB N0 xs al rv S' μ' a) (fun q => N0 ≤ q)) (hS : va_S (fun q => N0 ≤ q) s.heap H locs)
    (kk : ∀ (H1 : Heap) (locs1 : List Loc) (al' : List Nat), al <+: al' → am_Wd D G dA dB N0 xs al' S' μ' H1 → va_S (fun q => N0 ≤ q) s.heap H1 locs1 → W p l e R s mi args below meth c H1 locs1 (cells + mc) (slots + ms) Q (F0 mi (pc + 3) ar ((rv.map (am_tr G al')).toList ++ rest))) :
    W p l e R s mi args below meth c H locs cells slots Q (F0 mi pc ar st0) := by
  intro T hT X
  obtain ⟨v, st₀, t1, T', L1, h0, X', hL, e1, e2, ⟨⟨al', hv, hpre, hWd⟩, hz, hk⟩, st⟩ := hr T hT X
  cases hv
  rw [h0] at hz hk
  have hz : H.size ≤ T'.heap.size := by rw [e1]; exact hz
  obtain ⟨t2, a1, b1⟩ := kk T'.heap (locs ++ L1) al' hpre (by rw [e1]; exact hWd)
    ⟨Nat.le_trans hS.1 hz, fun q h1 h2 => by rw [e1, hk q (Nat.lt_of_lt_of_le h1 hS.1) h2]; exact hS.2.1 q h1 h2, fun q hq => by
      rcases List.mem_append.mp hq with h | h
      · exact hS.2.2 q h
      · exact hL q h⟩ T' rfl X'
  exact ⟨t2, st t2 a1, b1⟩
theorem am_good_in (hw : am_W (.code (am_Y t m) (am_B t m) (am_ML t m) (am_RT t m))) : GoodIn am_ws (am_WS t m) := by
  intro w h
  rcases List.mem_cons.mp h with h | h
  · rw [h]; exact ⟨hw.mem, good_of_word hw.2⟩
  · exact ⟨h, good_of_word (List.mem_filter.mp h).2⟩
theorem am_blind {a : List Value} : FrameBlind (am_Pc t D G dA dB N0 L xs al S μ a) := by
  intro a U g mk q
  obtain ⟨q0, ⟨h1, h2, h3, h4, h5, h6, h7, h8, h9, h10⟩, q2⟩ := q
  have ha : U.vm.Alike (U.calling g mk a).vm := Vm.Alike.refl U.vm
  exact ⟨q0, ⟨h1.moved ha, h2.moved ha, fun e he => (h3 e he).same rfl, h4.moved ha, h5.moved ha, h6.moved ha, h7.moved ha, h8, h9, fun e he => (h10 e he).same rfl rfl⟩, q2⟩
set_option maxHeartbeats 4000000 in
theorem am_met (hG : am_Good t) {n d : Nat} (ih : am_Sim t D G dA dB N0 L xs l n) {a : List Value} {rv : Option Value} {S1 : am_Sh} {μ1 : am_M} (hpl : plainName (am_Y t m).cls = true) (hlen : (am_ent a).length ≤ am_ML t m)
    (hrun : am_run (am_P t) (am_ML t) L n d m (am_P t m) (am_loc (am_ML t m) a) [] S μ = some (rv, S1, μ1)) :
    Met l (am_Y t m) (am_WS t m) { frames := d, cells := S1.length - S.length, slots := am_sl S1 - am_sl S, locals := 200 * d } (am_Pc t D G dA dB N0 L xs al S μ a) (am_Qc D G dA dB N0 xs al rv S1 μ1) (S1.length - S.length) (am_sl S1 - am_sl S) (fun q => N0 ≤ q) := by
  obtain ⟨hm1, hm2⟩ := am_mono _ _ _ _ _ _ _ _ _ _ _ hrun
  refine Met.ofW (cc := am_B t m) (maxL := am_ML t m) (ret := am_RT t m) hpl rfl ?_
  intro p e s mi args below meth c s₁ B hml hv
  obtain ⟨rfl, hSt, hWd⟩ := hv
  have hx := B.exec
  have hb := B.bytes
  have hr := B.returns
  have hts := atoms_spec (ws := am_WS t m) B.pre
  have hown : s.vm.findClass (am_Y t m).cls = some mi.cls := findClass_of_methodNamed B.named
  have hlocks := B.notSynchronized
  have hnm : meth.name = (am_Y t m).name := (name_of_methodNamed B.named B.method).1
  have hS : va_S (fun q => N0 ≤ q) s.heap s.heap [] := va_S.rf
  have hl := lv_entry (a.map (am_tr G al)) (n := am_ML t m) (by rw [← am_ent_len (f := am_tr G al) (fun _ => am_tr_cat) a]; exact hlen)
  rw [lg_entry_eq]
  generalize (lg_sl (a.map (am_tr G al)) ++ List.replicate (am_ML t m - (lg_sl (a.map (am_tr G al))).length) Slot.unset).toArray = ar at hl ⊢
  have hl : am_hasL (am_tr G al) ar (am_ML t m) (am_loc (am_ML t m) a) := by
    refine ⟨by unfold am_loc; simp; omega, ?_⟩
    unfold am_loc
    rw [am_ent_prs (fun _ => am_tr_cat)]
    exact hl
  have hpc := (hG.1 m).2.1
  have hE : am_Env t D G dA dB N0 L xs p s mi (a.map (am_tr G al)).toArray meth c m := ⟨hx, hb, hml, by rw [← (hG.1 m).2.2]; exact hown, fun w hw => hts w (List.mem_cons_of_mem _ hw), fun q => by rw [hnm]; exact q, hSt⟩
  have key := ih d m (am_P t m) _ _ S μ rv S1 μ1 hrun List.suffix_rfl p e (headSpec (am_WS t m) { frames := d, cells := S1.length - S.length, slots := am_sl S1 - am_sl S, locals := 200 * d }).room s mi (a.map (am_tr G al)).toArray below meth c s.heap [] 0 0 (S1.length - S.length) (am_sl S1 - am_sl S)
    (MQ below (am_Qc D G dA dB N0 xs al rv S1 μ1) (a.map (am_tr G al)).toArray s (S1.length - S.length) (am_sl S1 - am_sl S) (fun q => N0 ≤ q)) ar al hE hl hWd hS (Nat.le_refl _) (Nat.le_refl _) (by omega) (by omega) (Nat.le_refl _) (Nat.le_refl _) ?_
  · rw [hpc] at key
    exact key
  · intro pc i r st2 H2 locs2 al2 ar2 hdec hgr hret hpre hWd2 hS2
    have hd := hdec.1
    have fin : ∀ (o : Option Value) (tt : State), o = rv.map (am_tr G al2) → tt.heap = H2 → am_Qc D G dA dB N0 xs al rv S1 μ1 (a.map (am_tr G al)).toArray s (.returned o) tt := fun o tt ho ht => ⟨⟨al2, by rw [ho], hpre, by rw [ht]; exact hWd2⟩, hS2.F ht⟩
    cases i
    case ireturn =>
      dsimp only [am_ret] at hret
      split at hret
      · rename_i x
        simp only [Option.some.injEq, Prod.mk.injEq] at hret
        obtain ⟨hn, rfl⟩ := hret
        have hgr : am_RT t m = some (am_rty r.2.1) := hgr
        refine W.zret hx hb (hr.trans hgr) ?_ (fun tt ht _ => fin _ tt rfl ht) hS2.2.2 (hd (Nat.succ_ne_zero _))
        unfold am_nar at hn
        split at hn
        · rename_i h0; rw [h0]; rfl
        · rename_i h0
          rw [h0]
          rcases (Bool.or_eq_true _ _).mp hn with g | g
          · rw [of_decide_eq_true g]; decide
          · rw [of_decide_eq_true g]; decide
        · rename_i h0
          rw [h0]
          have := of_decide_eq_true hn
          show Value.int _ = Value.int _
          rw [this]
        · rename_i q0 q1 q2
          have e1 : am_rty r.2.1 = .char := by
            unfold am_rty
            split
            · exact absurd (by assumption) q0
            · exact absurd (by assumption) q1
            · exact absurd (by assumption) q2
            · rfl
          rw [e1]
          have := of_decide_eq_true hn
          show Value.int _ = Value.int _
          rw [this]
      · cases hret
    case lreturn =>
      dsimp only [am_ret] at hret
      split at hret
      · simp only [Option.some.injEq, Prod.mk.injEq] at hret
        obtain ⟨hn, rfl⟩ := hret
        exact W.lret hx hb (hr.trans hgr) (fun tt ht _ => fin _ tt rfl ht) hS2.2.2 (hd (Nat.succ_ne_zero _))
      · cases hret
    case areturn =>
      dsimp only [am_ret] at hret
      split at hret
      · simp only [Option.some.injEq, Prod.mk.injEq] at hret
        obtain ⟨hn, rfl⟩ := hret
        obtain ⟨n, hgr⟩ := hgr
        exact W.aret hx hb (hr.trans hgr) (Or.inl ⟨_, rfl⟩) (Or.inr ⟨_, rfl⟩) (fun tt ht _ => fin _ tt rfl ht) hS2.2.2 (hd (Nat.succ_ne_zero _))
      · cases hret
    case return_ =>
      dsimp only [am_ret] at hret
      split at hret
      · simp only [Option.some.injEq, Prod.mk.injEq] at hret
        obtain ⟨hn, rfl⟩ := hret
        exact W.vret hx hb (hr.trans hgr) (fun tt ht _ => fin _ tt rfl ht) hS2.2.2 (hd (Nat.succ_ne_zero _))
      · cases hret
    all_goals (dsimp only [am_ret] at hret; cases hret)
theorem am_pop_some : ∀ (n : Nat) (st a tl : List Value), am_pop n st = some (a, tl) → st = a.reverse ++ tl ∧ a.length = n := by
  intro n
  induction n with
  | zero => intro st a tl h; simp only [am_pop, Option.some.injEq, Prod.mk.injEq] at h; obtain ⟨rfl, rfl⟩ := h; exact ⟨rfl, rfl⟩
  | succ n ih =>
    intro st a tl h
    cases st with
    | nil => cases h
    | cons v st =>
      simp only [am_pop] at h
      split at h
      · rename_i a' t' h'
        simp only [Option.some.injEq, Prod.mk.injEq] at h
        obtain ⟨rfl, rfl⟩ := h
        obtain ⟨h1, h2⟩ := ih _ _ _ h'
        exact ⟨by rw [h1]; simp, by simp [h2]⟩
      · cases h
theorem am_cats (st : List Value) : ((st.map (am_tr G al)).map fun v => v.category) = st.map Value.category := by
  rw [List.map_map]
  exact List.map_congr_left (fun v _ => am_tr_cat)
set_option maxHeartbeats 8000000 in
theorem am_sim (hG : am_Good t) : ∀ n, am_Sim t D G dA dB N0 L xs l n := by
  intro n
  induction n with
  | zero => intro d m k ls st S μ rv S1 μ1 h; simp [am_run] at h
  | succ n ih =>
    intro d m k ls st S μ rv S1 μ1 h hsuf p e R s mi args below meth c H locs cells slots MC MS Q ar al hE hl hW hS hd1 hd2 hMC hMS hRC hRS hfin
    cases k with
    | nil => simp [am_run] at h
    | cons x k =>
      obtain ⟨pc, i, r⟩ := x
      obtain ⟨hdec, hgr, hnext⟩ := (hG.1 m).1 _ _ hsuf
      have hsk : k <:+ am_P t m := List.IsSuffix.trans (List.suffix_cons _ _) hsuf
      have hne : ∀ {d' : Nat} {ls' : am_L} {st' : List Value} {S' : am_Sh} {μ' : am_M}, am_run (am_P t) (am_ML t) L n d' m k ls' st' S' μ' = some (rv, S1, μ1) → k ≠ [] := by
        intro d' ls' st' S' μ' h hk
        subst hk
        cases n with
        | zero => simp [am_run] at h
        | succ n => simp [am_run] at h
      show W p l e R s mi args below meth c H locs cells slots Q (F0 mi pc ar (st.map (am_tr G al)))
      rw [am_run] at h
      split at h
      · rename_i ls' st' hp
        refine am_sim_pure hG hE hp hdec hgr hW hS hl (fun ar' hl' => ?_)
        have hz : am_len i ≠ 0 := by
          intro hz
          cases i
          all_goals first
            | (exact absurd hz (Nat.succ_ne_zero _))
            | (dsimp only [am_pure] at hp; cases hp)
        have := ih d m k ls' st' S μ rv S1 μ1 h hsk p e R s mi args below meth c H locs cells slots MC MS Q ar' al hE hl' hW hS hd1 hd2 hMC hMS hRC hRS hfin
        rw [hnext (hne h) hz] at this
        exact this
      · split at h
        · rename_i g st' S' μ' hp
          split at h
          · rename_i hg
            obtain ⟨hg1, hg2⟩ := (Bool.and_eq_true _ _).mp hg
            subst hg1
            obtain ⟨hm1, hm2⟩ := am_mono _ _ _ _ _ _ _ _ _ _ _ h
            refine am_sim_eff hG hE hp hg2 hdec hgr hW hS hl hd1 hd2 (by omega) (by omega) (fun H1 locs1 cells1 slots1 al' hc1 hs1 hpre hW1 hS1 hl1 => ?_)
            have hz : am_len i ≠ 0 := by
              intro hz
              cases i
              all_goals first
                | (exact absurd hz (Nat.succ_ne_zero _))
                | (dsimp only [am_eff] at hp; cases hp)
            have := ih d m k ls st' S' μ' rv S1 μ1 h hsk p e R s mi args below meth c H1 locs1 cells1 slots1 MC MS Q ar al' hE hl1 hW1 hS1 hd1 hd2 (by omega) (by omega) hRC hRS (fun pc2 i2 r2 st2 H2 locs2 al2 ar2 q1 q2 q3 q4 q5 q6 => hfin pc2 i2 r2 st2 H2 locs2 al2 ar2 q1 q2 q3 (hpre.trans q4) q5 q6)
            rw [hnext (hne h) hz] at this
            exact this
          · cases h
        · split at h
          · rename_i b tg st' hp
            refine am_sim_jmp hE.1 hE.2.1 hp hdec hgr (fun hb1 => ?_) (fun hb1 hz => ?_)
            · subst hb1
              have hk : am_at (am_P t m) tg ≠ [] := by
                intro hk
                rw [hk] at h
                cases n with
                | zero => simp [am_run] at h
                | succ n => simp [am_run] at h
              have := ih d m (am_at (am_P t m) tg) ls st' S μ rv S1 μ1 h (am_at_suf _ _) p e R s mi args below meth c H locs cells slots MC MS Q ar al hE hl hW hS hd1 hd2 hMC hMS hRC hRS hfin
              rw [am_at_pc _ _ hk] at this
              exact this
            · subst hb1
              have := ih d m k ls st' S μ rv S1 μ1 h hsk p e R s mi args below meth c H locs cells slots MC MS Q ar al hE hl hW hS hd1 hd2 hMC hMS hRC hRS hfin
              rw [hnext (hne h) hz] at this
              exact this
          · split at h
            · rename_i g rv' hp
              split at h
              · rename_i hg
                simp only [Option.some.injEq, Prod.mk.injEq] at h
                obtain ⟨rfl, rfl, rfl⟩ := h
                have e1 : cells = MC := by omega
                have e2 : slots = MS := by omega
                subst e1 e2
                exact hfin pc i r st H locs al ar hdec hgr hp List.prefix_rfl hW hS
              · cases h
            · split at h
              · rename_i m' a tl hcal
                cases d with
                | zero => cases h
                | succ d' =>
                  dsimp only at h
                  split at h
                  · cases h
                  · rename_i hlen
                    have hlen := Nat.le_of_ble_eq_true hlen
                    split at h
                    · rename_i rv' S' μ' hrun
                      split at h
                      · rename_i hg
                        obtain ⟨hm1, hm2⟩ := am_mono _ _ _ _ _ _ _ _ _ _ _ h
                        obtain ⟨hm3, hm4⟩ := am_mono _ _ _ _ _ _ _ _ _ _ _ hrun
                        have hR1 : d' + 1 ≤ R.frames := hd1
                        have hSt := hE.2.2.2.2.2.2
                        have hts := hE.2.2.2.2.1
                        have hCF : CallFix p mi c (am_B t m) (am_ML t m) s args am_ws (am_O t m) := ⟨hE.1, hE.2.1, hE.2.2.1, hE.2.2.2.1, hts⟩
                        have hworld : ∀ U : State, U.heap = H → s.WarmedH U.vm → am_St t D G dA dB N0 L xs U U.heap ∧ am_Wd D G dA dB N0 xs al S μ U.heap := fun U hU hWU => by
                          rw [hU]
                          exact ⟨am_St.moved hWU hSt hS.1 (fun q h1 h2 => hS.2.1 q h1 h2), hW⟩
                        have hkk : am_len i ≠ 0 → am_len i = 3 → ∀ (H1 : Heap) (locs1 : List Loc) (al' : List Nat), al <+: al' → am_Wd D G dA dB N0 xs al' S' μ' H1 → va_S (fun q => N0 ≤ q) s.heap H1 locs1 → W p l e R s mi args below meth c H1 locs1 (cells + (S'.length - S.length)) (slots + (am_sl S' - am_sl S)) Q (F0 mi (pc + 3) ar ((rv'.map (am_tr G al')).toList ++ tl.map (am_tr G al))) := by
                          intro hz hz3 H1 locs1 al' hpre hW1 hS1
                          obtain ⟨hl1, hmap⟩ := am_gr_pre hg hpre hW.1 hW1.1 hW.2.1 hl
                          have := ih (d' + 1) m k ls (rv'.toList ++ tl) S' μ' rv S1 μ1 h hsk p e R s mi args below meth c H1 locs1 (cells + (S'.length - S.length)) (slots + (am_sl S' - am_sl S)) MC MS Q ar al' hE hl1 hW1 hS1 hd1 hd2 (by omega) (by omega) hRC hRS (fun pc2 i2 r2 st2 H2 locs2 al2 ar2 q1 q2 q3 q4 q5 q6 => hfin pc2 i2 r2 st2 H2 locs2 al2 ar2 q1 q2 q3 (hpre.trans q4) q5 q6)
                          rw [hnext (hne h) hz, hz3] at this
                          have e3 : (rv'.toList ++ tl).map (am_tr G al') = (rv'.map (am_tr G al')).toList ++ tl.map (am_tr G al) := by
                            rw [List.map_append, hmap]
                            cases rv' <;> rfl
                          rw [e3] at this
                          exact this
                        unfold am_cal at hcal
                        split at hcal
                        · rename_i hr1
                          split at hcal
                          · rename_i a0 t0 hpop
                            obtain ⟨hp1, hp2⟩ := am_pop_some _ _ _ _ hpop
                            have hstk : st.map (am_tr G al) = (a0.map (am_tr G al)).reverse ++ t0.map (am_tr G al) := by rw [hp1, List.map_append, List.map_reverse]
                            cases i
                            case invokestatic x =>
                              have hgr := hgr (by rw [hr1]; decide)
                              have hw := hG.2.1 _ hgr.1
                              have h99 := hgr.2 hr1
                              unfold am_PW at hw
                              simp only [hr1] at hw
                              cases hk8 : Nat.ble (t0.map Value.category).sum 8 with
                              | false => simp only [hk8, cond_false] at hcal; cases hcal
                              | true =>
                                simp only [hk8, cond_true, Option.some.injEq, Prod.mk.injEq] at hcal
                                obtain ⟨rfl, rfl, rfl⟩ := hcal
                                obtain ⟨hmh, hdesc, hplain, hcode, hini, hlink, hst, -, -, h150, -⟩ := hw
                                have hM := am_met (l := l) (al := al) hG ih hplain hlen hrun
                                rw [hstk]
                                have hcat : 2 * (F0 mi pc ar ((a0.map (am_tr G al)).reverse ++ t0.map (am_tr G al))).monitorRoom + ((t0.map (am_tr G al)).map fun v => v.category).sum ≤ 8 := lv_room (by rw [am_cats]; exact Nat.le_of_ble_eq_true hk8)
                                rcases hlink with hlink | ⟨oc, hoc, hnest⟩
                                · exact am_go (va_runS (As := a0.map (am_tr G al)) (rest := t0.map (am_tr G al)) hCF hM ⟨callB_of (Ts := am_ws) r.2.2.1 hts (am_good_in hcode) rfl rfl rfl (hts _ hini.mem) (hts _ hlink.mem) ⟨hmh.1, hmh.2, hdesc⟩ ⟨hR1, by show 8 + (_ + 11) + 200 * d' ≤ _; omega⟩, hts _ (hst h99).mem⟩ ⟨am_blind, fun U hU hWU => ⟨rfl, hworld U hU hWU⟩⟩ rfl (by simpa using hp2) hl.2.1 rfl hcat (hdec.1 (Nat.succ_ne_zero _)) ⟨by omega, by omega⟩) hS (hkk (Nat.succ_ne_zero _) rfl)
                                · exact am_go (va_runSN (As := a0.map (am_tr G al)) (rest := t0.map (am_tr G al)) hCF hM ⟨va_cnB (host := "NowhereMoney") (Ts := am_ws) r.2.2.1 hts (am_good_in hcode) rfl rfl rfl (by have hoc : am_O t m = am_cn oc := hoc; rw [hoc]; exact hSt.2.2.2.2.2.2.2.2.2 _ hnest) (hts _ hini.mem) ⟨hmh.1, hmh.2, hdesc⟩ ⟨hR1, by show 8 + (_ + 11) + 200 * d' ≤ _; omega⟩, hts _ (hst h99).mem, trivial⟩ ⟨am_blind, fun U hU hWU => ⟨rfl, hworld U hU hWU⟩⟩ rfl (by simpa using hp2) hl.2.1 rfl hcat (hdec.1 (Nat.succ_ne_zero _)) ⟨by omega, by omega⟩) hS (hkk (Nat.succ_ne_zero _) rfl)
                            case invokespecial x =>
                              have hw := hG.2.1 _ hgr.1
                              have h98 := hgr.2 hr1
                              unfold am_PW at hw
                              simp only [hr1] at hw
                              simp only at hcal
                              split at hcal
                              · rename_i cc t2
                                cases hk8 : Nat.ble (t2.map Value.category).sum 8 with
                                | false => simp only [hk8, cond_false] at hcal; cases hcal
                                | true =>
                                  simp only [hk8, cond_true, Option.some.injEq, Prod.mk.injEq] at hcal
                                  obtain ⟨rfl, rfl, rfl⟩ := hcal
                                  obtain ⟨hmh, hdesc, hplain, hcode, hini, hlink, -, hsp, -, h150, -⟩ := hw
                                  obtain ⟨hs1, hs2, hs3⟩ := hsp h98
                                  have hM := am_met (l := l) (al := al) hG ih hplain hlen hrun
                                  rw [hstk]
                                  have hcat : 2 * (F0 mi pc ar ((a0.map (am_tr G al)).reverse ++ (Value.ref cc :: t2).map (am_tr G al))).monitorRoom + ((t2.map (am_tr G al)).map fun v => v.category).sum ≤ 8 := lv_room (by rw [am_cats]; exact Nat.le_of_ble_eq_true hk8)
                                  have hgi := am_good_in hcode
                                  unfold am_WS at hM hgi
                                  rw [hs2] at hM hgi
                                  rcases hlink with hlink | ⟨oc, hoc, hnest⟩
                                  · exact am_go (va_runI (b := am_ad G al cc) (As := a0.map (am_tr G al)) (rest := t2.map (am_tr G al)) hCF hM ⟨callB_of (Ts := am_ws) r.2.2.1 hts hgi rfl rfl rfl (hts _ hini.mem) (hts _ hlink.mem) ⟨hmh.1, hmh.2, hdesc⟩ ⟨hR1, by show 8 + (_ + 11) + 200 * d' ≤ _; omega⟩, hs1, hts _ hs3.mem⟩ ⟨am_blind, fun U hU hWU => ⟨rfl, hworld U hU hWU⟩⟩ rfl (by simpa using hp2) hl.2.1 rfl hcat (hdec.1 (Nat.succ_ne_zero _)) ⟨by omega, by omega⟩) hS (hkk (Nat.succ_ne_zero _) rfl)
                                  · exact am_go (va_runIN (b := am_ad G al cc) (As := a0.map (am_tr G al)) (rest := t2.map (am_tr G al)) hCF hM ⟨va_cnB (host := "NowhereMoney") (Ts := am_ws) r.2.2.1 hts hgi rfl rfl rfl (by have hoc : am_O t m = am_cn oc := hoc; rw [hoc]; exact hSt.2.2.2.2.2.2.2.2.2 _ hnest) (hts _ hini.mem) ⟨hmh.1, hmh.2, hdesc⟩ ⟨hR1, by show 8 + (_ + 11) + 200 * d' ≤ _; omega⟩, hs1, hts _ hs3.mem⟩ ⟨am_blind, fun U hU hWU => ⟨rfl, hworld U hU hWU⟩⟩ rfl (by simpa using hp2) hl.2.1 rfl hcat (hdec.1 (Nat.succ_ne_zero _)) ⟨by omega, by omega⟩) hS (hkk (Nat.succ_ne_zero _) rfl)
                              · cases hcal
                            case invokevirtual x =>
                              have hw := hG.2.1 _ hgr
                              unfold am_PW at hw
                              simp only [hr1] at hw
                              simp only at hcal
                              split at hcal
                              · rename_i cc t2
                                cases hk9 : (am_isA S cc r.2.2.2 && Nat.ble (t2.map Value.category).sum 8) with
                                | false => simp only [hk9, cond_false] at hcal; cases hcal
                                | true =>
                                  simp only [hk9, cond_true, Option.some.injEq, Prod.mk.injEq] at hcal
                                  obtain ⟨rfl, rfl, rfl⟩ := hcal
                                  obtain ⟨hisA, hk8⟩ := (Bool.and_eq_true _ _).mp hk9
                                  obtain ⟨hmh, hdesc, hplain, hcode, hini, hlink, -, -, hvi, h150, -⟩ := hw
                                  have hM := am_met (l := l) (al := al) hG ih hplain hlen hrun
                                  rw [hstk]
                                  have hcat : 2 * (F0 mi pc ar ((a0.map (am_tr G al)).reverse ++ (Value.ref cc :: t2).map (am_tr G al))).monitorRoom + ((t2.map (am_tr G al)).map fun v => v.category).sum ≤ 8 := lv_room (by rw [am_cats]; exact Nat.le_of_ble_eq_true hk8)
                                  have hrec : r.2.2.2 < 98 ∧ ∃ cellB : Cell, H[am_ad G al cc]? = some cellB ∧ cellB.vm.isStatics = false ∧ s.vm.findClass (am_cn r.2.2.2) = some cellB.cls := by
                                    unfold am_isA at hisA
                                    split at hisA
                                    · rename_i kd vs hc
                                      obtain ⟨z1, z2⟩ := (Bool.and_eq_true _ _).mp hisA
                                      have z1 := Nat.eq_of_beq_eq_true z1
                                      have z2 := am_blt.mp z2
                                      subst z1
                                      refine ⟨by omega, ?_⟩
                                      have hlt := am_lt_len hc
                                      rw [am_ad_lt (Nat.lt_of_lt_of_le hlt (Nat.le_trans hW.2.1 (by decide)))]
                                      have hat := am_conc_at G dA dB al S μ cc
                                      rw [hc] at hat
                                      have e5 : Nat.blt r.2.2.2 50 = true := am_blt.mpr (by omega)
                                      simp only [Option.map_some, am_cell, e5, cond_true] at hat
                                      obtain ⟨q, hq1, hq2⟩ := am_cn_of _ z2
                                      rw [← hq2]
                                      exact va_recv hSt.1 hW.2.2.2.1 hq1 hat
                                    · obtain ⟨z1, z2⟩ := (Bool.and_eq_true _ _).mp hisA
                                      obtain ⟨z2, z3⟩ := (Bool.and_eq_true _ _).mp z2
                                      have z1 := Nat.eq_of_beq_eq_true z1
                                      have z2 := Nat.le_of_ble_eq_true z2
                                      have z3 : cc < 1021 := am_blt.mp z3
                                      rw [z1]
                                      refine ⟨by decide, ?_⟩
                                      rw [am_ad_str z2 (Nat.lt_trans z3 (by decide))]
                                      exact vk_recv hSt.2.2.2.1 ((Nat.sub_lt_iff_lt_add z2).mpr z3) hS
                                  obtain ⟨h98, hrec⟩ := hrec
                                  obtain ⟨hv1, hv2, hv3⟩ := hvi h98
                                  rw [← hv1] at hrec
                                  rcases hlink with hlink | ⟨oc, hoc, hnest⟩
                                  · exact am_go (va_runV (C := (am_Y t r.2.1).cls) (b := am_ad G al cc) (As := a0.map (am_tr G al)) (rest := t2.map (am_tr G al)) hCF hM ⟨callB_of (Ts := am_ws) r.2.2.1 hts (am_good_in hcode) rfl rfl rfl (hts _ hini.mem) (hts _ hlink.mem) ⟨hmh.1, hmh.2, hdesc⟩ ⟨hR1, by show 8 + (_ + 11) + 200 * d' ≤ _; omega⟩, hts _ hv2.mem, hts _ hv3.mem⟩ ⟨am_blind, hrec, fun U hU hWU => ⟨rfl, hworld U hU hWU⟩⟩ rfl (by simpa using hp2) hl.2.1 rfl hcat (hdec.1 (Nat.succ_ne_zero _)) ⟨by omega, by omega⟩) hS (hkk (Nat.succ_ne_zero _) rfl)
                                  · exact am_go (va_runVN (C := (am_Y t r.2.1).cls) (b := am_ad G al cc) (As := a0.map (am_tr G al)) (rest := t2.map (am_tr G al)) hCF hM ⟨va_cnB (host := "NowhereMoney") (Ts := am_ws) r.2.2.1 hts (am_good_in hcode) rfl rfl rfl (by have hoc : am_O t m = am_cn oc := hoc; rw [hoc]; exact hSt.2.2.2.2.2.2.2.2.2 _ hnest) (hts _ hini.mem) ⟨hmh.1, hmh.2, hdesc⟩ ⟨hR1, by show 8 + (_ + 11) + 200 * d' ≤ _; omega⟩, hts _ hv2.mem, hts _ hv3.mem⟩ ⟨am_blind, hrec, fun U hU hWU => ⟨rfl, hworld U hU hWU⟩⟩ rfl (by simpa using hp2) hl.2.1 rfl hcat (hdec.1 (Nat.succ_ne_zero _)) ⟨by omega, by omega⟩) hS (hkk (Nat.succ_ne_zero _) rfl)
                              · cases hcal
                            all_goals (simp only at hcal; cases hcal)
                          · cases hcal
                        · cases hcal
                      · cases h
                    · cases h
              · cases h
end VAR
end
section
/-! The code of the law, the class, the reference and what they use of the JDK, with its pool resolved: by program. -/
set_option maxRecDepth 100000 in
def am_c0 : List am_I := [(0, .new 7, 2, 10, 0, 0), (3, .dup, 0, 0, 0, 0), (4, .invokespecial 9, 1, 92, 0, 98), (7, .astore_n 1, 0, 0, 0, 0), (8, .new 10, 2, 11, 0, 0), (11, .dup, 0, 0, 0, 0), (12, .invokespecial 12, 1, 146, 0, 98), (15, .astore_n 2, 0, 0, 0, 0), (16, .iconst 0, 3, 0, 0, 0), (17, .istore_n 3, 0, 0, 0, 0), (18, .iload_n 3, 0, 0, 0, 0), (19, .aload_n 0, 0, 0, 0, 0), (20, .arraylength, 0, 0, 0, 0), (21, .bipush 6, 3, 6, 0, 0), (23, .isub, 0, 0, 0, 0), (24, .if_icmp .gt 1521, 0, 1545, 0, 0), (27, .aload_n 0, 0, 0, 0, 0), (28, .iload_n 3, 0, 0, 0, 0), (29, .iaload, 0, 0, 0, 0), (30, .bipush 63, 3, 63, 0, 0), (32, .iand, 0, 0, 0, 0), (33, .tableswitch 1506 0 36 #[163, 196, 239, 298, 361, 384, 407, 430, 473, 536, 549, 592, 625, 658, 701, 724, 767, 820, 873, 916, 949, 982, 1025, 1068, 1091, 1124, 1167, 1200, 1233, 1246, 1279, 1312, 1345, 1368, 1421, 1444, 1483], 0, 0, 0, 0), (196, .aload_n 1, 0, 0, 0, 0), (197, .aload_n 0, 0, 0, 0, 0), (198, .iload_n 3, 0, 0, 0, 0), (199, .iconst 1, 3, 1, 0, 0), (200, .iadd, 0, 0, 0, 0), (201, .iaload, 0, 0, 0, 0), (202, .aload_n 0, 0, 0, 0, 0), (203, .iload_n 3, 0, 0, 0, 0), (204, .iconst 2, 3, 2, 0, 0), (205, .iadd, 0, 0, 0, 0), (206, .iaload, 0, 0, 0, 0), (207, .invokevirtual 13, 1, 93, 2, 10), (210, .aload_n 2, 0, 0, 0, 0), (211, .aload_n 0, 0, 0, 0, 0), (212, .iload_n 3, 0, 0, 0, 0), (213, .iconst 1, 3, 1, 0, 0), (214, .iadd, 0, 0, 0, 0), (215, .iaload, 0, 0, 0, 0), (216, .aload_n 0, 0, 0, 0, 0), (217, .iload_n 3, 0, 0, 0, 0), (218, .iconst 2, 3, 2, 0, 0), (219, .iadd, 0, 0, 0, 0), (220, .iaload, 0, 0, 0, 0), (221, .invokevirtual 17, 1, 149, 2, 11), (224, .if_icmp .eq 1315, 0, 1539, 0, 0), (227, .iconst 0, 3, 0, 0, 0), (228, .ireturn, 0, 1, 0, 0), (229, .aload_n 1, 0, 0, 0, 0), (230, .aload_n 0, 0, 0, 0, 0), (231, .iload_n 3, 0, 0, 0, 0), (232, .iconst 1, 3, 1, 0, 0), (233, .iadd, 0, 0, 0, 0), (234, .iaload, 0, 0, 0, 0), (235, .aload_n 0, 0, 0, 0, 0), (236, .iload_n 3, 0, 0, 0, 0), (237, .iconst 2, 3, 2, 0, 0), (238, .iadd, 0, 0, 0, 0), (239, .iaload, 0, 0, 0, 0), (240, .aload_n 0, 0, 0, 0, 0), (241, .iload_n 3, 0, 0, 0, 0), (242, .iconst 3, 3, 3, 0, 0), (243, .iadd, 0, 0, 0, 0), (244, .iaload, 0, 0, 0, 0), (245, .invokevirtual 18, 1, 94, 3, 10), (248, .aload_n 2, 0, 0, 0, 0), (249, .aload_n 0, 0, 0, 0, 0), (250, .iload_n 3, 0, 0, 0, 0), (251, .iconst 1, 3, 1, 0, 0), (252, .iadd, 0, 0, 0, 0), (253, .iaload, 0, 0, 0, 0), (254, .aload_n 0, 0, 0, 0, 0), (255, .iload_n 3, 0, 0, 0, 0), (256, .iconst 2, 3, 2, 0, 0), (257, .iadd, 0, 0, 0, 0), (258, .iaload, 0, 0, 0, 0), (259, .aload_n 0, 0, 0, 0, 0), (260, .iload_n 3, 0, 0, 0, 0), (261, .iconst 3, 3, 3, 0, 0), (262, .iadd, 0, 0, 0, 0), (263, .iaload, 0, 0, 0, 0), (264, .invokevirtual 22, 1, 150, 3, 11), (267, .if_icmp .eq 1272, 0, 1539, 0, 0), (270, .iconst 0, 3, 0, 0, 0), (271, .ireturn, 0, 1, 0, 0), (272, .aload_n 1, 0, 0, 0, 0), (273, .aload_n 0, 0, 0, 0, 0), (274, .iload_n 3, 0, 0, 0, 0), (275, .iconst 1, 3, 1, 0, 0), (276, .iadd, 0, 0, 0, 0), (277, .iaload, 0, 0, 0, 0), (278, .aload_n 0, 0, 0, 0, 0), (279, .iload_n 3, 0, 0, 0, 0), (280, .iconst 2, 3, 2, 0, 0), (281, .iadd, 0, 0, 0, 0), (282, .iaload, 0, 0, 0, 0), (283, .aload_n 0, 0, 0, 0, 0), (284, .iload_n 3, 0, 0, 0, 0), (285, .iconst 3, 3, 3, 0, 0), (286, .iadd, 0, 0, 0, 0), (287, .iaload, 0, 0, 0, 0), (288, .ifCond .eq 7, 0, 295, 0, 0), (291, .iconst 1, 3, 1, 0, 0), (292, .goto 4, 0, 296, 0, 0), (295, .iconst 0, 3, 0, 0, 0), (296, .invokevirtual 23, 1, 95, 3, 10), (299, .aload_n 2, 0, 0, 0, 0), (300, .aload_n 0, 0, 0, 0, 0), (301, .iload_n 3, 0, 0, 0, 0), (302, .iconst 1, 3, 1, 0, 0), (303, .iadd, 0, 0, 0, 0), (304, .iaload, 0, 0, 0, 0), (305, .aload_n 0, 0, 0, 0, 0), (306, .iload_n 3, 0, 0, 0, 0), (307, .iconst 2, 3, 2, 0, 0), (308, .iadd, 0, 0, 0, 0), (309, .iaload, 0, 0, 0, 0), (310, .aload_n 0, 0, 0, 0, 0), (311, .iload_n 3, 0, 0, 0, 0), (312, .iconst 3, 3, 3, 0, 0), (313, .iadd, 0, 0, 0, 0), (314, .iaload, 0, 0, 0, 0), (315, .ifCond .eq 7, 0, 322, 0, 0), (318, .iconst 1, 3, 1, 0, 0), (319, .goto 4, 0, 323, 0, 0), (322, .iconst 0, 3, 0, 0, 0), (323, .invokevirtual 27, 1, 151, 3, 11), (326, .if_icmp .eq 1213, 0, 1539, 0, 0), (329, .iconst 0, 3, 0, 0, 0), (330, .ireturn, 0, 1, 0, 0), (331, .aload_n 1, 0, 0, 0, 0), (332, .aload_n 0, 0, 0, 0, 0), (333, .iload_n 3, 0, 0, 0, 0), (334, .iconst 1, 3, 1, 0, 0), (335, .iadd, 0, 0, 0, 0), (336, .iaload, 0, 0, 0, 0), (337, .aload_n 0, 0, 0, 0, 0), (338, .iload_n 3, 0, 0, 0, 0), (339, .iconst 2, 3, 2, 0, 0), (340, .iadd, 0, 0, 0, 0), (341, .iaload, 0, 0, 0, 0), (342, .aload_n 0, 0, 0, 0, 0), (343, .iload_n 3, 0, 0, 0, 0), (344, .iconst 3, 3, 3, 0, 0), (345, .iadd, 0, 0, 0, 0), (346, .iaload, 0, 0, 0, 0), (347, .aload_n 0, 0, 0, 0, 0), (348, .iload_n 3, 0, 0, 0, 0), (349, .iconst 4, 3, 4, 0, 0), (350, .iadd, 0, 0, 0, 0), (351, .iaload, 0, 0, 0, 0), (352, .aload_n 0, 0, 0, 0, 0), (353, .iload_n 3, 0, 0, 0, 0), (354, .iconst 5, 3, 5, 0, 0), (355, .iadd, 0, 0, 0, 0), (356, .iaload, 0, 0, 0, 0), (357, .invokevirtual 28, 1, 96, 5, 10), (360, .aload_n 2, 0, 0, 0, 0), (361, .aload_n 0, 0, 0, 0, 0), (362, .iload_n 3, 0, 0, 0, 0), (363, .iconst 1, 3, 1, 0, 0), (364, .iadd, 0, 0, 0, 0), (365, .iaload, 0, 0, 0, 0), (366, .aload_n 0, 0, 0, 0, 0), (367, .iload_n 3, 0, 0, 0, 0), (368, .iconst 2, 3, 2, 0, 0), (369, .iadd, 0, 0, 0, 0), (370, .iaload, 0, 0, 0, 0), (371, .aload_n 0, 0, 0, 0, 0), (372, .iload_n 3, 0, 0, 0, 0), (373, .iconst 3, 3, 3, 0, 0), (374, .iadd, 0, 0, 0, 0), (375, .iaload, 0, 0, 0, 0), (376, .aload_n 0, 0, 0, 0, 0), (377, .iload_n 3, 0, 0, 0, 0), (378, .iconst 4, 3, 4, 0, 0), (379, .iadd, 0, 0, 0, 0), (380, .iaload, 0, 0, 0, 0), (381, .aload_n 0, 0, 0, 0, 0), (382, .iload_n 3, 0, 0, 0, 0), (383, .iconst 5, 3, 5, 0, 0), (384, .iadd, 0, 0, 0, 0), (385, .iaload, 0, 0, 0, 0), (386, .invokevirtual 32, 1, 155, 5, 11), (389, .if_icmp .eq 1150, 0, 1539, 0, 0), (392, .iconst 0, 3, 0, 0, 0), (393, .ireturn, 0, 1, 0, 0), (394, .aload_n 1, 0, 0, 0, 0), (395, .aload_n 0, 0, 0, 0, 0), (396, .iload_n 3, 0, 0, 0, 0), (397, .iconst 1, 3, 1, 0, 0), (398, .iadd, 0, 0, 0, 0), (399, .iaload, 0, 0, 0, 0), (400, .invokevirtual 33, 1, 97, 1, 10), (403, .aload_n 2, 0, 0, 0, 0), (404, .aload_n 0, 0, 0, 0, 0), (405, .iload_n 3, 0, 0, 0, 0), (406, .iconst 1, 3, 1, 0, 0), (407, .iadd, 0, 0, 0, 0), (408, .iaload, 0, 0, 0, 0), (409, .invokevirtual 37, 1, 156, 1, 11), (412, .if_icmp .eq 1127, 0, 1539, 0, 0), (415, .iconst 0, 3, 0, 0, 0), (416, .ireturn, 0, 1, 0, 0), (417, .aload_n 1, 0, 0, 0, 0), (418, .aload_n 0, 0, 0, 0, 0), (419, .iload_n 3, 0, 0, 0, 0), (420, .iconst 1, 3, 1, 0, 0), (421, .iadd, 0, 0, 0, 0), (422, .iaload, 0, 0, 0, 0), (423, .invokevirtual 38, 1, 98, 1, 10), (426, .aload_n 2, 0, 0, 0, 0), (427, .aload_n 0, 0, 0, 0, 0), (428, .iload_n 3, 0, 0, 0, 0), (429, .iconst 1, 3, 1, 0, 0), (430, .iadd, 0, 0, 0, 0), (431, .iaload, 0, 0, 0, 0), (432, .invokevirtual 42, 1, 176, 1, 11), (435, .if_icmp .eq 1104, 0, 1539, 0, 0), (438, .iconst 0, 3, 0, 0, 0), (439, .ireturn, 0, 1, 0, 0), (440, .aload_n 1, 0, 0, 0, 0), (441, .aload_n 0, 0, 0, 0, 0), (442, .iload_n 3, 0, 0, 0, 0), (443, .iconst 1, 3, 1, 0, 0), (444, .iadd, 0, 0, 0, 0), (445, .iaload, 0, 0, 0, 0), (446, .invokevirtual 43, 1, 99, 1, 10), (449, .aload_n 2, 0, 0, 0, 0), (450, .aload_n 0, 0, 0, 0, 0), (451, .iload_n 3, 0, 0, 0, 0), (452, .iconst 1, 3, 1, 0, 0), (453, .iadd, 0, 0, 0, 0), (454, .iaload, 0, 0, 0, 0), (455, .invokevirtual 46, 1, 177, 1, 11), (458, .if_icmp .eq 1081, 0, 1539, 0, 0), (461, .iconst 0, 3, 0, 0, 0), (462, .ireturn, 0, 1, 0, 0), (463, .aload_n 1, 0, 0, 0, 0), (464, .aload_n 0, 0, 0, 0, 0), (465, .iload_n 3, 0, 0, 0, 0), (466, .iconst 1, 3, 1, 0, 0), (467, .iadd, 0, 0, 0, 0), (468, .iaload, 0, 0, 0, 0), (469, .aload_n 0, 0, 0, 0, 0), (470, .iload_n 3, 0, 0, 0, 0), (471, .iconst 2, 3, 2, 0, 0), (472, .iadd, 0, 0, 0, 0), (473, .iaload, 0, 0, 0, 0), (474, .aload_n 0, 0, 0, 0, 0), (475, .iload_n 3, 0, 0, 0, 0), (476, .iconst 3, 3, 3, 0, 0), (477, .iadd, 0, 0, 0, 0), (478, .iaload, 0, 0, 0, 0), (479, .invokevirtual 47, 1, 100, 3, 10), (482, .aload_n 2, 0, 0, 0, 0), (483, .aload_n 0, 0, 0, 0, 0), (484, .iload_n 3, 0, 0, 0, 0), (485, .iconst 1, 3, 1, 0, 0), (486, .iadd, 0, 0, 0, 0), (487, .iaload, 0, 0, 0, 0), (488, .aload_n 0, 0, 0, 0, 0), (489, .iload_n 3, 0, 0, 0, 0), (490, .iconst 2, 3, 2, 0, 0), (491, .iadd, 0, 0, 0, 0), (492, .iaload, 0, 0, 0, 0), (493, .aload_n 0, 0, 0, 0, 0), (494, .iload_n 3, 0, 0, 0, 0), (495, .iconst 3, 3, 3, 0, 0), (496, .iadd, 0, 0, 0, 0), (497, .iaload, 0, 0, 0, 0), (498, .invokevirtual 50, 1, 190, 3, 11), (501, .if_icmp .eq 1038, 0, 1539, 0, 0), (504, .iconst 0, 3, 0, 0, 0), (505, .ireturn, 0, 1, 0, 0), (506, .aload_n 1, 0, 0, 0, 0), (507, .aload_n 0, 0, 0, 0, 0), (508, .iload_n 3, 0, 0, 0, 0), (509, .iconst 1, 3, 1, 0, 0), (510, .iadd, 0, 0, 0, 0), (511, .iaload, 0, 0, 0, 0), (512, .aload_n 0, 0, 0, 0, 0), (513, .iload_n 3, 0, 0, 0, 0), (514, .iconst 2, 3, 2, 0, 0), (515, .iadd, 0, 0, 0, 0), (516, .iaload, 0, 0, 0, 0), (517, .aload_n 0, 0, 0, 0, 0), (518, .iload_n 3, 0, 0, 0, 0), (519, .iconst 3, 3, 3, 0, 0), (520, .iadd, 0, 0, 0, 0), (521, .iaload, 0, 0, 0, 0), (522, .aload_n 0, 0, 0, 0, 0), (523, .iload_n 3, 0, 0, 0, 0), (524, .iconst 4, 3, 4, 0, 0), (525, .iadd, 0, 0, 0, 0), (526, .iaload, 0, 0, 0, 0), (527, .aload_n 0, 0, 0, 0, 0), (528, .iload_n 3, 0, 0, 0, 0), (529, .iconst 5, 3, 5, 0, 0), (530, .iadd, 0, 0, 0, 0), (531, .iaload, 0, 0, 0, 0), (532, .invokevirtual 51, 1, 101, 5, 10), (535, .aload_n 2, 0, 0, 0, 0), (536, .aload_n 0, 0, 0, 0, 0), (537, .iload_n 3, 0, 0, 0, 0), (538, .iconst 1, 3, 1, 0, 0), (539, .iadd, 0, 0, 0, 0), (540, .iaload, 0, 0, 0, 0), (541, .aload_n 0, 0, 0, 0, 0), (542, .iload_n 3, 0, 0, 0, 0), (543, .iconst 2, 3, 2, 0, 0), (544, .iadd, 0, 0, 0, 0), (545, .iaload, 0, 0, 0, 0), (546, .aload_n 0, 0, 0, 0, 0), (547, .iload_n 3, 0, 0, 0, 0), (548, .iconst 3, 3, 3, 0, 0), (549, .iadd, 0, 0, 0, 0), (550, .iaload, 0, 0, 0, 0), (551, .aload_n 0, 0, 0, 0, 0), (552, .iload_n 3, 0, 0, 0, 0), (553, .iconst 4, 3, 4, 0, 0), (554, .iadd, 0, 0, 0, 0), (555, .iaload, 0, 0, 0, 0), (556, .aload_n 0, 0, 0, 0, 0), (557, .iload_n 3, 0, 0, 0, 0), (558, .iconst 5, 3, 5, 0, 0), (559, .iadd, 0, 0, 0, 0), (560, .iaload, 0, 0, 0, 0), (561, .invokevirtual 54, 1, 191, 5, 11), (564, .if_icmp .eq 975, 0, 1539, 0, 0), (567, .iconst 0, 3, 0, 0, 0), (568, .ireturn, 0, 1, 0, 0), (569, .aload_n 1, 0, 0, 0, 0), (570, .invokevirtual 55, 1, 102, 0, 10), (573, .aload_n 2, 0, 0, 0, 0), (574, .invokevirtual 59, 1, 208, 0, 11), (577, .if_icmp .eq 962, 0, 1539, 0, 0), (580, .iconst 0, 3, 0, 0, 0), (581, .ireturn, 0, 1, 0, 0), (582, .aload_n 1, 0, 0, 0, 0), (583, .aload_n 0, 0, 0, 0, 0), (584, .iload_n 3, 0, 0, 0, 0), (585, .iconst 1, 3, 1, 0, 0), (586, .iadd, 0, 0, 0, 0), (587, .iaload, 0, 0, 0, 0), (588, .aload_n 0, 0, 0, 0, 0), (589, .iload_n 3, 0, 0, 0, 0), (590, .iconst 2, 3, 2, 0, 0), (591, .iadd, 0, 0, 0, 0), (592, .iaload, 0, 0, 0, 0), (593, .aload_n 0, 0, 0, 0, 0), (594, .iload_n 3, 0, 0, 0, 0), (595, .iconst 3, 3, 3, 0, 0), (596, .iadd, 0, 0, 0, 0), (597, .iaload, 0, 0, 0, 0), (598, .invokevirtual 60, 1, 103, 3, 10), (601, .aload_n 2, 0, 0, 0, 0), (602, .aload_n 0, 0, 0, 0, 0), (603, .iload_n 3, 0, 0, 0, 0), (604, .iconst 1, 3, 1, 0, 0), (605, .iadd, 0, 0, 0, 0), (606, .iaload, 0, 0, 0, 0), (607, .aload_n 0, 0, 0, 0, 0), (608, .iload_n 3, 0, 0, 0, 0), (609, .iconst 2, 3, 2, 0, 0), (610, .iadd, 0, 0, 0, 0), (611, .iaload, 0, 0, 0, 0), (612, .aload_n 0, 0, 0, 0, 0), (613, .iload_n 3, 0, 0, 0, 0), (614, .iconst 3, 3, 3, 0, 0), (615, .iadd, 0, 0, 0, 0), (616, .iaload, 0, 0, 0, 0), (617, .invokevirtual 64, 1, 192, 3, 11), (620, .if_icmp .eq 919, 0, 1539, 0, 0), (623, .iconst 0, 3, 0, 0, 0), (624, .ireturn, 0, 1, 0, 0), (625, .aload_n 1, 0, 0, 0, 0), (626, .aload_n 0, 0, 0, 0, 0), (627, .iload_n 3, 0, 0, 0, 0), (628, .iconst 1, 3, 1, 0, 0), (629, .iadd, 0, 0, 0, 0), (630, .iaload, 0, 0, 0, 0), (631, .aload_n 0, 0, 0, 0, 0), (632, .iload_n 3, 0, 0, 0, 0), (633, .iconst 2, 3, 2, 0, 0), (634, .iadd, 0, 0, 0, 0), (635, .iaload, 0, 0, 0, 0), (636, .invokevirtual 65, 1, 104, 2, 10), (639, .aload_n 2, 0, 0, 0, 0), (640, .aload_n 0, 0, 0, 0, 0), (641, .iload_n 3, 0, 0, 0, 0), (642, .iconst 1, 3, 1, 0, 0), (643, .iadd, 0, 0, 0, 0), (644, .iaload, 0, 0, 0, 0), (645, .aload_n 0, 0, 0, 0, 0), (646, .iload_n 3, 0, 0, 0, 0), (647, .iconst 2, 3, 2, 0, 0), (648, .iadd, 0, 0, 0, 0), (649, .iaload, 0, 0, 0, 0), (650, .invokevirtual 69, 1, 193, 2, 11), (653, .if_icmp .eq 886, 0, 1539, 0, 0), (656, .iconst 0, 3, 0, 0, 0), (657, .ireturn, 0, 1, 0, 0), (658, .aload_n 1, 0, 0, 0, 0), (659, .aload_n 0, 0, 0, 0, 0), (660, .iload_n 3, 0, 0, 0, 0), (661, .iconst 1, 3, 1, 0, 0), (662, .iadd, 0, 0, 0, 0), (663, .iaload, 0, 0, 0, 0), (664, .aload_n 0, 0, 0, 0, 0), (665, .iload_n 3, 0, 0, 0, 0), (666, .iconst 2, 3, 2, 0, 0), (667, .iadd, 0, 0, 0, 0), (668, .iaload, 0, 0, 0, 0), (669, .invokevirtual 70, 1, 105, 2, 10), (672, .aload_n 2, 0, 0, 0, 0), (673, .aload_n 0, 0, 0, 0, 0), (674, .iload_n 3, 0, 0, 0, 0), (675, .iconst 1, 3, 1, 0, 0), (676, .iadd, 0, 0, 0, 0), (677, .iaload, 0, 0, 0, 0), (678, .aload_n 0, 0, 0, 0, 0), (679, .iload_n 3, 0, 0, 0, 0), (680, .iconst 2, 3, 2, 0, 0), (681, .iadd, 0, 0, 0, 0), (682, .iaload, 0, 0, 0, 0), (683, .invokevirtual 73, 1, 198, 2, 11), (686, .if_icmp .eq 853, 0, 1539, 0, 0), (689, .iconst 0, 3, 0, 0, 0), (690, .ireturn, 0, 1, 0, 0), (691, .aload_n 1, 0, 0, 0, 0), (692, .aload_n 0, 0, 0, 0, 0), (693, .iload_n 3, 0, 0, 0, 0), (694, .iconst 1, 3, 1, 0, 0), (695, .iadd, 0, 0, 0, 0), (696, .iaload, 0, 0, 0, 0), (697, .aload_n 0, 0, 0, 0, 0), (698, .iload_n 3, 0, 0, 0, 0), (699, .iconst 2, 3, 2, 0, 0), (700, .iadd, 0, 0, 0, 0), (701, .iaload, 0, 0, 0, 0), (702, .aload_n 0, 0, 0, 0, 0), (703, .iload_n 3, 0, 0, 0, 0), (704, .iconst 3, 3, 3, 0, 0), (705, .iadd, 0, 0, 0, 0), (706, .iaload, 0, 0, 0, 0), (707, .invokevirtual 74, 1, 106, 3, 10), (710, .aload_n 2, 0, 0, 0, 0), (711, .aload_n 0, 0, 0, 0, 0), (712, .iload_n 3, 0, 0, 0, 0), (713, .iconst 1, 3, 1, 0, 0), (714, .iadd, 0, 0, 0, 0), (715, .iaload, 0, 0, 0, 0), (716, .aload_n 0, 0, 0, 0, 0), (717, .iload_n 3, 0, 0, 0, 0), (718, .iconst 2, 3, 2, 0, 0), (719, .iadd, 0, 0, 0, 0), (720, .iaload, 0, 0, 0, 0), (721, .aload_n 0, 0, 0, 0, 0), (722, .iload_n 3, 0, 0, 0, 0), (723, .iconst 3, 3, 3, 0, 0), (724, .iadd, 0, 0, 0, 0), (725, .iaload, 0, 0, 0, 0), (726, .invokevirtual 77, 1, 199, 3, 11), (729, .if_icmp .eq 810, 0, 1539, 0, 0), (732, .iconst 0, 3, 0, 0, 0), (733, .ireturn, 0, 1, 0, 0), (734, .aload_n 1, 0, 0, 0, 0), (735, .aload_n 0, 0, 0, 0, 0), (736, .iload_n 3, 0, 0, 0, 0), (737, .iconst 1, 3, 1, 0, 0), (738, .iadd, 0, 0, 0, 0), (739, .iaload, 0, 0, 0, 0), (740, .invokevirtual 78, 1, 107, 1, 10), (743, .aload_n 2, 0, 0, 0, 0), (744, .aload_n 0, 0, 0, 0, 0), (745, .iload_n 3, 0, 0, 0, 0), (746, .iconst 1, 3, 1, 0, 0), (747, .iadd, 0, 0, 0, 0), (748, .iaload, 0, 0, 0, 0), (749, .invokevirtual 81, 1, 202, 1, 11), (752, .if_icmp .eq 787, 0, 1539, 0, 0), (755, .iconst 0, 3, 0, 0, 0), (756, .ireturn, 0, 1, 0, 0), (757, .aload_n 1, 0, 0, 0, 0), (758, .aload_n 0, 0, 0, 0, 0), (759, .iload_n 3, 0, 0, 0, 0), (760, .iconst 1, 3, 1, 0, 0), (761, .iadd, 0, 0, 0, 0), (762, .iaload, 0, 0, 0, 0), (763, .aload_n 0, 0, 0, 0, 0), (764, .iload_n 3, 0, 0, 0, 0), (765, .iconst 2, 3, 2, 0, 0), (766, .iadd, 0, 0, 0, 0), (767, .iaload, 0, 0, 0, 0), (768, .aload_n 0, 0, 0, 0, 0), (769, .iload_n 3, 0, 0, 0, 0), (770, .iconst 3, 3, 3, 0, 0), (771, .iadd, 0, 0, 0, 0), (772, .iaload, 0, 0, 0, 0), (773, .invokevirtual 82, 1, 108, 3, 10), (776, .aload_n 2, 0, 0, 0, 0), (777, .aload_n 0, 0, 0, 0, 0), (778, .iload_n 3, 0, 0, 0, 0), (779, .iconst 1, 3, 1, 0, 0), (780, .iadd, 0, 0, 0, 0), (781, .iaload, 0, 0, 0, 0), (782, .aload_n 0, 0, 0, 0, 0), (783, .iload_n 3, 0, 0, 0, 0), (784, .iconst 2, 3, 2, 0, 0), (785, .iadd, 0, 0, 0, 0), (786, .iaload, 0, 0, 0, 0), (787, .aload_n 0, 0, 0, 0, 0), (788, .iload_n 3, 0, 0, 0, 0), (789, .iconst 3, 3, 3, 0, 0), (790, .iadd, 0, 0, 0, 0), (791, .iaload, 0, 0, 0, 0), (792, .invokevirtual 85, 1, 211, 3, 11), (795, .if_icmp .eq 744, 0, 1539, 0, 0), (798, .iconst 0, 3, 0, 0, 0), (799, .ireturn, 0, 1, 0, 0), (800, .aload_n 1, 0, 0, 0, 0), (801, .aload_n 0, 0, 0, 0, 0), (802, .iload_n 3, 0, 0, 0, 0), (803, .iconst 1, 3, 1, 0, 0), (804, .iadd, 0, 0, 0, 0), (805, .iaload, 0, 0, 0, 0), (806, .aload_n 0, 0, 0, 0, 0), (807, .iload_n 3, 0, 0, 0, 0), (808, .iconst 2, 3, 2, 0, 0), (809, .iadd, 0, 0, 0, 0), (810, .iaload, 0, 0, 0, 0), (811, .aload_n 0, 0, 0, 0, 0), (812, .iload_n 3, 0, 0, 0, 0), (813, .iconst 3, 3, 3, 0, 0), (814, .iadd, 0, 0, 0, 0), (815, .iaload, 0, 0, 0, 0), (816, .aload_n 0, 0, 0, 0, 0), (817, .iload_n 3, 0, 0, 0, 0), (818, .iconst 4, 3, 4, 0, 0), (819, .iadd, 0, 0, 0, 0), (820, .iaload, 0, 0, 0, 0), (821, .invokevirtual 86, 1, 109, 4, 10), (824, .aload_n 2, 0, 0, 0, 0), (825, .aload_n 0, 0, 0, 0, 0), (826, .iload_n 3, 0, 0, 0, 0), (827, .iconst 1, 3, 1, 0, 0), (828, .iadd, 0, 0, 0, 0), (829, .iaload, 0, 0, 0, 0), (830, .aload_n 0, 0, 0, 0, 0), (831, .iload_n 3, 0, 0, 0, 0), (832, .iconst 2, 3, 2, 0, 0), (833, .iadd, 0, 0, 0, 0), (834, .iaload, 0, 0, 0, 0), (835, .aload_n 0, 0, 0, 0, 0), (836, .iload_n 3, 0, 0, 0, 0), (837, .iconst 3, 3, 3, 0, 0), (838, .iadd, 0, 0, 0, 0), (839, .iaload, 0, 0, 0, 0), (840, .aload_n 0, 0, 0, 0, 0), (841, .iload_n 3, 0, 0, 0, 0), (842, .iconst 4, 3, 4, 0, 0), (843, .iadd, 0, 0, 0, 0), (844, .iaload, 0, 0, 0, 0), (845, .invokevirtual 90, 1, 214, 4, 11), (848, .if_icmp .eq 691, 0, 1539, 0, 0), (851, .iconst 0, 3, 0, 0, 0), (852, .ireturn, 0, 1, 0, 0), (853, .aload_n 1, 0, 0, 0, 0), (854, .aload_n 0, 0, 0, 0, 0), (855, .iload_n 3, 0, 0, 0, 0), (856, .iconst 1, 3, 1, 0, 0), (857, .iadd, 0, 0, 0, 0), (858, .iaload, 0, 0, 0, 0), (859, .aload_n 0, 0, 0, 0, 0), (860, .iload_n 3, 0, 0, 0, 0), (861, .iconst 2, 3, 2, 0, 0), (862, .iadd, 0, 0, 0, 0), (863, .iaload, 0, 0, 0, 0), (864, .aload_n 0, 0, 0, 0, 0), (865, .iload_n 3, 0, 0, 0, 0), (866, .iconst 3, 3, 3, 0, 0), (867, .iadd, 0, 0, 0, 0), (868, .iaload, 0, 0, 0, 0), (869, .aload_n 0, 0, 0, 0, 0), (870, .iload_n 3, 0, 0, 0, 0), (871, .iconst 4, 3, 4, 0, 0), (872, .iadd, 0, 0, 0, 0), (873, .iaload, 0, 0, 0, 0), (874, .invokevirtual 91, 1, 110, 4, 10), (877, .aload_n 2, 0, 0, 0, 0), (878, .aload_n 0, 0, 0, 0, 0), (879, .iload_n 3, 0, 0, 0, 0), (880, .iconst 1, 3, 1, 0, 0), (881, .iadd, 0, 0, 0, 0), (882, .iaload, 0, 0, 0, 0), (883, .aload_n 0, 0, 0, 0, 0), (884, .iload_n 3, 0, 0, 0, 0), (885, .iconst 2, 3, 2, 0, 0), (886, .iadd, 0, 0, 0, 0), (887, .iaload, 0, 0, 0, 0), (888, .aload_n 0, 0, 0, 0, 0), (889, .iload_n 3, 0, 0, 0, 0), (890, .iconst 3, 3, 3, 0, 0), (891, .iadd, 0, 0, 0, 0), (892, .iaload, 0, 0, 0, 0), (893, .aload_n 0, 0, 0, 0, 0), (894, .iload_n 3, 0, 0, 0, 0), (895, .iconst 4, 3, 4, 0, 0), (896, .iadd, 0, 0, 0, 0), (897, .iaload, 0, 0, 0, 0), (898, .invokevirtual 94, 1, 215, 4, 11), (901, .if_icmp .eq 638, 0, 1539, 0, 0), (904, .iconst 0, 3, 0, 0, 0), (905, .ireturn, 0, 1, 0, 0), (906, .aload_n 1, 0, 0, 0, 0), (907, .aload_n 0, 0, 0, 0, 0), (908, .iload_n 3, 0, 0, 0, 0), (909, .iconst 1, 3, 1, 0, 0), (910, .iadd, 0, 0, 0, 0), (911, .iaload, 0, 0, 0, 0), (912, .aload_n 0, 0, 0, 0, 0), (913, .iload_n 3, 0, 0, 0, 0), (914, .iconst 2, 3, 2, 0, 0), (915, .iadd, 0, 0, 0, 0), (916, .iaload, 0, 0, 0, 0), (917, .aload_n 0, 0, 0, 0, 0), (918, .iload_n 3, 0, 0, 0, 0), (919, .iconst 3, 3, 3, 0, 0), (920, .iadd, 0, 0, 0, 0), (921, .iaload, 0, 0, 0, 0), (922, .invokevirtual 95, 1, 111, 3, 10), (925, .aload_n 2, 0, 0, 0, 0), (926, .aload_n 0, 0, 0, 0, 0), (927, .iload_n 3, 0, 0, 0, 0), (928, .iconst 1, 3, 1, 0, 0), (929, .iadd, 0, 0, 0, 0), (930, .iaload, 0, 0, 0, 0), (931, .aload_n 0, 0, 0, 0, 0), (932, .iload_n 3, 0, 0, 0, 0), (933, .iconst 2, 3, 2, 0, 0), (934, .iadd, 0, 0, 0, 0), (935, .iaload, 0, 0, 0, 0), (936, .aload_n 0, 0, 0, 0, 0), (937, .iload_n 3, 0, 0, 0, 0), (938, .iconst 3, 3, 3, 0, 0), (939, .iadd, 0, 0, 0, 0), (940, .iaload, 0, 0, 0, 0), (941, .invokevirtual 98, 1, 216, 3, 11), (944, .if_icmp .eq 595, 0, 1539, 0, 0), (947, .iconst 0, 3, 0, 0, 0), (948, .ireturn, 0, 1, 0, 0), (949, .aload_n 1, 0, 0, 0, 0), (950, .aload_n 0, 0, 0, 0, 0), (951, .iload_n 3, 0, 0, 0, 0), (952, .iconst 1, 3, 1, 0, 0), (953, .iadd, 0, 0, 0, 0), (954, .iaload, 0, 0, 0, 0), (955, .aload_n 0, 0, 0, 0, 0), (956, .iload_n 3, 0, 0, 0, 0), (957, .iconst 2, 3, 2, 0, 0), (958, .iadd, 0, 0, 0, 0), (959, .iaload, 0, 0, 0, 0), (960, .invokevirtual 99, 1, 112, 2, 10), (963, .aload_n 2, 0, 0, 0, 0), (964, .aload_n 0, 0, 0, 0, 0), (965, .iload_n 3, 0, 0, 0, 0), (966, .iconst 1, 3, 1, 0, 0), (967, .iadd, 0, 0, 0, 0), (968, .iaload, 0, 0, 0, 0), (969, .aload_n 0, 0, 0, 0, 0), (970, .iload_n 3, 0, 0, 0, 0), (971, .iconst 2, 3, 2, 0, 0), (972, .iadd, 0, 0, 0, 0), (973, .iaload, 0, 0, 0, 0), (974, .invokevirtual 102, 1, 195, 2, 11), (977, .if_icmp .eq 562, 0, 1539, 0, 0), (980, .iconst 0, 3, 0, 0, 0), (981, .ireturn, 0, 1, 0, 0), (982, .aload_n 1, 0, 0, 0, 0), (983, .aload_n 0, 0, 0, 0, 0), (984, .iload_n 3, 0, 0, 0, 0), (985, .iconst 1, 3, 1, 0, 0), (986, .iadd, 0, 0, 0, 0), (987, .iaload, 0, 0, 0, 0), (988, .aload_n 0, 0, 0, 0, 0), (989, .iload_n 3, 0, 0, 0, 0), (990, .iconst 2, 3, 2, 0, 0), (991, .iadd, 0, 0, 0, 0), (992, .iaload, 0, 0, 0, 0), (993, .invokevirtual 103, 1, 113, 2, 10), (996, .aload_n 2, 0, 0, 0, 0), (997, .aload_n 0, 0, 0, 0, 0), (998, .iload_n 3, 0, 0, 0, 0), (999, .iconst 1, 3, 1, 0, 0), (1000, .iadd, 0, 0, 0, 0), (1001, .iaload, 0, 0, 0, 0), (1002, .aload_n 0, 0, 0, 0, 0), (1003, .iload_n 3, 0, 0, 0, 0), (1004, .iconst 2, 3, 2, 0, 0), (1005, .iadd, 0, 0, 0, 0), (1006, .iaload, 0, 0, 0, 0), (1007, .invokevirtual 106, 1, 189, 2, 11), (1010, .if_icmp .eq 529, 0, 1539, 0, 0), (1013, .iconst 0, 3, 0, 0, 0), (1014, .ireturn, 0, 1, 0, 0), (1015, .aload_n 1, 0, 0, 0, 0), (1016, .aload_n 0, 0, 0, 0, 0), (1017, .iload_n 3, 0, 0, 0, 0), (1018, .iconst 1, 3, 1, 0, 0), (1019, .iadd, 0, 0, 0, 0), (1020, .iaload, 0, 0, 0, 0), (1021, .aload_n 0, 0, 0, 0, 0), (1022, .iload_n 3, 0, 0, 0, 0), (1023, .iconst 2, 3, 2, 0, 0), (1024, .iadd, 0, 0, 0, 0), (1025, .iaload, 0, 0, 0, 0), (1026, .aload_n 0, 0, 0, 0, 0), (1027, .iload_n 3, 0, 0, 0, 0), (1028, .iconst 3, 3, 3, 0, 0), (1029, .iadd, 0, 0, 0, 0), (1030, .iaload, 0, 0, 0, 0), (1031, .invokevirtual 107, 1, 114, 3, 10), (1034, .aload_n 2, 0, 0, 0, 0), (1035, .aload_n 0, 0, 0, 0, 0), (1036, .iload_n 3, 0, 0, 0, 0), (1037, .iconst 1, 3, 1, 0, 0), (1038, .iadd, 0, 0, 0, 0), (1039, .iaload, 0, 0, 0, 0), (1040, .aload_n 0, 0, 0, 0, 0), (1041, .iload_n 3, 0, 0, 0, 0), (1042, .iconst 2, 3, 2, 0, 0), (1043, .iadd, 0, 0, 0, 0), (1044, .iaload, 0, 0, 0, 0), (1045, .aload_n 0, 0, 0, 0, 0), (1046, .iload_n 3, 0, 0, 0, 0), (1047, .iconst 3, 3, 3, 0, 0), (1048, .iadd, 0, 0, 0, 0), (1049, .iaload, 0, 0, 0, 0), (1050, .invokevirtual 110, 1, 217, 3, 11), (1053, .if_icmp .eq 486, 0, 1539, 0, 0), (1056, .iconst 0, 3, 0, 0, 0), (1057, .ireturn, 0, 1, 0, 0), (1058, .aload_n 1, 0, 0, 0, 0), (1059, .aload_n 0, 0, 0, 0, 0), (1060, .iload_n 3, 0, 0, 0, 0), (1061, .iconst 1, 3, 1, 0, 0), (1062, .iadd, 0, 0, 0, 0), (1063, .iaload, 0, 0, 0, 0), (1064, .aload_n 0, 0, 0, 0, 0), (1065, .iload_n 3, 0, 0, 0, 0), (1066, .iconst 2, 3, 2, 0, 0), (1067, .iadd, 0, 0, 0, 0), (1068, .iaload, 0, 0, 0, 0), (1069, .aload_n 0, 0, 0, 0, 0), (1070, .iload_n 3, 0, 0, 0, 0), (1071, .iconst 3, 3, 3, 0, 0), (1072, .iadd, 0, 0, 0, 0), (1073, .iaload, 0, 0, 0, 0), (1074, .invokevirtual 111, 1, 115, 3, 10), (1077, .aload_n 2, 0, 0, 0, 0), (1078, .aload_n 0, 0, 0, 0, 0), (1079, .iload_n 3, 0, 0, 0, 0), (1080, .iconst 1, 3, 1, 0, 0), (1081, .iadd, 0, 0, 0, 0), (1082, .iaload, 0, 0, 0, 0), (1083, .aload_n 0, 0, 0, 0, 0), (1084, .iload_n 3, 0, 0, 0, 0), (1085, .iconst 2, 3, 2, 0, 0), (1086, .iadd, 0, 0, 0, 0), (1087, .iaload, 0, 0, 0, 0), (1088, .aload_n 0, 0, 0, 0, 0), (1089, .iload_n 3, 0, 0, 0, 0), (1090, .iconst 3, 3, 3, 0, 0), (1091, .iadd, 0, 0, 0, 0), (1092, .iaload, 0, 0, 0, 0), (1093, .invokevirtual 114, 1, 221, 3, 11), (1096, .if_icmp .eq 443, 0, 1539, 0, 0), (1099, .iconst 0, 3, 0, 0, 0), (1100, .ireturn, 0, 1, 0, 0), (1101, .aload_n 1, 0, 0, 0, 0), (1102, .aload_n 0, 0, 0, 0, 0), (1103, .iload_n 3, 0, 0, 0, 0), (1104, .iconst 1, 3, 1, 0, 0), (1105, .iadd, 0, 0, 0, 0), (1106, .iaload, 0, 0, 0, 0), (1107, .invokevirtual 115, 1, 116, 1, 10), (1110, .aload_n 2, 0, 0, 0, 0), (1111, .aload_n 0, 0, 0, 0, 0), (1112, .iload_n 3, 0, 0, 0, 0), (1113, .iconst 1, 3, 1, 0, 0), (1114, .iadd, 0, 0, 0, 0), (1115, .iaload, 0, 0, 0, 0), (1116, .invokevirtual 118, 1, 222, 1, 11), (1119, .if_icmp .eq 420, 0, 1539, 0, 0), (1122, .iconst 0, 3, 0, 0, 0), (1123, .ireturn, 0, 1, 0, 0), (1124, .aload_n 1, 0, 0, 0, 0), (1125, .aload_n 0, 0, 0, 0, 0), (1126, .iload_n 3, 0, 0, 0, 0), (1127, .iconst 1, 3, 1, 0, 0), (1128, .iadd, 0, 0, 0, 0), (1129, .iaload, 0, 0, 0, 0), (1130, .aload_n 0, 0, 0, 0, 0), (1131, .iload_n 3, 0, 0, 0, 0), (1132, .iconst 2, 3, 2, 0, 0), (1133, .iadd, 0, 0, 0, 0), (1134, .iaload, 0, 0, 0, 0), (1135, .invokevirtual 119, 1, 117, 2, 10), (1138, .aload_n 2, 0, 0, 0, 0), (1139, .aload_n 0, 0, 0, 0, 0), (1140, .iload_n 3, 0, 0, 0, 0), (1141, .iconst 1, 3, 1, 0, 0), (1142, .iadd, 0, 0, 0, 0), (1143, .iaload, 0, 0, 0, 0), (1144, .aload_n 0, 0, 0, 0, 0), (1145, .iload_n 3, 0, 0, 0, 0), (1146, .iconst 2, 3, 2, 0, 0), (1147, .iadd, 0, 0, 0, 0), (1148, .iaload, 0, 0, 0, 0), (1149, .invokevirtual 122, 1, 224, 2, 11), (1152, .if_icmp .eq 387, 0, 1539, 0, 0), (1155, .iconst 0, 3, 0, 0, 0), (1156, .ireturn, 0, 1, 0, 0), (1157, .aload_n 1, 0, 0, 0, 0), (1158, .aload_n 0, 0, 0, 0, 0), (1159, .iload_n 3, 0, 0, 0, 0), (1160, .iconst 1, 3, 1, 0, 0), (1161, .iadd, 0, 0, 0, 0), (1162, .iaload, 0, 0, 0, 0), (1163, .aload_n 0, 0, 0, 0, 0), (1164, .iload_n 3, 0, 0, 0, 0), (1165, .iconst 2, 3, 2, 0, 0), (1166, .iadd, 0, 0, 0, 0), (1167, .iaload, 0, 0, 0, 0), (1168, .aload_n 0, 0, 0, 0, 0), (1169, .iload_n 3, 0, 0, 0, 0), (1170, .iconst 3, 3, 3, 0, 0), (1171, .iadd, 0, 0, 0, 0), (1172, .iaload, 0, 0, 0, 0), (1173, .invokevirtual 123, 1, 118, 3, 10), (1176, .aload_n 2, 0, 0, 0, 0), (1177, .aload_n 0, 0, 0, 0, 0), (1178, .iload_n 3, 0, 0, 0, 0), (1179, .iconst 1, 3, 1, 0, 0), (1180, .iadd, 0, 0, 0, 0), (1181, .iaload, 0, 0, 0, 0), (1182, .aload_n 0, 0, 0, 0, 0), (1183, .iload_n 3, 0, 0, 0, 0), (1184, .iconst 2, 3, 2, 0, 0), (1185, .iadd, 0, 0, 0, 0), (1186, .iaload, 0, 0, 0, 0), (1187, .aload_n 0, 0, 0, 0, 0), (1188, .iload_n 3, 0, 0, 0, 0), (1189, .iconst 3, 3, 3, 0, 0), (1190, .iadd, 0, 0, 0, 0), (1191, .iaload, 0, 0, 0, 0), (1192, .invokevirtual 126, 1, 225, 3, 11), (1195, .if_icmp .eq 344, 0, 1539, 0, 0), (1198, .iconst 0, 3, 0, 0, 0), (1199, .ireturn, 0, 1, 0, 0), (1200, .aload_n 1, 0, 0, 0, 0), (1201, .aload_n 0, 0, 0, 0, 0), (1202, .iload_n 3, 0, 0, 0, 0), (1203, .iconst 1, 3, 1, 0, 0), (1204, .iadd, 0, 0, 0, 0), (1205, .iaload, 0, 0, 0, 0), (1206, .aload_n 0, 0, 0, 0, 0), (1207, .iload_n 3, 0, 0, 0, 0), (1208, .iconst 2, 3, 2, 0, 0), (1209, .iadd, 0, 0, 0, 0), (1210, .iaload, 0, 0, 0, 0), (1211, .invokevirtual 127, 1, 119, 2, 10), (1214, .aload_n 2, 0, 0, 0, 0), (1215, .aload_n 0, 0, 0, 0, 0), (1216, .iload_n 3, 0, 0, 0, 0), (1217, .iconst 1, 3, 1, 0, 0), (1218, .iadd, 0, 0, 0, 0), (1219, .iaload, 0, 0, 0, 0), (1220, .aload_n 0, 0, 0, 0, 0), (1221, .iload_n 3, 0, 0, 0, 0), (1222, .iconst 2, 3, 2, 0, 0), (1223, .iadd, 0, 0, 0, 0), (1224, .iaload, 0, 0, 0, 0), (1225, .invokevirtual 130, 1, 226, 2, 11), (1228, .if_icmp .eq 311, 0, 1539, 0, 0), (1231, .iconst 0, 3, 0, 0, 0), (1232, .ireturn, 0, 1, 0, 0), (1233, .aload_n 1, 0, 0, 0, 0), (1234, .aload_n 0, 0, 0, 0, 0), (1235, .iload_n 3, 0, 0, 0, 0), (1236, .iconst 1, 3, 1, 0, 0), (1237, .iadd, 0, 0, 0, 0), (1238, .iaload, 0, 0, 0, 0), (1239, .aload_n 0, 0, 0, 0, 0), (1240, .iload_n 3, 0, 0, 0, 0), (1241, .iconst 2, 3, 2, 0, 0), (1242, .iadd, 0, 0, 0, 0), (1243, .iaload, 0, 0, 0, 0), (1244, .invokevirtual 131, 1, 120, 2, 10), (1247, .aload_n 2, 0, 0, 0, 0), (1248, .aload_n 0, 0, 0, 0, 0), (1249, .iload_n 3, 0, 0, 0, 0), (1250, .iconst 1, 3, 1, 0, 0), (1251, .iadd, 0, 0, 0, 0), (1252, .iaload, 0, 0, 0, 0), (1253, .aload_n 0, 0, 0, 0, 0), (1254, .iload_n 3, 0, 0, 0, 0), (1255, .iconst 2, 3, 2, 0, 0), (1256, .iadd, 0, 0, 0, 0), (1257, .iaload, 0, 0, 0, 0), (1258, .invokevirtual 134, 1, 230, 2, 11), (1261, .if_icmp .eq 278, 0, 1539, 0, 0), (1264, .iconst 0, 3, 0, 0, 0), (1265, .ireturn, 0, 1, 0, 0), (1266, .aload_n 1, 0, 0, 0, 0), (1267, .invokevirtual 135, 1, 121, 0, 10), (1270, .aload_n 2, 0, 0, 0, 0), (1271, .invokevirtual 138, 1, 231, 0, 11), (1274, .if_icmp .eq 265, 0, 1539, 0, 0), (1277, .iconst 0, 3, 0, 0, 0), (1278, .ireturn, 0, 1, 0, 0), (1279, .aload_n 1, 0, 0, 0, 0), (1280, .aload_n 0, 0, 0, 0, 0), (1281, .iload_n 3, 0, 0, 0, 0), (1282, .iconst 1, 3, 1, 0, 0), (1283, .iadd, 0, 0, 0, 0), (1284, .iaload, 0, 0, 0, 0), (1285, .aload_n 0, 0, 0, 0, 0), (1286, .iload_n 3, 0, 0, 0, 0), (1287, .iconst 2, 3, 2, 0, 0), (1288, .iadd, 0, 0, 0, 0), (1289, .iaload, 0, 0, 0, 0), (1290, .invokevirtual 139, 1, 122, 2, 10), (1293, .aload_n 2, 0, 0, 0, 0), (1294, .aload_n 0, 0, 0, 0, 0), (1295, .iload_n 3, 0, 0, 0, 0), (1296, .iconst 1, 3, 1, 0, 0), (1297, .iadd, 0, 0, 0, 0), (1298, .iaload, 0, 0, 0, 0), (1299, .aload_n 0, 0, 0, 0, 0), (1300, .iload_n 3, 0, 0, 0, 0), (1301, .iconst 2, 3, 2, 0, 0), (1302, .iadd, 0, 0, 0, 0), (1303, .iaload, 0, 0, 0, 0), (1304, .invokevirtual 142, 1, 232, 2, 11), (1307, .if_icmp .eq 232, 0, 1539, 0, 0), (1310, .iconst 0, 3, 0, 0, 0), (1311, .ireturn, 0, 1, 0, 0), (1312, .aload_n 1, 0, 0, 0, 0), (1313, .aload_n 0, 0, 0, 0, 0), (1314, .iload_n 3, 0, 0, 0, 0), (1315, .iconst 1, 3, 1, 0, 0), (1316, .iadd, 0, 0, 0, 0), (1317, .iaload, 0, 0, 0, 0), (1318, .aload_n 0, 0, 0, 0, 0), (1319, .iload_n 3, 0, 0, 0, 0), (1320, .iconst 2, 3, 2, 0, 0), (1321, .iadd, 0, 0, 0, 0), (1322, .iaload, 0, 0, 0, 0), (1323, .invokevirtual 143, 1, 123, 2, 10), (1326, .aload_n 2, 0, 0, 0, 0), (1327, .aload_n 0, 0, 0, 0, 0), (1328, .iload_n 3, 0, 0, 0, 0), (1329, .iconst 1, 3, 1, 0, 0), (1330, .iadd, 0, 0, 0, 0), (1331, .iaload, 0, 0, 0, 0), (1332, .aload_n 0, 0, 0, 0, 0), (1333, .iload_n 3, 0, 0, 0, 0), (1334, .iconst 2, 3, 2, 0, 0), (1335, .iadd, 0, 0, 0, 0), (1336, .iaload, 0, 0, 0, 0), (1337, .invokevirtual 146, 1, 234, 2, 11), (1340, .if_icmp .eq 199, 0, 1539, 0, 0), (1343, .iconst 0, 3, 0, 0, 0), (1344, .ireturn, 0, 1, 0, 0), (1345, .aload_n 1, 0, 0, 0, 0), (1346, .aload_n 0, 0, 0, 0, 0), (1347, .iload_n 3, 0, 0, 0, 0), (1348, .iconst 1, 3, 1, 0, 0), (1349, .iadd, 0, 0, 0, 0), (1350, .iaload, 0, 0, 0, 0), (1351, .aload_n 0, 0, 0, 0, 0), (1352, .iload_n 3, 0, 0, 0, 0), (1353, .iconst 2, 3, 2, 0, 0), (1354, .iadd, 0, 0, 0, 0), (1355, .iaload, 0, 0, 0, 0), (1356, .invokevirtual 147, 1, 124, 2, 10), (1359, .aload_n 2, 0, 0, 0, 0), (1360, .aload_n 0, 0, 0, 0, 0), (1361, .iload_n 3, 0, 0, 0, 0), (1362, .iconst 1, 3, 1, 0, 0), (1363, .iadd, 0, 0, 0, 0), (1364, .iaload, 0, 0, 0, 0), (1365, .aload_n 0, 0, 0, 0, 0), (1366, .iload_n 3, 0, 0, 0, 0), (1367, .iconst 2, 3, 2, 0, 0), (1368, .iadd, 0, 0, 0, 0), (1369, .iaload, 0, 0, 0, 0), (1370, .invokevirtual 150, 1, 235, 2, 11), (1373, .if_icmp .eq 166, 0, 1539, 0, 0), (1376, .iconst 0, 3, 0, 0, 0), (1377, .ireturn, 0, 1, 0, 0), (1378, .aload_n 1, 0, 0, 0, 0), (1379, .aload_n 0, 0, 0, 0, 0), (1380, .iload_n 3, 0, 0, 0, 0), (1381, .iconst 1, 3, 1, 0, 0), (1382, .iadd, 0, 0, 0, 0), (1383, .iaload, 0, 0, 0, 0), (1384, .invokevirtual 151, 1, 125, 1, 10), (1387, .aload_n 2, 0, 0, 0, 0), (1388, .aload_n 0, 0, 0, 0, 0), (1389, .iload_n 3, 0, 0, 0, 0), (1390, .iconst 1, 3, 1, 0, 0), (1391, .iadd, 0, 0, 0, 0), (1392, .iaload, 0, 0, 0, 0), (1393, .invokevirtual 154, 1, 236, 1, 11), (1396, .if_icmp .eq 143, 0, 1539, 0, 0), (1399, .iconst 0, 3, 0, 0, 0), (1400, .ireturn, 0, 1, 0, 0), (1401, .aload_n 1, 0, 0, 0, 0), (1402, .aload_n 0, 0, 0, 0, 0), (1403, .iload_n 3, 0, 0, 0, 0), (1404, .iconst 1, 3, 1, 0, 0), (1405, .iadd, 0, 0, 0, 0), (1406, .iaload, 0, 0, 0, 0), (1407, .aload_n 0, 0, 0, 0, 0), (1408, .iload_n 3, 0, 0, 0, 0), (1409, .iconst 2, 3, 2, 0, 0), (1410, .iadd, 0, 0, 0, 0), (1411, .iaload, 0, 0, 0, 0), (1412, .aload_n 0, 0, 0, 0, 0), (1413, .iload_n 3, 0, 0, 0, 0), (1414, .iconst 3, 3, 3, 0, 0), (1415, .iadd, 0, 0, 0, 0), (1416, .iaload, 0, 0, 0, 0), (1417, .aload_n 0, 0, 0, 0, 0), (1418, .iload_n 3, 0, 0, 0, 0), (1419, .iconst 4, 3, 4, 0, 0), (1420, .iadd, 0, 0, 0, 0), (1421, .iaload, 0, 0, 0, 0), (1422, .invokevirtual 155, 1, 126, 4, 10), (1425, .aload_n 2, 0, 0, 0, 0), (1426, .aload_n 0, 0, 0, 0, 0), (1427, .iload_n 3, 0, 0, 0, 0), (1428, .iconst 1, 3, 1, 0, 0), (1429, .iadd, 0, 0, 0, 0), (1430, .iaload, 0, 0, 0, 0), (1431, .aload_n 0, 0, 0, 0, 0), (1432, .iload_n 3, 0, 0, 0, 0), (1433, .iconst 2, 3, 2, 0, 0), (1434, .iadd, 0, 0, 0, 0), (1435, .iaload, 0, 0, 0, 0), (1436, .aload_n 0, 0, 0, 0, 0), (1437, .iload_n 3, 0, 0, 0, 0), (1438, .iconst 3, 3, 3, 0, 0), (1439, .iadd, 0, 0, 0, 0), (1440, .iaload, 0, 0, 0, 0), (1441, .aload_n 0, 0, 0, 0, 0), (1442, .iload_n 3, 0, 0, 0, 0), (1443, .iconst 4, 3, 4, 0, 0), (1444, .iadd, 0, 0, 0, 0), (1445, .iaload, 0, 0, 0, 0), (1446, .invokevirtual 158, 1, 237, 4, 11), (1449, .if_icmp .eq 90, 0, 1539, 0, 0), (1452, .iconst 0, 3, 0, 0, 0), (1453, .ireturn, 0, 1, 0, 0), (1454, .aload_n 1, 0, 0, 0, 0), (1455, .aload_n 0, 0, 0, 0, 0), (1456, .iload_n 3, 0, 0, 0, 0), (1457, .iconst 1, 3, 1, 0, 0), (1458, .iadd, 0, 0, 0, 0), (1459, .iaload, 0, 0, 0, 0), (1460, .invokevirtual 159, 1, 127, 1, 10), (1463, .aload_n 2, 0, 0, 0, 0), (1464, .aload_n 0, 0, 0, 0, 0), (1465, .iload_n 3, 0, 0, 0, 0), (1466, .iconst 1, 3, 1, 0, 0), (1467, .iadd, 0, 0, 0, 0), (1468, .iaload, 0, 0, 0, 0), (1469, .invokevirtual 162, 1, 238, 1, 11), (1472, .if_icmp .eq 67, 0, 1539, 0, 0), (1475, .iconst 0, 3, 0, 0, 0), (1476, .ireturn, 0, 1, 0, 0), (1477, .aload_n 1, 0, 0, 0, 0), (1478, .aload_n 0, 0, 0, 0, 0), (1479, .iload_n 3, 0, 0, 0, 0), (1480, .iconst 1, 3, 1, 0, 0), (1481, .iadd, 0, 0, 0, 0), (1482, .iaload, 0, 0, 0, 0), (1483, .ifCond .eq 7, 0, 1490, 0, 0), (1486, .iconst 1, 3, 1, 0, 0), (1487, .goto 4, 0, 1491, 0, 0), (1490, .iconst 0, 3, 0, 0, 0), (1491, .invokevirtual 163, 1, 128, 1, 10), (1494, .aload_n 2, 0, 0, 0, 0), (1495, .aload_n 0, 0, 0, 0, 0), (1496, .iload_n 3, 0, 0, 0, 0), (1497, .iconst 1, 3, 1, 0, 0), (1498, .iadd, 0, 0, 0, 0), (1499, .iaload, 0, 0, 0, 0), (1500, .ifCond .eq 7, 0, 1507, 0, 0), (1503, .iconst 1, 3, 1, 0, 0), (1504, .goto 4, 0, 1508, 0, 0), (1507, .iconst 0, 3, 0, 0, 0), (1508, .invokevirtual 167, 1, 239, 1, 11), (1511, .if_icmp .eq 28, 0, 1539, 0, 0), (1514, .iconst 0, 3, 0, 0, 0), (1515, .ireturn, 0, 1, 0, 0), (1516, .aload_n 1, 0, 0, 0, 0), (1517, .aload_n 0, 0, 0, 0, 0), (1518, .iload_n 3, 0, 0, 0, 0), (1519, .iconst 1, 3, 1, 0, 0), (1520, .iadd, 0, 0, 0, 0), (1521, .iaload, 0, 0, 0, 0), (1522, .invokevirtual 168, 1, 129, 1, 10), (1525, .aload_n 2, 0, 0, 0, 0), (1526, .aload_n 0, 0, 0, 0, 0), (1527, .iload_n 3, 0, 0, 0, 0), (1528, .iconst 1, 3, 1, 0, 0), (1529, .iadd, 0, 0, 0, 0), (1530, .iaload, 0, 0, 0, 0), (1531, .invokevirtual 171, 1, 240, 1, 11), (1534, .if_icmp .eq 5, 0, 1539, 0, 0), (1537, .iconst 0, 3, 0, 0, 0), (1538, .ireturn, 0, 1, 0, 0), (1539, .iinc 3 6, 3, 6, 0, 0), (1542, .goto (-1524), 0, 18, 0, 0), (1545, .iconst 1, 3, 1, 0, 0), (1546, .ireturn, 0, 1, 0, 0)]
set_option maxRecDepth 100000 in
def am_c1 : List am_I := [(0, .aload_n 0, 0, 0, 0, 0), (1, .invokespecial 3, 8, 0, 0, 0), (4, .aload_n 0, 0, 0, 0, 0), (5, .iconst 4, 3, 4, 0, 0), (6, .newarray .int, 0, 0, 0, 0), (8, .putfield 9, 0, 0, 0, 2), (11, .aload_n 0, 0, 0, 0, 0), (12, .bipush 9, 3, 9, 0, 0), (14, .newarray .int, 0, 0, 0, 0), (16, .putfield 15, 0, 0, 1, 2), (19, .aload_n 0, 0, 0, 0, 0), (20, .bipush 90, 3, 90, 0, 0), (22, .newarray .int, 0, 0, 0, 0), (24, .putfield 18, 0, 0, 2, 2), (27, .aload_n 0, 0, 0, 0, 0), (28, .bipush 90, 3, 90, 0, 0), (30, .newarray .int, 0, 0, 0, 0), (32, .putfield 21, 0, 0, 3, 2), (35, .aload_n 0, 0, 0, 0, 0), (36, .iconst 5, 3, 5, 0, 0), (37, .anewarray 24, 10, 0, 0, 0), (40, .putfield 26, 0, 0, 4, 2), (43, .aload_n 0, 0, 0, 0, 0), (44, .iconst (-1), 3, 1, 1, 0), (45, .putfield 30, 0, 0, 5, 0), (48, .iconst 0, 3, 0, 0, 0), (49, .istore_n 1, 0, 0, 0, 0), (50, .iload_n 1, 0, 0, 0, 0), (51, .iconst 3, 3, 3, 0, 0), (52, .if_icmp .ge 42, 0, 94, 0, 0), (55, .iconst 0, 3, 0, 0, 0), (56, .istore_n 2, 0, 0, 0, 0), (57, .iload_n 2, 0, 0, 0, 0), (58, .iconst 3, 3, 3, 0, 0), (59, .if_icmp .ge 29, 0, 88, 0, 0), (62, .aload_n 0, 0, 0, 0, 0), (63, .getfield 15, 0, 0, 1, 2), (66, .iload_n 1, 0, 0, 0, 0), (67, .iconst 3, 3, 3, 0, 0), (68, .imul, 0, 0, 0, 0), (69, .iload_n 2, 0, 0, 0, 0), (70, .iadd, 0, 0, 0, 0), (71, .iload_n 1, 0, 0, 0, 0), (72, .iload_n 2, 0, 0, 0, 0), (73, .if_icmp .ne 7, 0, 80, 0, 0), (76, .iconst 0, 3, 0, 0, 0), (77, .goto 4, 0, 81, 0, 0), (80, .iconst 2, 3, 2, 0, 0), (81, .iastore, 0, 0, 0, 0), (82, .iinc 2 1, 3, 1, 0, 0), (85, .goto (-28), 0, 57, 0, 0), (88, .iinc 1 1, 3, 1, 0, 0), (91, .goto (-41), 0, 50, 0, 0), (94, .iconst 0, 3, 0, 0, 0), (95, .istore_n 1, 0, 0, 0, 0), (96, .iload_n 1, 0, 0, 0, 0), (97, .iconst 5, 3, 5, 0, 0), (98, .if_icmp .ge 22, 0, 120, 0, 0), (101, .aload_n 0, 0, 0, 0, 0), (102, .getfield 26, 0, 0, 4, 2), (105, .iload_n 1, 0, 0, 0, 0), (106, .new 24, 2, 5, 0, 0), (109, .dup, 0, 0, 0, 0), (110, .invokespecial 34, 1, 60, 0, 98), (113, .aastore, 0, 0, 0, 0), (114, .iinc 1 1, 3, 1, 0, 0), (117, .goto (-21), 0, 96, 0, 0), (120, .return_, 0, 0, 0, 0)]
set_option maxRecDepth 100000 in
def am_c2 : List am_I := [(0, .aload_n 1, 0, 0, 0, 0), (1, .getfield 9, 0, 0, 0, 2), (4, .iconst 0, 3, 0, 0, 0), (5, .aload_n 0, 0, 0, 0, 0), (6, .getfield 9, 0, 0, 0, 2), (9, .iconst 0, 3, 0, 0, 0), (10, .iconst 4, 3, 4, 0, 0), (11, .invokestatic 35, 7, 0, 0, 0), (14, .aload_n 1, 0, 0, 0, 0), (15, .getfield 15, 0, 0, 1, 2), (18, .iconst 0, 3, 0, 0, 0), (19, .aload_n 0, 0, 0, 0, 0), (20, .getfield 15, 0, 0, 1, 2), (23, .iconst 0, 3, 0, 0, 0), (24, .bipush 9, 3, 9, 0, 0), (26, .invokestatic 35, 7, 0, 0, 0), (29, .aload_n 1, 0, 0, 0, 0), (30, .getfield 18, 0, 0, 2, 2), (33, .iconst 0, 3, 0, 0, 0), (34, .aload_n 0, 0, 0, 0, 0), (35, .getfield 18, 0, 0, 2, 2), (38, .iconst 0, 3, 0, 0, 0), (39, .bipush 90, 3, 90, 0, 0), (41, .invokestatic 35, 7, 0, 0, 0), (44, .aload_n 1, 0, 0, 0, 0), (45, .getfield 21, 0, 0, 3, 2), (48, .iconst 0, 3, 0, 0, 0), (49, .aload_n 0, 0, 0, 0, 0), (50, .getfield 21, 0, 0, 3, 2), (53, .iconst 0, 3, 0, 0, 0), (54, .bipush 90, 3, 90, 0, 0), (56, .invokestatic 35, 7, 0, 0, 0), (59, .iconst 0, 3, 0, 0, 0), (60, .istore_n 2, 0, 0, 0, 0), (61, .iload_n 2, 0, 0, 0, 0), (62, .iconst 5, 3, 5, 0, 0), (63, .if_icmp .ge 24, 0, 87, 0, 0), (66, .aload_n 0, 0, 0, 0, 0), (67, .getfield 26, 0, 0, 4, 2), (70, .iload_n 2, 0, 0, 0, 0), (71, .aaload, 0, 0, 0, 0), (72, .aload_n 1, 0, 0, 0, 0), (73, .getfield 26, 0, 0, 4, 2), (76, .iload_n 2, 0, 0, 0, 0), (77, .aaload, 0, 0, 0, 0), (78, .invokevirtual 41, 1, 66, 1, 5), (81, .iinc 2 1, 3, 1, 0, 0), (84, .goto (-23), 0, 61, 0, 0), (87, .return_, 0, 0, 0, 0)]
set_option maxRecDepth 100000 in
def am_c3 : List am_I := [(0, .iload_n 1, 0, 0, 0, 0), (1, .ifCond .lt 12, 0, 13, 0, 0), (4, .iload_n 1, 0, 0, 0, 0), (5, .bipush 7, 3, 7, 0, 0), (7, .irem, 0, 0, 0, 0), (8, .bipush 6, 3, 6, 0, 0), (10, .if_icmp .ne 5, 0, 15, 0, 0), (13, .iconst 0, 3, 0, 0, 0), (14, .ireturn, 0, 1, 0, 0), (15, .iload_n 1, 0, 0, 0, 0), (16, .bipush 90, 3, 90, 0, 0), (18, .if_icmp .ge 12, 0, 30, 0, 0), (21, .aload_n 0, 0, 0, 0, 0), (22, .getfield 18, 0, 0, 2, 2), (25, .iload_n 1, 0, 0, 0, 0), (26, .iaload, 0, 0, 0, 0), (27, .ifCond .ne 7, 0, 34, 0, 0), (30, .iconst 1, 3, 1, 0, 0), (31, .goto 4, 0, 35, 0, 0), (34, .iconst 0, 3, 0, 0, 0), (35, .ireturn, 0, 1, 0, 0)]
set_option maxRecDepth 100000 in
def am_c4 : List am_I := [(0, .iload_n 1, 0, 0, 0, 0), (1, .aload_n 0, 0, 0, 0, 0), (2, .getfield 30, 0, 0, 5, 0), (5, .if_icmp .eq 20, 0, 25, 0, 0), (8, .iload_n 1, 0, 0, 0, 0), (9, .invokestatic 45, 1, 133, 1, 99), (12, .ifCond .eq 17, 0, 29, 0, 0), (15, .aload_n 0, 0, 0, 0, 0), (16, .getfield 21, 0, 0, 3, 2), (19, .iload_n 1, 0, 0, 0, 0), (20, .iaload, 0, 0, 0, 0), (21, .iconst 1, 3, 1, 0, 0), (22, .if_icmp .ne 7, 0, 29, 0, 0), (25, .iconst 1, 3, 1, 0, 0), (26, .goto 4, 0, 30, 0, 0), (29, .iconst 0, 3, 0, 0, 0), (30, .ireturn, 0, 1, 0, 0)]
set_option maxRecDepth 100000 in
def am_c5 : List am_I := [(0, .aload_n 0, 0, 0, 0, 0), (1, .getfield 9, 0, 0, 0, 2), (4, .iload_n 1, 0, 0, 0, 0), (5, .iaload, 0, 0, 0, 0), (6, .aload_n 0, 0, 0, 0, 0), (7, .getfield 9, 0, 0, 0, 2), (10, .iload_n 2, 0, 0, 0, 0), (11, .iaload, 0, 0, 0, 0), (12, .if_icmp .eq 7, 0, 19, 0, 0), (15, .iconst 1, 3, 1, 0, 0), (16, .goto 4, 0, 20, 0, 0), (19, .iconst 0, 3, 0, 0, 0), (20, .ireturn, 0, 1, 0, 0)]
set_option maxRecDepth 100000 in
def am_c6 : List am_I := [(0, .aload_n 0, 0, 0, 0, 0), (1, .getfield 15, 0, 0, 1, 2), (4, .aload_n 0, 0, 0, 0, 0), (5, .getfield 9, 0, 0, 0, 2), (8, .iload_n 1, 0, 0, 0, 0), (9, .iaload, 0, 0, 0, 0), (10, .iconst 3, 3, 3, 0, 0), (11, .imul, 0, 0, 0, 0), (12, .aload_n 0, 0, 0, 0, 0), (13, .getfield 9, 0, 0, 0, 2), (16, .iload_n 2, 0, 0, 0, 0), (17, .iaload, 0, 0, 0, 0), (18, .iadd, 0, 0, 0, 0), (19, .iaload, 0, 0, 0, 0), (20, .ireturn, 0, 0, 0, 0)]
set_option maxRecDepth 100000 in
def am_c7 : List am_I := [(0, .aload_n 0, 0, 0, 0, 0), (1, .iload_n 1, 0, 0, 0, 0), (2, .iload_n 2, 0, 0, 0, 0), (3, .invokevirtual 49, 1, 6, 2, 0), (6, .istore 4, 0, 0, 0, 0), (8, .iconst 1, 3, 1, 0, 0), (9, .istore 5, 0, 0, 0, 0), (11, .iload 5, 0, 0, 0, 0), (13, .sipush 200, 3, 200, 0, 0), (16, .if_icmp .ge 47, 0, 63, 0, 0), (19, .iload 4, 0, 0, 0, 0), (21, .ifCond .le 17, 0, 38, 0, 0), (24, .aload_n 0, 0, 0, 0, 0), (25, .iload_n 3, 0, 0, 0, 0), (26, .iload 5, 0, 0, 0, 0), (28, .iadd, 0, 0, 0, 0), (29, .invokevirtual 53, 1, 4, 1, 0), (32, .ifCond .ne 6, 0, 38, 0, 0), (35, .iinc 4 (-1), 3, 1, 1, 0), (38, .iload 4, 0, 0, 0, 0), (40, .ifCond .ne 17, 0, 57, 0, 0), (43, .aload_n 0, 0, 0, 0, 0), (44, .iload_n 3, 0, 0, 0, 0), (45, .iload 5, 0, 0, 0, 0), (47, .iadd, 0, 0, 0, 0), (48, .invokevirtual 56, 1, 3, 1, 0), (51, .ifCond .eq 6, 0, 57, 0, 0), (54, .iload 5, 0, 0, 0, 0), (56, .ireturn, 0, 0, 0, 0), (57, .iinc 5 1, 3, 1, 0, 0), (60, .goto (-49), 0, 11, 0, 0), (63, .sipush 200, 3, 200, 0, 0), (66, .ireturn, 0, 0, 0, 0)]
set_option maxRecDepth 100000 in
def am_c8 : List am_I := [(0, .aload_n 0, 0, 0, 0, 0), (1, .invokespecial 3, 8, 0, 0, 0), (4, .aload_n 0, 0, 0, 0, 0), (5, .sipush 6300, 3, 6300, 0, 0), (8, .newarray .int, 0, 0, 0, 0), (10, .putfield 9, 0, 1, 0, 2), (13, .return_, 0, 0, 0, 0)]
set_option maxRecDepth 100000 in
def am_c9 : List am_I := [(0, .aload_n 0, 0, 0, 0, 0), (1, .getfield 15, 0, 1, 1, 0), (4, .sipush 900, 3, 900, 0, 0), (7, .if_icmp .lt 4, 0, 11, 0, 0), (10, .return_, 0, 0, 0, 0), (11, .aload_n 0, 0, 0, 0, 0), (12, .getfield 15, 0, 1, 1, 0), (15, .bipush 7, 3, 7, 0, 0), (17, .imul, 0, 0, 0, 0), (18, .istore 7, 0, 0, 0, 0), (20, .aload_n 0, 0, 0, 0, 0), (21, .getfield 9, 0, 1, 0, 2), (24, .iload 7, 0, 0, 0, 0), (26, .iload_n 1, 0, 0, 0, 0), (27, .iastore, 0, 0, 0, 0), (28, .aload_n 0, 0, 0, 0, 0), (29, .getfield 9, 0, 1, 0, 2), (32, .iload 7, 0, 0, 0, 0), (34, .iconst 1, 3, 1, 0, 0), (35, .iadd, 0, 0, 0, 0), (36, .iload_n 2, 0, 0, 0, 0), (37, .iconst 4, 3, 4, 0, 0), (38, .idiv, 0, 0, 0, 0), (39, .iastore, 0, 0, 0, 0), (40, .aload_n 0, 0, 0, 0, 0), (41, .getfield 9, 0, 1, 0, 2), (44, .iload 7, 0, 0, 0, 0), (46, .iconst 2, 3, 2, 0, 0), (47, .iadd, 0, 0, 0, 0), (48, .iload_n 2, 0, 0, 0, 0), (49, .iconst 4, 3, 4, 0, 0), (50, .irem, 0, 0, 0, 0), (51, .iastore, 0, 0, 0, 0), (52, .aload_n 0, 0, 0, 0, 0), (53, .getfield 9, 0, 1, 0, 2), (56, .iload 7, 0, 0, 0, 0), (58, .iconst 3, 3, 3, 0, 0), (59, .iadd, 0, 0, 0, 0), (60, .iload_n 3, 0, 0, 0, 0), (61, .iastore, 0, 0, 0, 0), (62, .aload_n 0, 0, 0, 0, 0), (63, .getfield 9, 0, 1, 0, 2), (66, .iload 7, 0, 0, 0, 0), (68, .iconst 4, 3, 4, 0, 0), (69, .iadd, 0, 0, 0, 0), (70, .iload 4, 0, 0, 0, 0), (72, .iastore, 0, 0, 0, 0), (73, .aload_n 0, 0, 0, 0, 0), (74, .getfield 9, 0, 1, 0, 2), (77, .iload 7, 0, 0, 0, 0), (79, .iconst 5, 3, 5, 0, 0), (80, .iadd, 0, 0, 0, 0), (81, .iload 5, 0, 0, 0, 0), (83, .iastore, 0, 0, 0, 0), (84, .aload_n 0, 0, 0, 0, 0), (85, .getfield 9, 0, 1, 0, 2), (88, .iload 7, 0, 0, 0, 0), (90, .bipush 6, 3, 6, 0, 0), (92, .iadd, 0, 0, 0, 0), (93, .iload 6, 0, 0, 0, 0), (95, .iastore, 0, 0, 0, 0), (96, .aload_n 0, 0, 0, 0, 0), (97, .dup, 0, 0, 0, 0), (98, .getfield 15, 0, 1, 1, 0), (101, .iconst 1, 3, 1, 0, 0), (102, .iadd, 0, 0, 0, 0), (103, .putfield 15, 0, 1, 1, 0), (106, .return_, 0, 0, 0, 0)]
set_option maxRecDepth 100000 in
def am_c10 : List am_I := [(0, .aload_n 0, 0, 0, 0, 0), (1, .aload_n 1, 0, 0, 0, 0), (2, .getfield 15, 0, 1, 1, 0), (5, .putfield 15, 0, 1, 1, 0), (8, .aload_n 1, 0, 0, 0, 0), (9, .getfield 9, 0, 1, 0, 2), (12, .iconst 0, 3, 0, 0, 0), (13, .aload_n 0, 0, 0, 0, 0), (14, .getfield 9, 0, 1, 0, 2), (17, .iconst 0, 3, 0, 0, 0), (18, .sipush 6300, 3, 6300, 0, 0), (21, .invokestatic 19, 7, 0, 0, 0), (24, .return_, 0, 0, 0, 0)]
set_option maxRecDepth 100000 in
def am_c11 : List am_I := [(0, .aload_n 0, 0, 0, 0, 0), (1, .invokespecial 3, 8, 0, 0, 0), (4, .aload_n 0, 0, 0, 0, 0), (5, .sipush 1500, 3, 1500, 0, 0), (8, .newarray .int, 0, 0, 0, 0), (10, .putfield 9, 0, 2, 2, 2), (13, .aload_n 0, 0, 0, 0, 0), (14, .bipush 24, 3, 24, 0, 0), (16, .newarray .int, 0, 0, 0, 0), (18, .putfield 15, 0, 2, 3, 2), (21, .aload_n 0, 0, 0, 0, 0), (22, .bipush 24, 3, 24, 0, 0), (24, .newarray .int, 0, 0, 0, 0), (26, .putfield 18, 0, 2, 4, 2), (29, .aload_n 0, 0, 0, 0, 0), (30, .bipush 24, 3, 24, 0, 0), (32, .newarray .int, 0, 0, 0, 0), (34, .putfield 21, 0, 2, 5, 2), (37, .aload_n 0, 0, 0, 0, 0), (38, .sipush 150, 3, 150, 0, 0), (41, .newarray .int, 0, 0, 0, 0), (43, .putfield 24, 0, 2, 6, 2), (46, .aload_n 0, 0, 0, 0, 0), (47, .bipush 7, 3, 7, 0, 0), (49, .newarray .int, 0, 0, 0, 0), (51, .putfield 27, 0, 2, 7, 2), (54, .aload_n 0, 0, 0, 0, 0), (55, .aload_n 1, 0, 0, 0, 0), (56, .putfield 30, 0, 2, 0, 2), (59, .aload_n 0, 0, 0, 0, 0), (60, .aload_n 2, 0, 0, 0, 0), (61, .putfield 34, 0, 2, 1, 2), (64, .return_, 0, 0, 0, 0)]
set_option maxRecDepth 100000 in
def am_c12 : List am_I := [(0, .aload_n 0, 0, 0, 0, 0), (1, .aload_n 1, 0, 0, 0, 0), (2, .getfield 38, 0, 2, 8, 0), (5, .putfield 38, 0, 2, 8, 0), (8, .aload_n 0, 0, 0, 0, 0), (9, .aload_n 1, 0, 0, 0, 0), (10, .getfield 42, 0, 2, 9, 0), (13, .putfield 42, 0, 2, 9, 0), (16, .aload_n 1, 0, 0, 0, 0), (17, .getfield 9, 0, 2, 2, 2), (20, .iconst 0, 3, 0, 0, 0), (21, .aload_n 0, 0, 0, 0, 0), (22, .getfield 9, 0, 2, 2, 2), (25, .iconst 0, 3, 0, 0, 0), (26, .sipush 1500, 3, 1500, 0, 0), (29, .invokestatic 45, 7, 0, 0, 0), (32, .aload_n 1, 0, 0, 0, 0), (33, .getfield 15, 0, 2, 3, 2), (36, .iconst 0, 3, 0, 0, 0), (37, .aload_n 0, 0, 0, 0, 0), (38, .getfield 15, 0, 2, 3, 2), (41, .iconst 0, 3, 0, 0, 0), (42, .bipush 24, 3, 24, 0, 0), (44, .invokestatic 45, 7, 0, 0, 0), (47, .aload_n 1, 0, 0, 0, 0), (48, .getfield 18, 0, 2, 4, 2), (51, .iconst 0, 3, 0, 0, 0), (52, .aload_n 0, 0, 0, 0, 0), (53, .getfield 18, 0, 2, 4, 2), (56, .iconst 0, 3, 0, 0, 0), (57, .bipush 24, 3, 24, 0, 0), (59, .invokestatic 45, 7, 0, 0, 0), (62, .aload_n 1, 0, 0, 0, 0), (63, .getfield 21, 0, 2, 5, 2), (66, .iconst 0, 3, 0, 0, 0), (67, .aload_n 0, 0, 0, 0, 0), (68, .getfield 21, 0, 2, 5, 2), (71, .iconst 0, 3, 0, 0, 0), (72, .bipush 24, 3, 24, 0, 0), (74, .invokestatic 45, 7, 0, 0, 0), (77, .return_, 0, 0, 0, 0)]
set_option maxRecDepth 100000 in
def am_c13 : List am_I := [(0, .aload_n 0, 0, 0, 0, 0), (1, .getfield 9, 0, 2, 2, 2), (4, .iload_n 1, 0, 0, 0, 0), (5, .bipush 10, 3, 10, 0, 0), (7, .imul, 0, 0, 0, 0), (8, .iload_n 2, 0, 0, 0, 0), (9, .iadd, 0, 0, 0, 0), (10, .iaload, 0, 0, 0, 0), (11, .ireturn, 0, 0, 0, 0)]
set_option maxRecDepth 100000 in
def am_c14 : List am_I := [(0, .aload_n 0, 0, 0, 0, 0), (1, .getfield 9, 0, 2, 2, 2), (4, .iload_n 1, 0, 0, 0, 0), (5, .bipush 10, 3, 10, 0, 0), (7, .imul, 0, 0, 0, 0), (8, .iload_n 2, 0, 0, 0, 0), (9, .iadd, 0, 0, 0, 0), (10, .iload_n 3, 0, 0, 0, 0), (11, .iastore, 0, 0, 0, 0), (12, .return_, 0, 0, 0, 0)]
set_option maxRecDepth 100000 in
def am_c15 : List am_I := [(0, .aload_n 0, 0, 0, 0, 0), (1, .iload_n 1, 0, 0, 0, 0), (2, .bipush 6, 3, 6, 0, 0), (4, .invokevirtual 51, 1, 13, 2, 2), (7, .istore_n 2, 0, 0, 0, 0), (8, .iload_n 2, 0, 0, 0, 0), (9, .ifCond .eq 8, 0, 17, 0, 0), (12, .iload_n 2, 0, 0, 0, 0), (13, .iconst 2, 3, 2, 0, 0), (14, .if_icmp .ne 7, 0, 21, 0, 0), (17, .iconst 1, 3, 1, 0, 0), (18, .goto 4, 0, 22, 0, 0), (21, .iconst 0, 3, 0, 0, 0), (22, .ireturn, 0, 1, 0, 0)]
set_option maxRecDepth 100000 in
def am_c16 : List am_I := [(0, .aload_n 0, 0, 0, 0, 0), (1, .iload_n 1, 0, 0, 0, 0), (2, .iconst 2, 3, 2, 0, 0), (3, .invokevirtual 51, 1, 13, 2, 2), (6, .iload_n 2, 0, 0, 0, 0), (7, .if_icmp .ne 17, 0, 24, 0, 0), (10, .aload_n 0, 0, 0, 0, 0), (11, .iload_n 1, 0, 0, 0, 0), (12, .iconst 3, 3, 3, 0, 0), (13, .invokevirtual 51, 1, 13, 2, 2), (16, .iload_n 3, 0, 0, 0, 0), (17, .if_icmp .ne 7, 0, 24, 0, 0), (20, .iconst 1, 3, 1, 0, 0), (21, .goto 4, 0, 25, 0, 0), (24, .iconst 0, 3, 0, 0, 0), (25, .ireturn, 0, 1, 0, 0)]
set_option maxRecDepth 100000 in
def am_c17 : List am_I := [(0, .iload_n 1, 0, 0, 0, 0), (1, .aload_n 0, 0, 0, 0, 0), (2, .getfield 38, 0, 2, 8, 0), (5, .bipush 7, 3, 7, 0, 0), (7, .isub, 0, 0, 0, 0), (8, .if_icmp .le 15, 0, 23, 0, 0), (11, .iload_n 1, 0, 0, 0, 0), (12, .aload_n 0, 0, 0, 0, 0), (13, .getfield 38, 0, 2, 8, 0), (16, .if_icmp .gt 7, 0, 23, 0, 0), (19, .iconst 1, 3, 1, 0, 0), (20, .goto 4, 0, 24, 0, 0), (23, .iconst 0, 3, 0, 0, 0), (24, .ireturn, 0, 1, 0, 0)]
set_option maxRecDepth 100000 in
def am_c18 : List am_I := [(0, .iconst 0, 3, 0, 0, 0), (1, .istore_n 3, 0, 0, 0, 0), (2, .iconst 0, 3, 0, 0, 0), (3, .istore 4, 0, 0, 0, 0), (5, .iload 4, 0, 0, 0, 0), (7, .aload_n 0, 0, 0, 0, 0), (8, .getfield 42, 0, 2, 9, 0), (11, .if_icmp .ge 77, 0, 88, 0, 0), (14, .aload_n 0, 0, 0, 0, 0), (15, .getfield 38, 0, 2, 8, 0), (18, .aload_n 0, 0, 0, 0, 0), (19, .iload 4, 0, 0, 0, 0), (21, .iconst 5, 3, 5, 0, 0), (22, .invokevirtual 51, 1, 13, 2, 2), (25, .aload_n 0, 0, 0, 0, 0), (26, .iload 4, 0, 0, 0, 0), (28, .bipush 8, 3, 8, 0, 0), (30, .invokevirtual 51, 1, 13, 2, 2), (33, .iadd, 0, 0, 0, 0), (34, .if_icmp .ge 7, 0, 41, 0, 0), (37, .iconst 1, 3, 1, 0, 0), (38, .goto 4, 0, 42, 0, 0), (41, .iconst 0, 3, 0, 0, 0), (42, .istore 5, 0, 0, 0, 0), (44, .iload 5, 0, 0, 0, 0), (46, .ifCond .eq 36, 0, 82, 0, 0), (49, .aload_n 0, 0, 0, 0, 0), (50, .iload 4, 0, 0, 0, 0), (52, .bipush 6, 3, 6, 0, 0), (54, .invokevirtual 51, 1, 13, 2, 2), (57, .iconst 3, 3, 3, 0, 0), (58, .if_icmp .eq 24, 0, 82, 0, 0), (61, .aload_n 0, 0, 0, 0, 0), (62, .iload 4, 0, 0, 0, 0), (64, .iload_n 1, 0, 0, 0, 0), (65, .iload_n 2, 0, 0, 0, 0), (66, .invokevirtual 55, 1, 16, 3, 2), (69, .ifCond .eq 13, 0, 82, 0, 0), (72, .iload_n 3, 0, 0, 0, 0), (73, .aload_n 0, 0, 0, 0, 0), (74, .iload 4, 0, 0, 0, 0), (76, .iconst 4, 3, 4, 0, 0), (77, .invokevirtual 51, 1, 13, 2, 2), (80, .iadd, 0, 0, 0, 0), (81, .istore_n 3, 0, 0, 0, 0), (82, .iinc 4 1, 3, 1, 0, 0), (85, .goto (-80), 0, 5, 0, 0), (88, .iload_n 3, 0, 0, 0, 0), (89, .ireturn, 0, 0, 0, 0)]
set_option maxRecDepth 100000 in
def am_c19 : List am_I := [(0, .aload_n 0, 0, 0, 0, 0), (1, .getfield 15, 0, 2, 3, 2), (4, .iload_n 1, 0, 0, 0, 0), (5, .iconst 4, 3, 4, 0, 0), (6, .imul, 0, 0, 0, 0), (7, .iload_n 2, 0, 0, 0, 0), (8, .iadd, 0, 0, 0, 0), (9, .iaload, 0, 0, 0, 0), (10, .aload_n 0, 0, 0, 0, 0), (11, .iload_n 1, 0, 0, 0, 0), (12, .iload_n 2, 0, 0, 0, 0), (13, .invokevirtual 59, 1, 18, 2, 2), (16, .isub, 0, 0, 0, 0), (17, .ireturn, 0, 0, 0, 0)]
set_option maxRecDepth 100000 in
def am_c20 : List am_I := [(0, .iconst 0, 3, 0, 0, 0), (1, .istore_n 3, 0, 0, 0, 0), (2, .iconst 0, 3, 0, 0, 0), (3, .istore 4, 0, 0, 0, 0), (5, .iload 4, 0, 0, 0, 0), (7, .aload_n 0, 0, 0, 0, 0), (8, .getfield 42, 0, 2, 9, 0), (11, .if_icmp .ge 37, 0, 48, 0, 0), (14, .aload_n 0, 0, 0, 0, 0), (15, .iload 4, 0, 0, 0, 0), (17, .iload_n 1, 0, 0, 0, 0), (18, .iload_n 2, 0, 0, 0, 0), (19, .invokevirtual 55, 1, 16, 3, 2), (22, .ifCond .eq 20, 0, 42, 0, 0), (25, .aload_n 0, 0, 0, 0, 0), (26, .aload_n 0, 0, 0, 0, 0), (27, .iload 4, 0, 0, 0, 0), (29, .iconst 5, 3, 5, 0, 0), (30, .invokevirtual 51, 1, 13, 2, 2), (33, .invokevirtual 62, 1, 17, 1, 2), (36, .ifCond .eq 6, 0, 42, 0, 0), (39, .iinc 3 1, 3, 1, 0, 0), (42, .iinc 4 1, 3, 1, 0, 0), (45, .goto (-40), 0, 5, 0, 0), (48, .iload_n 3, 0, 0, 0, 0), (49, .ireturn, 0, 0, 0, 0)]
set_option maxRecDepth 100000 in
def am_c21 : List am_I := [(0, .aload_n 0, 0, 0, 0, 0), (1, .getfield 27, 0, 2, 7, 2), (4, .iconst 0, 3, 0, 0, 0), (5, .iload 5, 0, 0, 0, 0), (7, .iastore, 0, 0, 0, 0), (8, .aload_n 0, 0, 0, 0, 0), (9, .getfield 27, 0, 2, 7, 2), (12, .iconst 1, 3, 1, 0, 0), (13, .aload_n 0, 0, 0, 0, 0), (14, .getfield 30, 0, 2, 0, 2), (17, .iload_n 3, 0, 0, 0, 0), (18, .iload 4, 0, 0, 0, 0), (20, .invokevirtual 66, 1, 5, 2, 0), (23, .ifCond .eq 7, 0, 30, 0, 0), (26, .iconst 1, 3, 1, 0, 0), (27, .goto 4, 0, 31, 0, 0), (30, .iconst 0, 3, 0, 0, 0), (31, .iastore, 0, 0, 0, 0), (32, .aload_n 0, 0, 0, 0, 0), (33, .getfield 27, 0, 2, 7, 2), (36, .iconst 2, 3, 2, 0, 0), (37, .aload_n 0, 0, 0, 0, 0), (38, .getfield 30, 0, 2, 0, 2), (41, .iload_n 3, 0, 0, 0, 0), (42, .iload 4, 0, 0, 0, 0), (44, .invokevirtual 72, 1, 6, 2, 0), (47, .iastore, 0, 0, 0, 0), (48, .aload_n 0, 0, 0, 0, 0), (49, .getfield 27, 0, 2, 7, 2), (52, .iconst 3, 3, 3, 0, 0), (53, .iload_n 2, 0, 0, 0, 0), (54, .iastore, 0, 0, 0, 0), (55, .aload_n 0, 0, 0, 0, 0), (56, .getfield 27, 0, 2, 7, 2), (59, .iconst 4, 3, 4, 0, 0), (60, .iload 6, 0, 0, 0, 0), (62, .iastore, 0, 0, 0, 0), (63, .aload_n 0, 0, 0, 0, 0), (64, .getfield 27, 0, 2, 7, 2), (67, .iconst 5, 3, 5, 0, 0), (68, .aload_n 0, 0, 0, 0, 0), (69, .getfield 15, 0, 2, 3, 2), (72, .iload_n 2, 0, 0, 0, 0), (73, .iconst 4, 3, 4, 0, 0), (74, .imul, 0, 0, 0, 0), (75, .iload_n 3, 0, 0, 0, 0), (76, .iadd, 0, 0, 0, 0), (77, .iaload, 0, 0, 0, 0), (78, .iastore, 0, 0, 0, 0), (79, .aload_n 0, 0, 0, 0, 0), (80, .getfield 27, 0, 2, 7, 2), (83, .bipush 6, 3, 6, 0, 0), (85, .aload_n 0, 0, 0, 0, 0), (86, .iload_n 2, 0, 0, 0, 0), (87, .iload_n 3, 0, 0, 0, 0), (88, .invokevirtual 75, 1, 20, 2, 2), (91, .iastore, 0, 0, 0, 0), (92, .iload_n 1, 0, 0, 0, 0), (93, .ifCond .ne 8, 0, 101, 0, 0), (96, .bipush 20, 3, 20, 0, 0), (98, .goto 16, 0, 114, 0, 0), (101, .iload_n 1, 0, 0, 0, 0), (102, .iconst 1, 3, 1, 0, 0), (103, .if_icmp .ne 8, 0, 111, 0, 0), (106, .ldc 78, 3, 999999, 0, 0), (108, .goto 6, 0, 114, 0, 0), (111, .sipush 9999, 3, 9999, 0, 0), (114, .istore 7, 0, 0, 0, 0), (116, .iconst 0, 3, 0, 0, 0), (117, .iload 7, 0, 0, 0, 0), (119, .aload_n 0, 0, 0, 0, 0), (120, .getfield 30, 0, 2, 0, 2), (123, .getfield 79, 0, 0, 4, 2), (126, .iload_n 3, 0, 0, 0, 0), (127, .aaload, 0, 0, 0, 0), (128, .iload_n 1, 0, 0, 0, 0), (129, .aload_n 0, 0, 0, 0, 0), (130, .getfield 27, 0, 2, 7, 2), (133, .invokevirtual 83, 1, 67, 2, 5), (136, .invokestatic 89, 1, 255, 2, 99), (139, .invokestatic 94, 1, 254, 2, 99), (142, .ireturn, 0, 0, 0, 0)]
set_option maxRecDepth 100000 in
def am_c22 : List am_I := [(0, .iload_n 1, 0, 0, 0, 0), (1, .iconst 4, 3, 4, 0, 0), (2, .imul, 0, 0, 0, 0), (3, .iload_n 2, 0, 0, 0, 0), (4, .iadd, 0, 0, 0, 0), (5, .istore 6, 0, 0, 0, 0), (7, .aload_n 0, 0, 0, 0, 0), (8, .getfield 15, 0, 2, 3, 2), (11, .iload 6, 0, 0, 0, 0), (13, .dup2, 0, 0, 0, 0), (14, .iaload, 0, 0, 0, 0), (15, .iload 5, 0, 0, 0, 0), (17, .iadd, 0, 0, 0, 0), (18, .iastore, 0, 0, 0, 0), (19, .aload_n 0, 0, 0, 0, 0), (20, .getfield 34, 0, 2, 1, 2), (23, .ifnull 28, 0, 51, 0, 0), (26, .aload_n 0, 0, 0, 0, 0), (27, .getfield 34, 0, 2, 1, 2), (30, .aload_n 0, 0, 0, 0, 0), (31, .getfield 38, 0, 2, 8, 0), (34, .iload 6, 0, 0, 0, 0), (36, .iload_n 3, 0, 0, 0, 0), (37, .iload 4, 0, 0, 0, 0), (39, .iload 5, 0, 0, 0, 0), (41, .aload_n 0, 0, 0, 0, 0), (42, .getfield 15, 0, 2, 3, 2), (45, .iload 6, 0, 0, 0, 0), (47, .iaload, 0, 0, 0, 0), (48, .invokevirtual 97, 1, 9, 6, 1), (51, .return_, 0, 0, 0, 0)]
set_option maxRecDepth 100000 in
def am_c23 : List am_I := [(0, .aload_n 0, 0, 0, 0, 0), (1, .getfield 42, 0, 2, 9, 0), (4, .sipush 150, 3, 150, 0, 0), (7, .if_icmp .lt 5, 0, 12, 0, 0), (10, .iconst (-1), 3, 1, 1, 0), (11, .ireturn, 0, 0, 0, 0), (12, .aload_n 0, 0, 0, 0, 0), (13, .iconst 0, 3, 0, 0, 0), (14, .iload_n 3, 0, 0, 0, 0), (15, .iload 4, 0, 0, 0, 0), (17, .iload_n 2, 0, 0, 0, 0), (18, .iload 5, 0, 0, 0, 0), (20, .aload_n 0, 0, 0, 0, 0), (21, .getfield 38, 0, 2, 8, 0), (24, .bipush 7, 3, 7, 0, 0), (26, .irem, 0, 0, 0, 0), (27, .invokevirtual 103, 1, 21, 6, 2), (30, .istore 6, 0, 0, 0, 0), (32, .aload_n 0, 0, 0, 0, 0), (33, .getfield 42, 0, 2, 9, 0), (36, .istore 7, 0, 0, 0, 0), (38, .aload_n 0, 0, 0, 0, 0), (39, .dup, 0, 0, 0, 0), (40, .getfield 42, 0, 2, 9, 0), (43, .iconst 1, 3, 1, 0, 0), (44, .iadd, 0, 0, 0, 0), (45, .putfield 42, 0, 2, 9, 0), (48, .aload_n 0, 0, 0, 0, 0), (49, .iload 7, 0, 0, 0, 0), (51, .iconst 0, 3, 0, 0, 0), (52, .iload_n 1, 0, 0, 0, 0), (53, .invokevirtual 107, 1, 14, 3, 2), (56, .aload_n 0, 0, 0, 0, 0), (57, .iload 7, 0, 0, 0, 0), (59, .iconst 1, 3, 1, 0, 0), (60, .iload_n 2, 0, 0, 0, 0), (61, .invokevirtual 107, 1, 14, 3, 2), (64, .aload_n 0, 0, 0, 0, 0), (65, .iload 7, 0, 0, 0, 0), (67, .iconst 2, 3, 2, 0, 0), (68, .iload_n 3, 0, 0, 0, 0), (69, .invokevirtual 107, 1, 14, 3, 2), (72, .aload_n 0, 0, 0, 0, 0), (73, .iload 7, 0, 0, 0, 0), (75, .iconst 3, 3, 3, 0, 0), (76, .iload 4, 0, 0, 0, 0), (78, .invokevirtual 107, 1, 14, 3, 2), (81, .aload_n 0, 0, 0, 0, 0), (82, .iload 7, 0, 0, 0, 0), (84, .iconst 4, 3, 4, 0, 0), (85, .iload 5, 0, 0, 0, 0), (87, .invokevirtual 107, 1, 14, 3, 2), (90, .aload_n 0, 0, 0, 0, 0), (91, .iload 7, 0, 0, 0, 0), (93, .iconst 5, 3, 5, 0, 0), (94, .aload_n 0, 0, 0, 0, 0), (95, .getfield 38, 0, 2, 8, 0), (98, .invokevirtual 107, 1, 14, 3, 2), (101, .aload_n 0, 0, 0, 0, 0), (102, .iload 7, 0, 0, 0, 0), (104, .bipush 6, 3, 6, 0, 0), (106, .iconst 0, 3, 0, 0, 0), (107, .invokevirtual 107, 1, 14, 3, 2), (110, .aload_n 0, 0, 0, 0, 0), (111, .iload 7, 0, 0, 0, 0), (113, .bipush 7, 3, 7, 0, 0), (115, .aload_n 0, 0, 0, 0, 0), (116, .getfield 30, 0, 2, 0, 2), (119, .iload 4, 0, 0, 0, 0), (121, .iload_n 2, 0, 0, 0, 0), (122, .invokevirtual 72, 1, 6, 2, 0), (125, .invokevirtual 107, 1, 14, 3, 2), (128, .aload_n 0, 0, 0, 0, 0), (129, .iload 7, 0, 0, 0, 0), (131, .bipush 8, 3, 8, 0, 0), (133, .iload 6, 0, 0, 0, 0), (135, .invokevirtual 107, 1, 14, 3, 2), (138, .aload_n 0, 0, 0, 0, 0), (139, .iload 7, 0, 0, 0, 0), (141, .bipush 9, 3, 9, 0, 0), (143, .iconst (-1), 3, 1, 1, 0), (144, .invokevirtual 107, 1, 14, 3, 2), (147, .aload_n 0, 0, 0, 0, 0), (148, .iload_n 3, 0, 0, 0, 0), (149, .iload 4, 0, 0, 0, 0), (151, .iconst 1, 3, 1, 0, 0), (152, .iload 7, 0, 0, 0, 0), (154, .iload 5, 0, 0, 0, 0), (156, .invokevirtual 111, 1, 22, 5, 2), (159, .iload 7, 0, 0, 0, 0), (161, .ireturn, 0, 0, 0, 0)]
set_option maxRecDepth 100000 in
def am_c24 : List am_I := [(0, .aload_n 0, 0, 0, 0, 0), (1, .dup, 0, 0, 0, 0), (2, .getfield 38, 0, 2, 8, 0), (5, .iconst 1, 3, 1, 0, 0), (6, .iadd, 0, 0, 0, 0), (7, .putfield 38, 0, 2, 8, 0), (10, .aload_n 0, 0, 0, 0, 0), (11, .invokevirtual 115, 1, 25, 0, 2), (14, .aload_n 0, 0, 0, 0, 0), (15, .getfield 30, 0, 2, 0, 2), (18, .aload_n 0, 0, 0, 0, 0), (19, .getfield 38, 0, 2, 8, 0), (22, .invokevirtual 118, 1, 3, 1, 0), (25, .ifCond .ne 5, 0, 30, 0, 0), (28, .iconst 0, 3, 0, 0, 0), (29, .ireturn, 0, 0, 0, 0), (30, .aload_n 0, 0, 0, 0, 0), (31, .invokevirtual 121, 1, 26, 0, 2), (34, .iconst 0, 3, 0, 0, 0), (35, .istore_n 2, 0, 0, 0, 0), (36, .iconst 0, 3, 0, 0, 0), (37, .istore_n 3, 0, 0, 0, 0), (38, .iload_n 3, 0, 0, 0, 0), (39, .iconst 4, 3, 4, 0, 0), (40, .if_icmp .ge 50, 0, 90, 0, 0), (43, .aload_n 0, 0, 0, 0, 0), (44, .iload_n 3, 0, 0, 0, 0), (45, .iload_n 1, 0, 0, 0, 0), (46, .invokevirtual 124, 1, 27, 2, 2), (49, .istore 4, 0, 0, 0, 0), (51, .iconst 0, 3, 0, 0, 0), (52, .istore 5, 0, 0, 0, 0), (54, .iload 5, 0, 0, 0, 0), (56, .iload 4, 0, 0, 0, 0), (58, .if_icmp .ge 26, 0, 84, 0, 0), (61, .aload_n 0, 0, 0, 0, 0), (62, .aload_n 0, 0, 0, 0, 0), (63, .getfield 24, 0, 2, 6, 2), (66, .iload 5, 0, 0, 0, 0), (68, .iaload, 0, 0, 0, 0), (69, .invokevirtual 127, 1, 29, 1, 2), (72, .ifCond .ne 6, 0, 78, 0, 0), (75, .iinc 2 1, 3, 1, 0, 0), (78, .iinc 5 1, 3, 1, 0, 0), (81, .goto (-27), 0, 54, 0, 0), (84, .iinc 3 1, 3, 1, 0, 0), (87, .goto (-49), 0, 38, 0, 0), (90, .iload_n 2, 0, 0, 0, 0), (91, .ireturn, 0, 0, 0, 0)]
set_option maxRecDepth 100000 in
def am_c25 : List am_I := [(0, .aload_n 0, 0, 0, 0, 0), (1, .getfield 30, 0, 2, 0, 2), (4, .aload_n 0, 0, 0, 0, 0), (5, .getfield 38, 0, 2, 8, 0), (8, .invokevirtual 130, 1, 4, 1, 0), (11, .ifCond .eq 4, 0, 15, 0, 0), (14, .return_, 0, 0, 0, 0), (15, .iconst 0, 3, 0, 0, 0), (16, .istore_n 1, 0, 0, 0, 0), (17, .iload_n 1, 0, 0, 0, 0), (18, .aload_n 0, 0, 0, 0, 0), (19, .getfield 42, 0, 2, 9, 0), (22, .if_icmp .ge 43, 0, 65, 0, 0), (25, .aload_n 0, 0, 0, 0, 0), (26, .iload_n 1, 0, 0, 0, 0), (27, .invokevirtual 133, 1, 15, 1, 2), (30, .ifCond .eq 29, 0, 59, 0, 0), (33, .aload_n 0, 0, 0, 0, 0), (34, .iload_n 1, 0, 0, 0, 0), (35, .bipush 7, 3, 7, 0, 0), (37, .invokevirtual 51, 1, 13, 2, 2), (40, .ifCond .le 19, 0, 59, 0, 0), (43, .aload_n 0, 0, 0, 0, 0), (44, .iload_n 1, 0, 0, 0, 0), (45, .bipush 7, 3, 7, 0, 0), (47, .aload_n 0, 0, 0, 0, 0), (48, .iload_n 1, 0, 0, 0, 0), (49, .bipush 7, 3, 7, 0, 0), (51, .invokevirtual 51, 1, 13, 2, 2), (54, .iconst 1, 3, 1, 0, 0), (55, .isub, 0, 0, 0, 0), (56, .invokevirtual 107, 1, 14, 3, 2), (59, .iinc 1 1, 3, 1, 0, 0), (62, .goto (-45), 0, 17, 0, 0), (65, .return_, 0, 0, 0, 0)]
set_option maxRecDepth 100000 in
def am_c26 : List am_I := [(0, .iconst 0, 3, 0, 0, 0), (1, .istore_n 1, 0, 0, 0, 0), (2, .iload_n 1, 0, 0, 0, 0), (3, .aload_n 0, 0, 0, 0, 0), (4, .getfield 42, 0, 2, 9, 0), (7, .if_icmp .ge 63, 0, 70, 0, 0), (10, .aload_n 0, 0, 0, 0, 0), (11, .iload_n 1, 0, 0, 0, 0), (12, .bipush 6, 3, 6, 0, 0), (14, .invokevirtual 51, 1, 13, 2, 2), (17, .iconst 2, 3, 2, 0, 0), (18, .if_icmp .ne 46, 0, 64, 0, 0), (21, .aload_n 0, 0, 0, 0, 0), (22, .iload_n 1, 0, 0, 0, 0), (23, .bipush 7, 3, 7, 0, 0), (25, .invokevirtual 51, 1, 13, 2, 2), (28, .ifCond .ne 36, 0, 64, 0, 0), (31, .aload_n 0, 0, 0, 0, 0), (32, .iload_n 1, 0, 0, 0, 0), (33, .bipush 6, 3, 6, 0, 0), (35, .iconst 3, 3, 3, 0, 0), (36, .invokevirtual 107, 1, 14, 3, 2), (39, .aload_n 0, 0, 0, 0, 0), (40, .aload_n 0, 0, 0, 0, 0), (41, .iload_n 1, 0, 0, 0, 0), (42, .iconst 2, 3, 2, 0, 0), (43, .invokevirtual 51, 1, 13, 2, 2), (46, .aload_n 0, 0, 0, 0, 0), (47, .iload_n 1, 0, 0, 0, 0), (48, .iconst 3, 3, 3, 0, 0), (49, .invokevirtual 51, 1, 13, 2, 2), (52, .iconst 4, 3, 4, 0, 0), (53, .iload_n 1, 0, 0, 0, 0), (54, .aload_n 0, 0, 0, 0, 0), (55, .iload_n 1, 0, 0, 0, 0), (56, .iconst 4, 3, 4, 0, 0), (57, .invokevirtual 51, 1, 13, 2, 2), (60, .ineg, 0, 0, 0, 0), (61, .invokevirtual 111, 1, 22, 5, 2), (64, .iinc 1 1, 3, 1, 0, 0), (67, .goto (-65), 0, 2, 0, 0), (70, .return_, 0, 0, 0, 0)]
set_option maxRecDepth 100000 in
def am_c27 : List am_I := [(0, .iconst 0, 3, 0, 0, 0), (1, .istore_n 3, 0, 0, 0, 0), (2, .iconst 0, 3, 0, 0, 0), (3, .istore 4, 0, 0, 0, 0), (5, .iload 4, 0, 0, 0, 0), (7, .aload_n 0, 0, 0, 0, 0), (8, .getfield 42, 0, 2, 9, 0), (11, .if_icmp .ge 118, 0, 129, 0, 0), (14, .aload_n 0, 0, 0, 0, 0), (15, .iload 4, 0, 0, 0, 0), (17, .bipush 6, 3, 6, 0, 0), (19, .invokevirtual 51, 1, 13, 2, 2), (22, .ifCond .ne 18, 0, 40, 0, 0), (25, .aload_n 0, 0, 0, 0, 0), (26, .iload 4, 0, 0, 0, 0), (28, .bipush 7, 3, 7, 0, 0), (30, .invokevirtual 51, 1, 13, 2, 2), (33, .ifCond .ne 7, 0, 40, 0, 0), (36, .iconst 1, 3, 1, 0, 0), (37, .goto 4, 0, 41, 0, 0), (40, .iconst 0, 3, 0, 0, 0), (41, .istore 5, 0, 0, 0, 0), (43, .iload 5, 0, 0, 0, 0), (45, .ifCond .eq 78, 0, 123, 0, 0), (48, .aload_n 0, 0, 0, 0, 0), (49, .iload 4, 0, 0, 0, 0), (51, .iconst 1, 3, 1, 0, 0), (52, .invokevirtual 51, 1, 13, 2, 2), (55, .iload_n 1, 0, 0, 0, 0), (56, .if_icmp .eq 6, 0, 62, 0, 0), (59, .goto 64, 0, 123, 0, 0), (62, .iload_n 3, 0, 0, 0, 0), (63, .istore 6, 0, 0, 0, 0), (65, .iload 6, 0, 0, 0, 0), (67, .ifCond .le 44, 0, 111, 0, 0), (70, .aload_n 0, 0, 0, 0, 0), (71, .iload 4, 0, 0, 0, 0), (73, .aload_n 0, 0, 0, 0, 0), (74, .getfield 24, 0, 2, 6, 2), (77, .iload 6, 0, 0, 0, 0), (79, .iconst 1, 3, 1, 0, 0), (80, .isub, 0, 0, 0, 0), (81, .iaload, 0, 0, 0, 0), (82, .iload_n 2, 0, 0, 0, 0), (83, .invokevirtual 136, 1, 28, 3, 2), (86, .ifCond .eq 25, 0, 111, 0, 0), (89, .aload_n 0, 0, 0, 0, 0), (90, .getfield 24, 0, 2, 6, 2), (93, .iload 6, 0, 0, 0, 0), (95, .aload_n 0, 0, 0, 0, 0), (96, .getfield 24, 0, 2, 6, 2), (99, .iload 6, 0, 0, 0, 0), (101, .iconst 1, 3, 1, 0, 0), (102, .isub, 0, 0, 0, 0), (103, .iaload, 0, 0, 0, 0), (104, .iastore, 0, 0, 0, 0), (105, .iinc 6 (-1), 3, 1, 1, 0), (108, .goto (-43), 0, 65, 0, 0), (111, .aload_n 0, 0, 0, 0, 0), (112, .getfield 24, 0, 2, 6, 2), (115, .iload 6, 0, 0, 0, 0), (117, .iload 4, 0, 0, 0, 0), (119, .iastore, 0, 0, 0, 0), (120, .iinc 3 1, 3, 1, 0, 0), (123, .iinc 4 1, 3, 1, 0, 0), (126, .goto (-121), 0, 5, 0, 0), (129, .iload_n 3, 0, 0, 0, 0), (130, .ireturn, 0, 0, 0, 0)]
set_option maxRecDepth 100000 in
def am_c28 : List am_I := [(0, .iload_n 3, 0, 0, 0, 0), (1, .tableswitch 90 1 3 #[27, 48, 69], 0, 0, 0, 0), (28, .aload_n 0, 0, 0, 0, 0), (29, .iload_n 1, 0, 0, 0, 0), (30, .iconst 4, 3, 4, 0, 0), (31, .invokevirtual 51, 1, 13, 2, 2), (34, .aload_n 0, 0, 0, 0, 0), (35, .iload_n 2, 0, 0, 0, 0), (36, .iconst 4, 3, 4, 0, 0), (37, .invokevirtual 51, 1, 13, 2, 2), (40, .if_icmp .le 7, 0, 47, 0, 0), (43, .iconst 1, 3, 1, 0, 0), (44, .goto 4, 0, 48, 0, 0), (47, .iconst 0, 3, 0, 0, 0), (48, .ireturn, 0, 1, 0, 0), (49, .aload_n 0, 0, 0, 0, 0), (50, .iload_n 1, 0, 0, 0, 0), (51, .iconst 4, 3, 4, 0, 0), (52, .invokevirtual 51, 1, 13, 2, 2), (55, .aload_n 0, 0, 0, 0, 0), (56, .iload_n 2, 0, 0, 0, 0), (57, .iconst 4, 3, 4, 0, 0), (58, .invokevirtual 51, 1, 13, 2, 2), (61, .if_icmp .ge 7, 0, 68, 0, 0), (64, .iconst 1, 3, 1, 0, 0), (65, .goto 4, 0, 69, 0, 0), (68, .iconst 0, 3, 0, 0, 0), (69, .ireturn, 0, 1, 0, 0), (70, .aload_n 0, 0, 0, 0, 0), (71, .iload_n 1, 0, 0, 0, 0), (72, .iconst 0, 3, 0, 0, 0), (73, .invokevirtual 51, 1, 13, 2, 2), (76, .aload_n 0, 0, 0, 0, 0), (77, .iload_n 2, 0, 0, 0, 0), (78, .iconst 0, 3, 0, 0, 0), (79, .invokevirtual 51, 1, 13, 2, 2), (82, .if_icmp .ge 7, 0, 89, 0, 0), (85, .iconst 1, 3, 1, 0, 0), (86, .goto 4, 0, 90, 0, 0), (89, .iconst 0, 3, 0, 0, 0), (90, .ireturn, 0, 1, 0, 0), (91, .iconst 0, 3, 0, 0, 0), (92, .ireturn, 0, 1, 0, 0)]
set_option maxRecDepth 100000 in
def am_c29 : List am_I := [(0, .aload_n 0, 0, 0, 0, 0), (1, .iload_n 1, 0, 0, 0, 0), (2, .iconst 0, 3, 0, 0, 0), (3, .invokevirtual 51, 1, 13, 2, 2), (6, .istore_n 2, 0, 0, 0, 0), (7, .aload_n 0, 0, 0, 0, 0), (8, .iload_n 1, 0, 0, 0, 0), (9, .iconst 1, 3, 1, 0, 0), (10, .invokevirtual 51, 1, 13, 2, 2), (13, .istore_n 3, 0, 0, 0, 0), (14, .aload_n 0, 0, 0, 0, 0), (15, .iload_n 1, 0, 0, 0, 0), (16, .iconst 3, 3, 3, 0, 0), (17, .invokevirtual 51, 1, 13, 2, 2), (20, .istore 4, 0, 0, 0, 0), (22, .aload_n 0, 0, 0, 0, 0), (23, .iload_n 1, 0, 0, 0, 0), (24, .iconst 4, 3, 4, 0, 0), (25, .invokevirtual 51, 1, 13, 2, 2), (28, .istore 5, 0, 0, 0, 0), (30, .aload_n 0, 0, 0, 0, 0), (31, .iload_n 1, 0, 0, 0, 0), (32, .bipush 9, 3, 9, 0, 0), (34, .aload_n 0, 0, 0, 0, 0), (35, .getfield 38, 0, 2, 8, 0), (38, .invokevirtual 107, 1, 14, 3, 2), (41, .aload_n 0, 0, 0, 0, 0), (42, .iconst 1, 3, 1, 0, 0), (43, .iload_n 2, 0, 0, 0, 0), (44, .iload_n 3, 0, 0, 0, 0), (45, .iload 4, 0, 0, 0, 0), (47, .iload 5, 0, 0, 0, 0), (49, .aload_n 0, 0, 0, 0, 0), (50, .getfield 38, 0, 2, 8, 0), (53, .bipush 7, 3, 7, 0, 0), (55, .irem, 0, 0, 0, 0), (56, .invokevirtual 103, 1, 21, 6, 2), (59, .istore 6, 0, 0, 0, 0), (61, .aload_n 0, 0, 0, 0, 0), (62, .iload_n 2, 0, 0, 0, 0), (63, .iload_n 3, 0, 0, 0, 0), (64, .invokevirtual 139, 1, 19, 2, 2), (67, .iload 6, 0, 0, 0, 0), (69, .iadd, 0, 0, 0, 0), (70, .iload 5, 0, 0, 0, 0), (72, .if_icmp .lt 24, 0, 96, 0, 0), (75, .aload_n 0, 0, 0, 0, 0), (76, .iload_n 1, 0, 0, 0, 0), (77, .bipush 6, 3, 6, 0, 0), (79, .iconst 1, 3, 1, 0, 0), (80, .invokevirtual 107, 1, 14, 3, 2), (83, .aload_n 0, 0, 0, 0, 0), (84, .iload_n 2, 0, 0, 0, 0), (85, .iload_n 3, 0, 0, 0, 0), (86, .iconst 2, 3, 2, 0, 0), (87, .iload_n 1, 0, 0, 0, 0), (88, .iload 5, 0, 0, 0, 0), (90, .ineg, 0, 0, 0, 0), (91, .invokevirtual 111, 1, 22, 5, 2), (94, .iconst 1, 3, 1, 0, 0), (95, .ireturn, 0, 1, 0, 0), (96, .aload_n 0, 0, 0, 0, 0), (97, .iconst 2, 3, 2, 0, 0), (98, .iload_n 2, 0, 0, 0, 0), (99, .iload_n 3, 0, 0, 0, 0), (100, .iload 4, 0, 0, 0, 0), (102, .iload 5, 0, 0, 0, 0), (104, .aload_n 0, 0, 0, 0, 0), (105, .getfield 38, 0, 2, 8, 0), (108, .bipush 7, 3, 7, 0, 0), (110, .irem, 0, 0, 0, 0), (111, .invokevirtual 103, 1, 21, 6, 2), (114, .istore 7, 0, 0, 0, 0), (116, .aload_n 0, 0, 0, 0, 0), (117, .iload_n 1, 0, 0, 0, 0), (118, .bipush 6, 3, 6, 0, 0), (120, .iconst 2, 3, 2, 0, 0), (121, .invokevirtual 107, 1, 14, 3, 2), (124, .aload_n 0, 0, 0, 0, 0), (125, .iload_n 1, 0, 0, 0, 0), (126, .bipush 7, 3, 7, 0, 0), (128, .aload_n 0, 0, 0, 0, 0), (129, .getfield 30, 0, 2, 0, 2), (132, .iload_n 3, 0, 0, 0, 0), (133, .iload 4, 0, 0, 0, 0), (135, .invokevirtual 72, 1, 6, 2, 0), (138, .invokevirtual 107, 1, 14, 3, 2), (141, .iload 7, 0, 0, 0, 0), (143, .ifCond .le 29, 0, 172, 0, 0), (146, .aload_n 0, 0, 0, 0, 0), (147, .getfield 21, 0, 2, 5, 2), (150, .iload_n 2, 0, 0, 0, 0), (151, .iconst 4, 3, 4, 0, 0), (152, .imul, 0, 0, 0, 0), (153, .iload_n 3, 0, 0, 0, 0), (154, .iadd, 0, 0, 0, 0), (155, .dup2, 0, 0, 0, 0), (156, .iaload, 0, 0, 0, 0), (157, .iload 7, 0, 0, 0, 0), (159, .iadd, 0, 0, 0, 0), (160, .iastore, 0, 0, 0, 0), (161, .aload_n 0, 0, 0, 0, 0), (162, .iload_n 2, 0, 0, 0, 0), (163, .iload_n 3, 0, 0, 0, 0), (164, .iconst 3, 3, 3, 0, 0), (165, .iload_n 1, 0, 0, 0, 0), (166, .iload 7, 0, 0, 0, 0), (168, .ineg, 0, 0, 0, 0), (169, .invokevirtual 111, 1, 22, 5, 2), (172, .iconst 0, 3, 0, 0, 0), (173, .ireturn, 0, 1, 0, 0)]
set_option maxRecDepth 100000 in
def am_c30 : List am_I := [(0, .iconst 0, 3, 0, 0, 0), (1, .istore_n 2, 0, 0, 0, 0), (2, .iconst 0, 3, 0, 0, 0), (3, .istore_n 3, 0, 0, 0, 0), (4, .iload_n 3, 0, 0, 0, 0), (5, .iconst 4, 3, 4, 0, 0), (6, .if_icmp .ge 22, 0, 28, 0, 0), (9, .iload_n 2, 0, 0, 0, 0), (10, .aload_n 0, 0, 0, 0, 0), (11, .getfield 15, 0, 2, 3, 2), (14, .iload_n 1, 0, 0, 0, 0), (15, .iconst 4, 3, 4, 0, 0), (16, .imul, 0, 0, 0, 0), (17, .iload_n 3, 0, 0, 0, 0), (18, .iadd, 0, 0, 0, 0), (19, .iaload, 0, 0, 0, 0), (20, .iadd, 0, 0, 0, 0), (21, .istore_n 2, 0, 0, 0, 0), (22, .iinc 3 1, 3, 1, 0, 0), (25, .goto (-21), 0, 4, 0, 0), (28, .iload_n 2, 0, 0, 0, 0), (29, .ireturn, 0, 0, 0, 0)]
set_option maxRecDepth 100000 in
def am_c31 : List am_I := [(0, .iconst 0, 3, 0, 0, 0), (1, .istore_n 2, 0, 0, 0, 0), (2, .iconst 0, 3, 0, 0, 0), (3, .istore_n 3, 0, 0, 0, 0), (4, .iload_n 3, 0, 0, 0, 0), (5, .aload_n 0, 0, 0, 0, 0), (6, .getfield 42, 0, 2, 9, 0), (9, .if_icmp .ge 68, 0, 77, 0, 0), (12, .aload_n 0, 0, 0, 0, 0), (13, .iload_n 3, 0, 0, 0, 0), (14, .bipush 6, 3, 6, 0, 0), (16, .invokevirtual 51, 1, 13, 2, 2), (19, .ifCond .ne 22, 0, 41, 0, 0), (22, .aload_n 0, 0, 0, 0, 0), (23, .iload_n 3, 0, 0, 0, 0), (24, .iconst 0, 3, 0, 0, 0), (25, .invokevirtual 51, 1, 13, 2, 2), (28, .iload_n 1, 0, 0, 0, 0), (29, .if_icmp .ne 12, 0, 41, 0, 0), (32, .iload_n 2, 0, 0, 0, 0), (33, .aload_n 0, 0, 0, 0, 0), (34, .iload_n 3, 0, 0, 0, 0), (35, .iconst 4, 3, 4, 0, 0), (36, .invokevirtual 51, 1, 13, 2, 2), (39, .iadd, 0, 0, 0, 0), (40, .istore_n 2, 0, 0, 0, 0), (41, .aload_n 0, 0, 0, 0, 0), (42, .iload_n 3, 0, 0, 0, 0), (43, .bipush 6, 3, 6, 0, 0), (45, .invokevirtual 51, 1, 13, 2, 2), (48, .iconst 2, 3, 2, 0, 0), (49, .if_icmp .ne 22, 0, 71, 0, 0), (52, .aload_n 0, 0, 0, 0, 0), (53, .iload_n 3, 0, 0, 0, 0), (54, .iconst 2, 3, 2, 0, 0), (55, .invokevirtual 51, 1, 13, 2, 2), (58, .iload_n 1, 0, 0, 0, 0), (59, .if_icmp .ne 12, 0, 71, 0, 0), (62, .iload_n 2, 0, 0, 0, 0), (63, .aload_n 0, 0, 0, 0, 0), (64, .iload_n 3, 0, 0, 0, 0), (65, .iconst 4, 3, 4, 0, 0), (66, .invokevirtual 51, 1, 13, 2, 2), (69, .iadd, 0, 0, 0, 0), (70, .istore_n 2, 0, 0, 0, 0), (71, .iinc 3 1, 3, 1, 0, 0), (74, .goto (-70), 0, 4, 0, 0), (77, .iload_n 2, 0, 0, 0, 0), (78, .ireturn, 0, 0, 0, 0)]
set_option maxRecDepth 100000 in
def am_c32 : List am_I := [(0, .iconst 0, 3, 0, 0, 0), (1, .istore_n 1, 0, 0, 0, 0), (2, .iconst 0, 3, 0, 0, 0), (3, .istore_n 2, 0, 0, 0, 0), (4, .iload_n 2, 0, 0, 0, 0), (5, .aload_n 0, 0, 0, 0, 0), (6, .getfield 42, 0, 2, 9, 0), (9, .if_icmp .ge 30, 0, 39, 0, 0), (12, .iload_n 1, 0, 0, 0, 0), (13, .aload_n 0, 0, 0, 0, 0), (14, .iload_n 2, 0, 0, 0, 0), (15, .invokevirtual 133, 1, 15, 1, 2), (18, .ifCond .eq 12, 0, 30, 0, 0), (21, .aload_n 0, 0, 0, 0, 0), (22, .iload_n 2, 0, 0, 0, 0), (23, .iconst 4, 3, 4, 0, 0), (24, .invokevirtual 51, 1, 13, 2, 2), (27, .goto 4, 0, 31, 0, 0), (30, .iconst 0, 3, 0, 0, 0), (31, .iadd, 0, 0, 0, 0), (32, .istore_n 1, 0, 0, 0, 0), (33, .iinc 2 1, 3, 1, 0, 0), (36, .goto (-32), 0, 4, 0, 0), (39, .iload_n 1, 0, 0, 0, 0), (40, .ireturn, 0, 0, 0, 0)]
set_option maxRecDepth 100000 in
def am_c33 : List am_I := [(0, .iconst 0, 3, 0, 0, 0), (1, .istore_n 1, 0, 0, 0, 0), (2, .iconst 0, 3, 0, 0, 0), (3, .istore_n 2, 0, 0, 0, 0), (4, .iload_n 2, 0, 0, 0, 0), (5, .aload_n 0, 0, 0, 0, 0), (6, .getfield 42, 0, 2, 9, 0), (9, .if_icmp .ge 25, 0, 34, 0, 0), (12, .iload_n 1, 0, 0, 0, 0), (13, .aload_n 0, 0, 0, 0, 0), (14, .iload_n 2, 0, 0, 0, 0), (15, .invokevirtual 133, 1, 15, 1, 2), (18, .ifCond .eq 7, 0, 25, 0, 0), (21, .iconst 1, 3, 1, 0, 0), (22, .goto 4, 0, 26, 0, 0), (25, .iconst 0, 3, 0, 0, 0), (26, .iadd, 0, 0, 0, 0), (27, .istore_n 1, 0, 0, 0, 0), (28, .iinc 2 1, 3, 1, 0, 0), (31, .goto (-27), 0, 4, 0, 0), (34, .iload_n 1, 0, 0, 0, 0), (35, .ireturn, 0, 0, 0, 0)]
set_option maxRecDepth 100000 in
def am_c34 : List am_I := [(0, .iconst 0, 3, 0, 0, 0), (1, .istore_n 2, 0, 0, 0, 0), (2, .iconst 0, 3, 0, 0, 0), (3, .istore_n 3, 0, 0, 0, 0), (4, .iload_n 3, 0, 0, 0, 0), (5, .bipush 6, 3, 6, 0, 0), (7, .if_icmp .ge 27, 0, 34, 0, 0), (10, .iload_n 2, 0, 0, 0, 0), (11, .iconst 0, 3, 0, 0, 0), (12, .aload_n 0, 0, 0, 0, 0), (13, .getfield 15, 0, 2, 3, 2), (16, .iload_n 3, 0, 0, 0, 0), (17, .iconst 4, 3, 4, 0, 0), (18, .imul, 0, 0, 0, 0), (19, .iload_n 1, 0, 0, 0, 0), (20, .iadd, 0, 0, 0, 0), (21, .iaload, 0, 0, 0, 0), (22, .ineg, 0, 0, 0, 0), (23, .invokestatic 94, 1, 254, 2, 99), (26, .iadd, 0, 0, 0, 0), (27, .istore_n 2, 0, 0, 0, 0), (28, .iinc 3 1, 3, 1, 0, 0), (31, .goto (-27), 0, 4, 0, 0), (34, .iload_n 2, 0, 0, 0, 0), (35, .ireturn, 0, 0, 0, 0)]
set_option maxRecDepth 100000 in
def am_c35 : List am_I := [(0, .iconst 0, 3, 0, 0, 0), (1, .istore_n 1, 0, 0, 0, 0), (2, .iconst 0, 3, 0, 0, 0), (3, .istore_n 2, 0, 0, 0, 0), (4, .iload_n 2, 0, 0, 0, 0), (5, .iconst 4, 3, 4, 0, 0), (6, .if_icmp .ge 17, 0, 23, 0, 0), (9, .iload_n 1, 0, 0, 0, 0), (10, .aload_n 0, 0, 0, 0, 0), (11, .iload_n 2, 0, 0, 0, 0), (12, .invokevirtual 142, 1, 34, 1, 2), (15, .iadd, 0, 0, 0, 0), (16, .istore_n 1, 0, 0, 0, 0), (17, .iinc 2 1, 3, 1, 0, 0), (20, .goto (-16), 0, 4, 0, 0), (23, .iload_n 1, 0, 0, 0, 0), (24, .ireturn, 0, 0, 0, 0)]
set_option maxRecDepth 100000 in
def am_c36 : List am_I := [(0, .iload_n 1, 0, 0, 0, 0), (1, .iconst 1, 3, 1, 0, 0), (2, .isub, 0, 0, 0, 0), (3, .istore_n 2, 0, 0, 0, 0), (4, .iload_n 2, 0, 0, 0, 0), (5, .ifCond .lt 44, 0, 49, 0, 0), (8, .aload_n 0, 0, 0, 0, 0), (9, .iload_n 2, 0, 0, 0, 0), (10, .aload_n 0, 0, 0, 0, 0), (11, .iload_n 1, 0, 0, 0, 0), (12, .iconst 0, 3, 0, 0, 0), (13, .invokevirtual 51, 1, 13, 2, 2), (16, .aload_n 0, 0, 0, 0, 0), (17, .iload_n 1, 0, 0, 0, 0), (18, .iconst 1, 3, 1, 0, 0), (19, .invokevirtual 51, 1, 13, 2, 2), (22, .invokevirtual 55, 1, 16, 3, 2), (25, .istore_n 3, 0, 0, 0, 0), (26, .iload_n 3, 0, 0, 0, 0), (27, .ifCond .eq 16, 0, 43, 0, 0), (30, .aload_n 0, 0, 0, 0, 0), (31, .iload_n 2, 0, 0, 0, 0), (32, .bipush 6, 3, 6, 0, 0), (34, .invokevirtual 51, 1, 13, 2, 2), (37, .iconst 3, 3, 3, 0, 0), (38, .if_icmp .eq 5, 0, 43, 0, 0), (41, .iload_n 2, 0, 0, 0, 0), (42, .ireturn, 0, 0, 0, 0), (43, .iinc 2 (-1), 3, 1, 1, 0), (46, .goto (-42), 0, 4, 0, 0), (49, .iconst (-1), 3, 1, 1, 0), (50, .ireturn, 0, 0, 0, 0)]
set_option maxRecDepth 100000 in
def am_c37 : List am_I := [(0, .aload_n 0, 0, 0, 0, 0), (1, .getfield 18, 0, 2, 4, 2), (4, .iload_n 1, 0, 0, 0, 0), (5, .iconst 4, 3, 4, 0, 0), (6, .imul, 0, 0, 0, 0), (7, .iload_n 2, 0, 0, 0, 0), (8, .iadd, 0, 0, 0, 0), (9, .iaload, 0, 0, 0, 0), (10, .aload_n 0, 0, 0, 0, 0), (11, .getfield 21, 0, 2, 5, 2), (14, .iload_n 1, 0, 0, 0, 0), (15, .iconst 4, 3, 4, 0, 0), (16, .imul, 0, 0, 0, 0), (17, .iload_n 2, 0, 0, 0, 0), (18, .iadd, 0, 0, 0, 0), (19, .iaload, 0, 0, 0, 0), (20, .isub, 0, 0, 0, 0), (21, .istore_n 3, 0, 0, 0, 0), (22, .iconst 0, 3, 0, 0, 0), (23, .istore 4, 0, 0, 0, 0), (25, .iload 4, 0, 0, 0, 0), (27, .aload_n 0, 0, 0, 0, 0), (28, .getfield 42, 0, 2, 9, 0), (31, .if_icmp .ge 88, 0, 119, 0, 0), (34, .aload_n 0, 0, 0, 0, 0), (35, .iload 4, 0, 0, 0, 0), (37, .bipush 6, 3, 6, 0, 0), (39, .invokevirtual 51, 1, 13, 2, 2), (42, .iconst 1, 3, 1, 0, 0), (43, .if_icmp .eq 6, 0, 49, 0, 0), (46, .goto 67, 0, 113, 0, 0), (49, .aload_n 0, 0, 0, 0, 0), (50, .iload 4, 0, 0, 0, 0), (52, .iconst 0, 3, 0, 0, 0), (53, .invokevirtual 51, 1, 13, 2, 2), (56, .iload_n 1, 0, 0, 0, 0), (57, .if_icmp .ne 24, 0, 81, 0, 0), (60, .aload_n 0, 0, 0, 0, 0), (61, .iload 4, 0, 0, 0, 0), (63, .iconst 1, 3, 1, 0, 0), (64, .invokevirtual 51, 1, 13, 2, 2), (67, .iload_n 2, 0, 0, 0, 0), (68, .if_icmp .ne 13, 0, 81, 0, 0), (71, .iload_n 3, 0, 0, 0, 0), (72, .aload_n 0, 0, 0, 0, 0), (73, .iload 4, 0, 0, 0, 0), (75, .iconst 4, 3, 4, 0, 0), (76, .invokevirtual 51, 1, 13, 2, 2), (79, .isub, 0, 0, 0, 0), (80, .istore_n 3, 0, 0, 0, 0), (81, .aload_n 0, 0, 0, 0, 0), (82, .iload 4, 0, 0, 0, 0), (84, .iload_n 1, 0, 0, 0, 0), (85, .iload_n 2, 0, 0, 0, 0), (86, .invokevirtual 55, 1, 16, 3, 2), (89, .ifCond .eq 24, 0, 113, 0, 0), (92, .aload_n 0, 0, 0, 0, 0), (93, .iload 4, 0, 0, 0, 0), (95, .iconst 1, 3, 1, 0, 0), (96, .invokevirtual 51, 1, 13, 2, 2), (99, .iload_n 2, 0, 0, 0, 0), (100, .if_icmp .eq 13, 0, 113, 0, 0), (103, .iload_n 3, 0, 0, 0, 0), (104, .aload_n 0, 0, 0, 0, 0), (105, .iload 4, 0, 0, 0, 0), (107, .iconst 4, 3, 4, 0, 0), (108, .invokevirtual 51, 1, 13, 2, 2), (111, .iadd, 0, 0, 0, 0), (112, .istore_n 3, 0, 0, 0, 0), (113, .iinc 4 1, 3, 1, 0, 0), (116, .goto (-91), 0, 25, 0, 0), (119, .iload_n 3, 0, 0, 0, 0), (120, .ireturn, 0, 0, 0, 0)]
set_option maxRecDepth 100000 in
def am_c38 : List am_I := [(0, .aload_n 0, 0, 0, 0, 0), (1, .invokespecial 3, 8, 0, 0, 0), (4, .aload_n 0, 0, 0, 0, 0), (5, .new 9, 2, 5, 0, 0), (8, .dup, 0, 0, 0, 0), (9, .invokespecial 11, 1, 60, 0, 98), (12, .putfield 12, 0, 3, 0, 2), (15, .aload_n 0, 0, 0, 0, 0), (16, .sipush 401, 3, 401, 0, 0), (19, .newarray .int, 0, 0, 0, 0), (21, .putfield 18, 0, 3, 1, 2), (24, .aload_n 0, 0, 0, 0, 0), (25, .sipush 401, 3, 401, 0, 0), (28, .newarray .int, 0, 0, 0, 0), (30, .putfield 22, 0, 3, 2, 2), (33, .aload_n 0, 0, 0, 0, 0), (34, .sipush 401, 3, 401, 0, 0), (37, .newarray .int, 0, 0, 0, 0), (39, .putfield 25, 0, 3, 3, 2), (42, .return_, 0, 0, 0, 0)]
set_option maxRecDepth 100000 in
def am_c39 : List am_I := [(0, .aload_n 0, 0, 0, 0, 0), (1, .iload_n 2, 0, 0, 0, 0), (2, .putfield 28, 0, 3, 6, 1), (5, .aload_n 0, 0, 0, 0, 0), (6, .aload_n 1, 0, 0, 0, 0), (7, .invokevirtual 32, 1, 48, 1, 3), (10, .aload_n 0, 0, 0, 0, 0), (11, .iconst 0, 3, 0, 0, 0), (12, .putfield 36, 0, 3, 5, 0), (15, .aload_n 0, 0, 0, 0, 0), (16, .getfield 12, 0, 3, 0, 2), (19, .invokevirtual 40, 1, 61, 0, 5), (22, .iconst 0, 3, 0, 0, 0), (23, .istore_n 3, 0, 0, 0, 0), (24, .iload_n 3, 0, 0, 0, 0), (25, .bipush 12, 3, 12, 0, 0), (27, .if_icmp .gt 168, 0, 195, 0, 0), (30, .aload_n 0, 0, 0, 0, 0), (31, .invokevirtual 43, 1, 41, 0, 3), (34, .ifCond .ne 5, 0, 39, 0, 0), (37, .iconst 1, 3, 1, 0, 0), (38, .ireturn, 0, 1, 0, 0), (39, .aload_n 0, 0, 0, 0, 0), (40, .aload_n 0, 0, 0, 0, 0), (41, .invokevirtual 43, 1, 41, 0, 3), (44, .invokevirtual 47, 1, 40, 1, 3), (47, .ifCond .ne 9, 0, 56, 0, 0), (50, .aload_n 0, 0, 0, 0, 0), (51, .iconst 1, 3, 1, 0, 0), (52, .invokevirtual 51, 1, 42, 1, 3), (55, .ireturn, 0, 1, 0, 0), (56, .iload_n 3, 0, 0, 0, 0), (57, .bipush 12, 3, 12, 0, 0), (59, .if_icmp .ne 9, 0, 68, 0, 0), (62, .aload_n 0, 0, 0, 0, 0), (63, .iconst 3, 3, 3, 0, 0), (64, .invokevirtual 51, 1, 42, 1, 3), (67, .ireturn, 0, 1, 0, 0), (68, .aload_n 0, 0, 0, 0, 0), (69, .getfield 12, 0, 3, 0, 2), (72, .aload_n 0, 0, 0, 0, 0), (73, .invokevirtual 43, 1, 41, 0, 3), (76, .bipush 100, 3, 100, 0, 0), (78, .isub, 0, 0, 0, 0), (79, .invokevirtual 54, 1, 63, 1, 5), (82, .aload_n 0, 0, 0, 0, 0), (83, .dup, 0, 0, 0, 0), (84, .getfield 36, 0, 3, 5, 0), (87, .iconst 1, 3, 1, 0, 0), (88, .iadd, 0, 0, 0, 0), (89, .putfield 36, 0, 3, 5, 0), (92, .aload_n 0, 0, 0, 0, 0), (93, .getfield 28, 0, 3, 6, 1), (96, .ifCond .ne 12, 0, 108, 0, 0), (99, .aload_n 0, 0, 0, 0, 0), (100, .invokevirtual 58, 1, 46, 0, 3), (103, .ifCond .ne 5, 0, 108, 0, 0), (106, .iconst 0, 3, 0, 0, 0), (107, .ireturn, 0, 1, 0, 0), (108, .aload_n 0, 0, 0, 0, 0), (109, .getfield 12, 0, 3, 0, 2), (112, .invokevirtual 62, 1, 64, 0, 5), (115, .aload_n 0, 0, 0, 0, 0), (116, .invokevirtual 43, 1, 41, 0, 3), (119, .bipush 103, 3, 103, 0, 0), (121, .if_icmp .ne 23, 0, 144, 0, 0), (124, .aload_n 0, 0, 0, 0, 0), (125, .dup, 0, 0, 0, 0), (126, .getfield 36, 0, 3, 5, 0), (129, .iconst 1, 3, 1, 0, 0), (130, .iadd, 0, 0, 0, 0), (131, .putfield 36, 0, 3, 5, 0), (134, .aload_n 0, 0, 0, 0, 0), (135, .iconst 0, 3, 0, 0, 0), (136, .invokevirtual 65, 1, 43, 1, 3), (139, .ifCond .ne 18, 0, 157, 0, 0), (142, .iconst 0, 3, 0, 0, 0), (143, .ireturn, 0, 1, 0, 0), (144, .aload_n 0, 0, 0, 0, 0), (145, .getfield 28, 0, 3, 6, 1), (148, .ifCond .eq 9, 0, 157, 0, 0), (151, .aload_n 0, 0, 0, 0, 0), (152, .iconst 1, 3, 1, 0, 0), (153, .invokevirtual 51, 1, 42, 1, 3), (156, .ireturn, 0, 1, 0, 0), (157, .aload_n 0, 0, 0, 0, 0), (158, .invokevirtual 43, 1, 41, 0, 3), (161, .bipush 59, 3, 59, 0, 0), (163, .if_icmp .eq 9, 0, 172, 0, 0), (166, .aload_n 0, 0, 0, 0, 0), (167, .iconst 1, 3, 1, 0, 0), (168, .invokevirtual 51, 1, 42, 1, 3), (171, .ireturn, 0, 1, 0, 0), (172, .aload_n 0, 0, 0, 0, 0), (173, .dup, 0, 0, 0, 0), (174, .getfield 36, 0, 3, 5, 0), (177, .iconst 1, 3, 1, 0, 0), (178, .iadd, 0, 0, 0, 0), (179, .putfield 36, 0, 3, 5, 0), (182, .aload_n 0, 0, 0, 0, 0), (183, .getfield 12, 0, 3, 0, 2), (186, .invokevirtual 68, 1, 65, 0, 5), (189, .iinc 3 1, 3, 1, 0, 0), (192, .goto (-168), 0, 24, 0, 0), (195, .iconst 0, 3, 0, 0, 0), (196, .ireturn, 0, 1, 0, 0)]
set_option maxRecDepth 100000 in
def am_c40 : List am_I := [(0, .iload_n 1, 0, 0, 0, 0), (1, .bipush 100, 3, 100, 0, 0), (3, .if_icmp .lt 25, 0, 28, 0, 0), (6, .iload_n 1, 0, 0, 0, 0), (7, .aload_n 0, 0, 0, 0, 0), (8, .getfield 28, 0, 3, 6, 1), (11, .ifCond .eq 8, 0, 19, 0, 0), (14, .bipush 100, 3, 100, 0, 0), (16, .goto 5, 0, 21, 0, 0), (19, .bipush 102, 3, 102, 0, 0), (21, .if_icmp .gt 7, 0, 28, 0, 0), (24, .iconst 1, 3, 1, 0, 0), (25, .goto 4, 0, 29, 0, 0), (28, .iconst 0, 3, 0, 0, 0), (29, .ireturn, 0, 1, 0, 0)]
set_option maxRecDepth 100000 in
def am_c41 : List am_I := [(0, .aload_n 0, 0, 0, 0, 0), (1, .getfield 36, 0, 3, 5, 0), (4, .ifCond .lt 26, 0, 30, 0, 0), (7, .aload_n 0, 0, 0, 0, 0), (8, .getfield 36, 0, 3, 5, 0), (11, .aload_n 0, 0, 0, 0, 0), (12, .getfield 71, 0, 3, 4, 0), (15, .if_icmp .ge 15, 0, 30, 0, 0), (18, .aload_n 0, 0, 0, 0, 0), (19, .getfield 18, 0, 3, 1, 2), (22, .aload_n 0, 0, 0, 0, 0), (23, .getfield 36, 0, 3, 5, 0), (26, .iaload, 0, 0, 0, 0), (27, .goto 4, 0, 31, 0, 0), (30, .iconst 0, 3, 0, 0, 0), (31, .ireturn, 0, 0, 0, 0)]
set_option maxRecDepth 100000 in
def am_c42 : List am_I := [(0, .aload_n 0, 0, 0, 0, 0), (1, .iload_n 1, 0, 0, 0, 0), (2, .putfield 74, 0, 3, 7, 0), (5, .aload_n 0, 0, 0, 0, 0), (6, .aload_n 0, 0, 0, 0, 0), (7, .getfield 36, 0, 3, 5, 0), (10, .ifCond .lt 26, 0, 36, 0, 0), (13, .aload_n 0, 0, 0, 0, 0), (14, .getfield 36, 0, 3, 5, 0), (17, .aload_n 0, 0, 0, 0, 0), (18, .getfield 71, 0, 3, 4, 0), (21, .if_icmp .ge 15, 0, 36, 0, 0), (24, .aload_n 0, 0, 0, 0, 0), (25, .getfield 22, 0, 3, 2, 2), (28, .aload_n 0, 0, 0, 0, 0), (29, .getfield 36, 0, 3, 5, 0), (32, .iaload, 0, 0, 0, 0), (33, .goto 4, 0, 37, 0, 0), (36, .iconst (-1), 3, 1, 1, 0), (37, .putfield 77, 0, 3, 8, 0), (40, .iconst 0, 3, 0, 0, 0), (41, .ireturn, 0, 1, 0, 0)]
set_option maxRecDepth 100000 in
def am_c43 : List am_I := [(0, .aload_n 0, 0, 0, 0, 0), (1, .iload_n 1, 0, 0, 0, 0), (2, .invokevirtual 80, 1, 44, 1, 3), (5, .ifCond .ne 5, 0, 10, 0, 0), (8, .iconst 0, 3, 0, 0, 0), (9, .ireturn, 0, 1, 0, 0), (10, .iconst 0, 3, 0, 0, 0), (11, .istore_n 2, 0, 0, 0, 0), (12, .iload_n 2, 0, 0, 0, 0), (13, .sipush 400, 3, 400, 0, 0), (16, .if_icmp .ge 47, 0, 63, 0, 0), (19, .aload_n 0, 0, 0, 0, 0), (20, .invokevirtual 43, 1, 41, 0, 3), (23, .bipush 104, 3, 104, 0, 0), (25, .if_icmp .ne 38, 0, 63, 0, 0), (28, .aload_n 0, 0, 0, 0, 0), (29, .dup, 0, 0, 0, 0), (30, .getfield 36, 0, 3, 5, 0), (33, .iconst 1, 3, 1, 0, 0), (34, .iadd, 0, 0, 0, 0), (35, .putfield 36, 0, 3, 5, 0), (38, .aload_n 0, 0, 0, 0, 0), (39, .iload_n 1, 0, 0, 0, 0), (40, .invokevirtual 80, 1, 44, 1, 3), (43, .ifCond .ne 5, 0, 48, 0, 0), (46, .iconst 0, 3, 0, 0, 0), (47, .ireturn, 0, 1, 0, 0), (48, .aload_n 0, 0, 0, 0, 0), (49, .getfield 12, 0, 3, 0, 2), (52, .bipush (-19), 3, 19, 1, 0), (54, .invokevirtual 83, 1, 62, 1, 5), (57, .iinc 2 1, 3, 1, 0, 0), (60, .goto (-48), 0, 12, 0, 0), (63, .iconst 1, 3, 1, 0, 0), (64, .ireturn, 0, 1, 0, 0)]
set_option maxRecDepth 100000 in
def am_c44 : List am_I := [(0, .aload_n 0, 0, 0, 0, 0), (1, .iload_n 1, 0, 0, 0, 0), (2, .invokevirtual 86, 1, 45, 1, 3), (5, .ifCond .ne 5, 0, 10, 0, 0), (8, .iconst 0, 3, 0, 0, 0), (9, .ireturn, 0, 1, 0, 0), (10, .iconst 0, 3, 0, 0, 0), (11, .istore_n 2, 0, 0, 0, 0), (12, .iload_n 2, 0, 0, 0, 0), (13, .sipush 400, 3, 400, 0, 0), (16, .if_icmp .ge 47, 0, 63, 0, 0), (19, .aload_n 0, 0, 0, 0, 0), (20, .invokevirtual 43, 1, 41, 0, 3), (23, .bipush 105, 3, 105, 0, 0), (25, .if_icmp .ne 38, 0, 63, 0, 0), (28, .aload_n 0, 0, 0, 0, 0), (29, .dup, 0, 0, 0, 0), (30, .getfield 36, 0, 3, 5, 0), (33, .iconst 1, 3, 1, 0, 0), (34, .iadd, 0, 0, 0, 0), (35, .putfield 36, 0, 3, 5, 0), (38, .aload_n 0, 0, 0, 0, 0), (39, .iload_n 1, 0, 0, 0, 0), (40, .invokevirtual 86, 1, 45, 1, 3), (43, .ifCond .ne 5, 0, 48, 0, 0), (46, .iconst 0, 3, 0, 0, 0), (47, .ireturn, 0, 1, 0, 0), (48, .aload_n 0, 0, 0, 0, 0), (49, .getfield 12, 0, 3, 0, 2), (52, .bipush (-18), 3, 18, 1, 0), (54, .invokevirtual 83, 1, 62, 1, 5), (57, .iinc 2 1, 3, 1, 0, 0), (60, .goto (-48), 0, 12, 0, 0), (63, .iconst 1, 3, 1, 0, 0), (64, .ireturn, 0, 1, 0, 0)]
set_option maxRecDepth 100000 in
def am_c45 : List am_I := [(0, .aload_n 0, 0, 0, 0, 0), (1, .invokevirtual 43, 1, 41, 0, 3), (4, .istore_n 2, 0, 0, 0, 0), (5, .iload_n 2, 0, 0, 0, 0), (6, .bipush 106, 3, 106, 0, 0), (8, .if_icmp .eq 9, 0, 17, 0, 0), (11, .iload_n 2, 0, 0, 0, 0), (12, .bipush 40, 3, 40, 0, 0), (14, .if_icmp .ne 7, 0, 21, 0, 0), (17, .iconst 1, 3, 1, 0, 0), (18, .goto 4, 0, 22, 0, 0), (21, .iconst 0, 3, 0, 0, 0), (22, .istore_n 3, 0, 0, 0, 0), (23, .iload_n 3, 0, 0, 0, 0), (24, .ifCond .eq 15, 0, 39, 0, 0), (27, .iload_n 1, 0, 0, 0, 0), (28, .bipush 8, 3, 8, 0, 0), (30, .if_icmp .lt 9, 0, 39, 0, 0), (33, .aload_n 0, 0, 0, 0, 0), (34, .iconst 3, 3, 3, 0, 0), (35, .invokevirtual 51, 1, 42, 1, 3), (38, .ireturn, 0, 1, 0, 0), (39, .iload_n 2, 0, 0, 0, 0), (40, .bipush 106, 3, 106, 0, 0), (42, .if_icmp .ne 36, 0, 78, 0, 0), (45, .aload_n 0, 0, 0, 0, 0), (46, .dup, 0, 0, 0, 0), (47, .getfield 36, 0, 3, 5, 0), (50, .iconst 1, 3, 1, 0, 0), (51, .iadd, 0, 0, 0, 0), (52, .putfield 36, 0, 3, 5, 0), (55, .aload_n 0, 0, 0, 0, 0), (56, .iload_n 1, 0, 0, 0, 0), (57, .iconst 1, 3, 1, 0, 0), (58, .iadd, 0, 0, 0, 0), (59, .invokevirtual 86, 1, 45, 1, 3), (62, .ifCond .ne 5, 0, 67, 0, 0), (65, .iconst 0, 3, 0, 0, 0), (66, .ireturn, 0, 1, 0, 0), (67, .aload_n 0, 0, 0, 0, 0), (68, .getfield 12, 0, 3, 0, 2), (71, .bipush (-17), 3, 17, 1, 0), (73, .invokevirtual 83, 1, 62, 1, 5), (76, .iconst 1, 3, 1, 0, 0), (77, .ireturn, 0, 1, 0, 0), (78, .iload_n 2, 0, 0, 0, 0), (79, .bipush 40, 3, 40, 0, 0), (81, .if_icmp .ne 52, 0, 133, 0, 0), (84, .aload_n 0, 0, 0, 0, 0), (85, .dup, 0, 0, 0, 0), (86, .getfield 36, 0, 3, 5, 0), (89, .iconst 1, 3, 1, 0, 0), (90, .iadd, 0, 0, 0, 0), (91, .putfield 36, 0, 3, 5, 0), (94, .aload_n 0, 0, 0, 0, 0), (95, .iload_n 1, 0, 0, 0, 0), (96, .iconst 1, 3, 1, 0, 0), (97, .iadd, 0, 0, 0, 0), (98, .invokevirtual 65, 1, 43, 1, 3), (101, .ifCond .ne 5, 0, 106, 0, 0), (104, .iconst 0, 3, 0, 0, 0), (105, .ireturn, 0, 1, 0, 0), (106, .aload_n 0, 0, 0, 0, 0), (107, .invokevirtual 43, 1, 41, 0, 3), (110, .bipush 41, 3, 41, 0, 0), (112, .if_icmp .eq 9, 0, 121, 0, 0), (115, .aload_n 0, 0, 0, 0, 0), (116, .iconst 1, 3, 1, 0, 0), (117, .invokevirtual 51, 1, 42, 1, 3), (120, .ireturn, 0, 1, 0, 0), (121, .aload_n 0, 0, 0, 0, 0), (122, .dup, 0, 0, 0, 0), (123, .getfield 36, 0, 3, 5, 0), (126, .iconst 1, 3, 1, 0, 0), (127, .iadd, 0, 0, 0, 0), (128, .putfield 36, 0, 3, 5, 0), (131, .iconst 1, 3, 1, 0, 0), (132, .ireturn, 0, 1, 0, 0), (133, .aload_n 0, 0, 0, 0, 0), (134, .invokevirtual 58, 1, 46, 0, 3), (137, .ifCond .ne 5, 0, 142, 0, 0), (140, .iconst 0, 3, 0, 0, 0), (141, .ireturn, 0, 1, 0, 0), (142, .aload_n 0, 0, 0, 0, 0), (143, .invokevirtual 43, 1, 41, 0, 3), (146, .istore 4, 0, 0, 0, 0), (148, .iload 4, 0, 0, 0, 0), (150, .bipush 60, 3, 60, 0, 0), (152, .if_icmp .eq 23, 0, 175, 0, 0), (155, .iload 4, 0, 0, 0, 0), (157, .bipush 61, 3, 61, 0, 0), (159, .if_icmp .eq 16, 0, 175, 0, 0), (162, .iload 4, 0, 0, 0, 0), (164, .bipush 62, 3, 62, 0, 0), (166, .if_icmp .eq 9, 0, 175, 0, 0), (169, .aload_n 0, 0, 0, 0, 0), (170, .iconst 1, 3, 1, 0, 0), (171, .invokevirtual 51, 1, 42, 1, 3), (174, .ireturn, 0, 1, 0, 0), (175, .aload_n 0, 0, 0, 0, 0), (176, .dup, 0, 0, 0, 0), (177, .getfield 36, 0, 3, 5, 0), (180, .iconst 1, 3, 1, 0, 0), (181, .iadd, 0, 0, 0, 0), (182, .putfield 36, 0, 3, 5, 0), (185, .aload_n 0, 0, 0, 0, 0), (186, .invokevirtual 58, 1, 46, 0, 3), (189, .ifCond .ne 5, 0, 194, 0, 0), (192, .iconst 0, 3, 0, 0, 0), (193, .ireturn, 0, 1, 0, 0), (194, .aload_n 0, 0, 0, 0, 0), (195, .getfield 12, 0, 3, 0, 2), (198, .iload 4, 0, 0, 0, 0), (200, .bipush 60, 3, 60, 0, 0), (202, .if_icmp .ne 8, 0, 210, 0, 0), (205, .bipush (-14), 3, 14, 1, 0), (207, .goto 17, 0, 224, 0, 0), (210, .iload 4, 0, 0, 0, 0), (212, .bipush 61, 3, 61, 0, 0), (214, .if_icmp .ne 8, 0, 222, 0, 0), (217, .bipush (-15), 3, 15, 1, 0), (219, .goto 5, 0, 224, 0, 0), (222, .bipush (-16), 3, 16, 1, 0), (224, .invokevirtual 83, 1, 62, 1, 5), (227, .iconst 1, 3, 1, 0, 0), (228, .ireturn, 0, 1, 0, 0)]
set_option maxRecDepth 100000 in
def am_c46 : List am_I := [(0, .aload_n 0, 0, 0, 0, 0), (1, .invokevirtual 89, 1, 47, 0, 3), (4, .ifCond .ne 5, 0, 9, 0, 0), (7, .iconst 0, 3, 0, 0, 0), (8, .ireturn, 0, 1, 0, 0), (9, .iconst 0, 3, 0, 0, 0), (10, .istore_n 1, 0, 0, 0, 0), (11, .iload_n 1, 0, 0, 0, 0), (12, .sipush 400, 3, 400, 0, 0), (15, .if_icmp .ge 71, 0, 86, 0, 0), (18, .aload_n 0, 0, 0, 0, 0), (19, .invokevirtual 43, 1, 41, 0, 3), (22, .bipush 43, 3, 43, 0, 0), (24, .if_icmp .eq 12, 0, 36, 0, 0), (27, .aload_n 0, 0, 0, 0, 0), (28, .invokevirtual 43, 1, 41, 0, 3), (31, .bipush 45, 3, 45, 0, 0), (33, .if_icmp .ne 53, 0, 86, 0, 0), (36, .aload_n 0, 0, 0, 0, 0), (37, .invokevirtual 43, 1, 41, 0, 3), (40, .istore_n 2, 0, 0, 0, 0), (41, .aload_n 0, 0, 0, 0, 0), (42, .dup, 0, 0, 0, 0), (43, .getfield 36, 0, 3, 5, 0), (46, .iconst 1, 3, 1, 0, 0), (47, .iadd, 0, 0, 0, 0), (48, .putfield 36, 0, 3, 5, 0), (51, .aload_n 0, 0, 0, 0, 0), (52, .invokevirtual 89, 1, 47, 0, 3), (55, .ifCond .ne 5, 0, 60, 0, 0), (58, .iconst 0, 3, 0, 0, 0), (59, .ireturn, 0, 1, 0, 0), (60, .aload_n 0, 0, 0, 0, 0), (61, .getfield 12, 0, 3, 0, 2), (64, .iload_n 2, 0, 0, 0, 0), (65, .bipush 43, 3, 43, 0, 0), (67, .if_icmp .ne 8, 0, 75, 0, 0), (70, .bipush (-10), 3, 10, 1, 0), (72, .goto 5, 0, 77, 0, 0), (75, .bipush (-11), 3, 11, 1, 0), (77, .invokevirtual 83, 1, 62, 1, 5), (80, .iinc 1 1, 3, 1, 0, 0), (83, .goto (-72), 0, 11, 0, 0), (86, .iconst 1, 3, 1, 0, 0), (87, .ireturn, 0, 1, 0, 0)]
set_option maxRecDepth 100000 in
def am_c47 : List am_I := [(0, .iconst 0, 3, 0, 0, 0), (1, .istore_n 1, 0, 0, 0, 0), (2, .iconst 0, 3, 0, 0, 0), (3, .istore_n 2, 0, 0, 0, 0), (4, .iload_n 2, 0, 0, 0, 0), (5, .sipush 400, 3, 400, 0, 0), (8, .if_icmp .gt 158, 0, 166, 0, 0), (11, .aload_n 0, 0, 0, 0, 0), (12, .invokevirtual 43, 1, 41, 0, 3), (15, .istore_n 3, 0, 0, 0, 0), (16, .iload_n 3, 0, 0, 0, 0), (17, .iconst 2, 3, 2, 0, 0), (18, .if_icmp .eq 20, 0, 38, 0, 0), (21, .iload_n 3, 0, 0, 0, 0), (22, .iconst 3, 3, 3, 0, 0), (23, .if_icmp .ne 9, 0, 32, 0, 0), (26, .iload_n 1, 0, 0, 0, 0), (27, .bipush 47, 3, 47, 0, 0), (29, .if_icmp .ne 9, 0, 38, 0, 0), (32, .aload_n 0, 0, 0, 0, 0), (33, .iconst 1, 3, 1, 0, 0), (34, .invokevirtual 51, 1, 42, 1, 3), (37, .ireturn, 0, 1, 0, 0), (38, .iload_n 1, 0, 0, 0, 0), (39, .bipush 47, 3, 47, 0, 0), (41, .if_icmp .ne 21, 0, 62, 0, 0), (44, .aload_n 0, 0, 0, 0, 0), (45, .getfield 25, 0, 3, 3, 2), (48, .aload_n 0, 0, 0, 0, 0), (49, .getfield 36, 0, 3, 5, 0), (52, .iaload, 0, 0, 0, 0), (53, .ifCond .ne 9, 0, 62, 0, 0), (56, .aload_n 0, 0, 0, 0, 0), (57, .iconst 2, 3, 2, 0, 0), (58, .invokevirtual 51, 1, 42, 1, 3), (61, .ireturn, 0, 1, 0, 0), (62, .aload_n 0, 0, 0, 0, 0), (63, .getfield 12, 0, 3, 0, 2), (66, .iload_n 3, 0, 0, 0, 0), (67, .iconst 2, 3, 2, 0, 0), (68, .if_icmp .ne 15, 0, 83, 0, 0), (71, .aload_n 0, 0, 0, 0, 0), (72, .getfield 25, 0, 3, 3, 2), (75, .aload_n 0, 0, 0, 0, 0), (76, .getfield 36, 0, 3, 5, 0), (79, .iaload, 0, 0, 0, 0), (80, .goto 14, 0, 94, 0, 0), (83, .iconst (-1), 3, 1, 1, 0), (84, .aload_n 0, 0, 0, 0, 0), (85, .getfield 25, 0, 3, 3, 2), (88, .aload_n 0, 0, 0, 0, 0), (89, .getfield 36, 0, 3, 5, 0), (92, .iaload, 0, 0, 0, 0), (93, .isub, 0, 0, 0, 0), (94, .invokevirtual 83, 1, 62, 1, 5), (97, .aload_n 0, 0, 0, 0, 0), (98, .dup, 0, 0, 0, 0), (99, .getfield 36, 0, 3, 5, 0), (102, .iconst 1, 3, 1, 0, 0), (103, .iadd, 0, 0, 0, 0), (104, .putfield 36, 0, 3, 5, 0), (107, .iload_n 1, 0, 0, 0, 0), (108, .ifCond .eq 23, 0, 131, 0, 0), (111, .aload_n 0, 0, 0, 0, 0), (112, .getfield 12, 0, 3, 0, 2), (115, .iload_n 1, 0, 0, 0, 0), (116, .bipush 42, 3, 42, 0, 0), (118, .if_icmp .ne 8, 0, 126, 0, 0), (121, .bipush (-12), 3, 12, 1, 0), (123, .goto 5, 0, 128, 0, 0), (126, .bipush (-13), 3, 13, 1, 0), (128, .invokevirtual 83, 1, 62, 1, 5), (131, .aload_n 0, 0, 0, 0, 0), (132, .invokevirtual 43, 1, 41, 0, 3), (135, .istore_n 1, 0, 0, 0, 0), (136, .iload_n 1, 0, 0, 0, 0), (137, .bipush 42, 3, 42, 0, 0), (139, .if_icmp .eq 11, 0, 150, 0, 0), (142, .iload_n 1, 0, 0, 0, 0), (143, .bipush 47, 3, 47, 0, 0), (145, .if_icmp .eq 5, 0, 150, 0, 0), (148, .iconst 1, 3, 1, 0, 0), (149, .ireturn, 0, 1, 0, 0), (150, .aload_n 0, 0, 0, 0, 0), (151, .dup, 0, 0, 0, 0), (152, .getfield 36, 0, 3, 5, 0), (155, .iconst 1, 3, 1, 0, 0), (156, .iadd, 0, 0, 0, 0), (157, .putfield 36, 0, 3, 5, 0), (160, .iinc 2 1, 3, 1, 0, 0), (163, .goto (-159), 0, 4, 0, 0), (166, .iconst 0, 3, 0, 0, 0), (167, .ireturn, 0, 1, 0, 0)]
set_option maxRecDepth 100000 in
def am_c48 : List am_I := [(0, .aload_n 0, 0, 0, 0, 0), (1, .iconst 0, 3, 0, 0, 0), (2, .putfield 71, 0, 3, 4, 0), (5, .iconst 0, 3, 0, 0, 0), (6, .istore_n 2, 0, 0, 0, 0), (7, .iconst 0, 3, 0, 0, 0), (8, .istore_n 3, 0, 0, 0, 0), (9, .iload_n 3, 0, 0, 0, 0), (10, .aload_n 1, 0, 0, 0, 0), (11, .getfield 92, 0, 6, 1, 0), (14, .if_icmp .ge 157, 0, 171, 0, 0), (17, .aload_n 1, 0, 0, 0, 0), (18, .getfield 97, 0, 6, 0, 2), (21, .iload_n 3, 0, 0, 0, 0), (22, .iaload, 0, 0, 0, 0), (23, .istore 4, 0, 0, 0, 0), (25, .iload_n 3, 0, 0, 0, 0), (26, .iconst 1, 3, 1, 0, 0), (27, .iadd, 0, 0, 0, 0), (28, .istore_n 2, 0, 0, 0, 0), (29, .iload 4, 0, 0, 0, 0), (31, .invokestatic 100, 1, 49, 1, 99), (34, .ifCond .eq 39, 0, 73, 0, 0), (37, .iload_n 2, 0, 0, 0, 0), (38, .aload_n 1, 0, 0, 0, 0), (39, .getfield 92, 0, 6, 1, 0), (42, .if_icmp .ge 21, 0, 63, 0, 0), (45, .aload_n 1, 0, 0, 0, 0), (46, .getfield 97, 0, 6, 0, 2), (49, .iload_n 2, 0, 0, 0, 0), (50, .iaload, 0, 0, 0, 0), (51, .invokestatic 100, 1, 49, 1, 99), (54, .ifCond .eq 9, 0, 63, 0, 0), (57, .iinc 2 1, 3, 1, 0, 0), (60, .goto (-23), 0, 37, 0, 0), (63, .aload_n 0, 0, 0, 0, 0), (64, .aload_n 1, 0, 0, 0, 0), (65, .iload_n 3, 0, 0, 0, 0), (66, .iload_n 2, 0, 0, 0, 0), (67, .invokevirtual 103, 1, 53, 3, 3), (70, .goto 96, 0, 166, 0, 0), (73, .iload 4, 0, 0, 0, 0), (75, .invokestatic 107, 1, 50, 1, 99), (78, .ifCond .eq 39, 0, 117, 0, 0), (81, .iload_n 2, 0, 0, 0, 0), (82, .aload_n 1, 0, 0, 0, 0), (83, .getfield 92, 0, 6, 1, 0), (86, .if_icmp .ge 21, 0, 107, 0, 0), (89, .aload_n 1, 0, 0, 0, 0), (90, .getfield 97, 0, 6, 0, 2), (93, .iload_n 2, 0, 0, 0, 0), (94, .iaload, 0, 0, 0, 0), (95, .invokestatic 107, 1, 50, 1, 99), (98, .ifCond .eq 9, 0, 107, 0, 0), (101, .iinc 2 1, 3, 1, 0, 0), (104, .goto (-23), 0, 81, 0, 0), (107, .aload_n 0, 0, 0, 0, 0), (108, .aload_n 1, 0, 0, 0, 0), (109, .iload_n 3, 0, 0, 0, 0), (110, .iload_n 2, 0, 0, 0, 0), (111, .invokevirtual 110, 1, 52, 3, 3), (114, .goto 52, 0, 166, 0, 0), (117, .iload 4, 0, 0, 0, 0), (119, .bipush 32, 3, 32, 0, 0), (121, .if_icmp .eq 45, 0, 166, 0, 0), (124, .iload 4, 0, 0, 0, 0), (126, .bipush 10, 3, 10, 0, 0), (128, .if_icmp .eq 38, 0, 166, 0, 0), (131, .ldc 113, 4, 20, 0, 0), (133, .iload 4, 0, 0, 0, 0), (135, .i2c, 0, 0, 0, 0), (136, .invokevirtual 115, 1, 243, 1, 20), (139, .ifCond .lt 7, 0, 146, 0, 0), (142, .iconst 1, 3, 1, 0, 0), (143, .goto 4, 0, 147, 0, 0), (146, .iconst 0, 3, 0, 0, 0), (147, .istore 5, 0, 0, 0, 0), (149, .aload_n 0, 0, 0, 0, 0), (150, .iload 5, 0, 0, 0, 0), (152, .ifCond .eq 8, 0, 160, 0, 0), (155, .iload 4, 0, 0, 0, 0), (157, .goto 4, 0, 161, 0, 0), (160, .iconst 1, 3, 1, 0, 0), (161, .iload_n 3, 0, 0, 0, 0), (162, .iconst 0, 3, 0, 0, 0), (163, .invokevirtual 121, 1, 51, 3, 3), (166, .iload_n 2, 0, 0, 0, 0), (167, .istore_n 3, 0, 0, 0, 0), (168, .goto (-159), 0, 9, 0, 0), (171, .aload_n 0, 0, 0, 0, 0), (172, .iconst 0, 3, 0, 0, 0), (173, .aload_n 1, 0, 0, 0, 0), (174, .getfield 92, 0, 6, 1, 0), (177, .iconst 0, 3, 0, 0, 0), (178, .invokevirtual 121, 1, 51, 3, 3), (181, .return_, 0, 0, 0, 0)]
set_option maxRecDepth 100000 in
def am_c49 : List am_I := [(0, .iload_n 0, 0, 0, 0, 0), (1, .bipush 97, 3, 97, 0, 0), (3, .if_icmp .lt 9, 0, 12, 0, 0), (6, .iload_n 0, 0, 0, 0, 0), (7, .bipush 122, 3, 122, 0, 0), (9, .if_icmp .le 15, 0, 24, 0, 0), (12, .iload_n 0, 0, 0, 0, 0), (13, .bipush 65, 3, 65, 0, 0), (15, .if_icmp .lt 13, 0, 28, 0, 0), (18, .iload_n 0, 0, 0, 0, 0), (19, .bipush 90, 3, 90, 0, 0), (21, .if_icmp .gt 7, 0, 28, 0, 0), (24, .iconst 1, 3, 1, 0, 0), (25, .goto 4, 0, 29, 0, 0), (28, .iconst 0, 3, 0, 0, 0), (29, .ireturn, 0, 1, 0, 0)]
set_option maxRecDepth 100000 in
def am_c50 : List am_I := [(0, .iload_n 0, 0, 0, 0, 0), (1, .bipush 48, 3, 48, 0, 0), (3, .if_icmp .lt 13, 0, 16, 0, 0), (6, .iload_n 0, 0, 0, 0, 0), (7, .bipush 57, 3, 57, 0, 0), (9, .if_icmp .gt 7, 0, 16, 0, 0), (12, .iconst 1, 3, 1, 0, 0), (13, .goto 4, 0, 17, 0, 0), (16, .iconst 0, 3, 0, 0, 0), (17, .ireturn, 0, 1, 0, 0)]
set_option maxRecDepth 100000 in
def am_c51 : List am_I := [(0, .aload_n 0, 0, 0, 0, 0), (1, .getfield 71, 0, 3, 4, 0), (4, .aload_n 0, 0, 0, 0, 0), (5, .getfield 18, 0, 3, 1, 2), (8, .arraylength, 0, 0, 0, 0), (9, .if_icmp .ge 43, 0, 52, 0, 0), (12, .aload_n 0, 0, 0, 0, 0), (13, .getfield 18, 0, 3, 1, 2), (16, .aload_n 0, 0, 0, 0, 0), (17, .getfield 71, 0, 3, 4, 0), (20, .iload_n 1, 0, 0, 0, 0), (21, .iastore, 0, 0, 0, 0), (22, .aload_n 0, 0, 0, 0, 0), (23, .getfield 22, 0, 3, 2, 2), (26, .aload_n 0, 0, 0, 0, 0), (27, .getfield 71, 0, 3, 4, 0), (30, .iload_n 2, 0, 0, 0, 0), (31, .iastore, 0, 0, 0, 0), (32, .aload_n 0, 0, 0, 0, 0), (33, .getfield 25, 0, 3, 3, 2), (36, .aload_n 0, 0, 0, 0, 0), (37, .getfield 71, 0, 3, 4, 0), (40, .iload_n 3, 0, 0, 0, 0), (41, .iastore, 0, 0, 0, 0), (42, .aload_n 0, 0, 0, 0, 0), (43, .dup, 0, 0, 0, 0), (44, .getfield 71, 0, 3, 4, 0), (47, .iconst 1, 3, 1, 0, 0), (48, .iadd, 0, 0, 0, 0), (49, .putfield 71, 0, 3, 4, 0), (52, .return_, 0, 0, 0, 0)]
set_option maxRecDepth 100000 in
def am_c52 : List am_I := [(0, .iload_n 3, 0, 0, 0, 0), (1, .iload_n 2, 0, 0, 0, 0), (2, .isub, 0, 0, 0, 0), (3, .iconst 5, 3, 5, 0, 0), (4, .if_icmp .le 11, 0, 15, 0, 0), (7, .aload_n 0, 0, 0, 0, 0), (8, .iconst 1, 3, 1, 0, 0), (9, .iload_n 2, 0, 0, 0, 0), (10, .iconst 0, 3, 0, 0, 0), (11, .invokevirtual 121, 1, 51, 3, 3), (14, .return_, 0, 0, 0, 0), (15, .iconst 0, 3, 0, 0, 0), (16, .istore 4, 0, 0, 0, 0), (18, .iload_n 2, 0, 0, 0, 0), (19, .istore 5, 0, 0, 0, 0), (21, .iload 5, 0, 0, 0, 0), (23, .iload_n 3, 0, 0, 0, 0), (24, .if_icmp .ge 27, 0, 51, 0, 0), (27, .iload 4, 0, 0, 0, 0), (29, .bipush 10, 3, 10, 0, 0), (31, .imul, 0, 0, 0, 0), (32, .aload_n 1, 0, 0, 0, 0), (33, .getfield 97, 0, 6, 0, 2), (36, .iload 5, 0, 0, 0, 0), (38, .iaload, 0, 0, 0, 0), (39, .iadd, 0, 0, 0, 0), (40, .bipush 48, 3, 48, 0, 0), (42, .isub, 0, 0, 0, 0), (43, .istore 4, 0, 0, 0, 0), (45, .iinc 5 1, 3, 1, 0, 0), (48, .goto (-27), 0, 21, 0, 0), (51, .aload_n 0, 0, 0, 0, 0), (52, .iconst 2, 3, 2, 0, 0), (53, .iload_n 2, 0, 0, 0, 0), (54, .iload 4, 0, 0, 0, 0), (56, .invokevirtual 121, 1, 51, 3, 3), (59, .return_, 0, 0, 0, 0)]
set_option maxRecDepth 100000 in
def am_c53 : List am_I := [(0, .iconst 0, 3, 0, 0, 0), (1, .istore 4, 0, 0, 0, 0), (3, .iload 4, 0, 0, 0, 0), (5, .bipush 14, 3, 14, 0, 0), (7, .if_icmp .ge 90, 0, 97, 0, 0), (10, .aload_n 1, 0, 0, 0, 0), (11, .iload_n 2, 0, 0, 0, 0), (12, .iload_n 3, 0, 0, 0, 0), (13, .aload_n 0, 0, 0, 0, 0), (14, .getfield 28, 0, 3, 6, 1), (17, .ifCond .eq 11, 0, 28, 0, 0), (20, .iload 4, 0, 0, 0, 0), (22, .invokestatic 125, 1, 56, 1, 99), (25, .goto 8, 0, 33, 0, 0), (28, .iload 4, 0, 0, 0, 0), (30, .invokestatic 129, 1, 55, 1, 99), (33, .invokestatic 132, 1, 54, 4, 99), (36, .ifCond .eq 55, 0, 91, 0, 0), (39, .iload 4, 0, 0, 0, 0), (41, .bipush 7, 3, 7, 0, 0), (43, .if_icmp .lt 7, 0, 50, 0, 0), (46, .iconst 1, 3, 1, 0, 0), (47, .goto 4, 0, 51, 0, 0), (50, .iconst 0, 3, 0, 0, 0), (51, .istore 5, 0, 0, 0, 0), (53, .iload 5, 0, 0, 0, 0), (55, .ifCond .eq 7, 0, 62, 0, 0), (58, .iconst 3, 3, 3, 0, 0), (59, .goto 8, 0, 67, 0, 0), (62, .bipush 100, 3, 100, 0, 0), (64, .iload 4, 0, 0, 0, 0), (66, .iadd, 0, 0, 0, 0), (67, .istore 6, 0, 0, 0, 0), (69, .aload_n 0, 0, 0, 0, 0), (70, .iload 6, 0, 0, 0, 0), (72, .iload_n 2, 0, 0, 0, 0), (73, .iload 5, 0, 0, 0, 0), (75, .ifCond .eq 11, 0, 86, 0, 0), (78, .iload 4, 0, 0, 0, 0), (80, .bipush 7, 3, 7, 0, 0), (82, .isub, 0, 0, 0, 0), (83, .goto 4, 0, 87, 0, 0), (86, .iconst 0, 3, 0, 0, 0), (87, .invokevirtual 121, 1, 51, 3, 3), (90, .return_, 0, 0, 0, 0), (91, .iinc 4 1, 3, 1, 0, 0), (94, .goto (-91), 0, 3, 0, 0), (97, .aload_n 0, 0, 0, 0, 0), (98, .iconst 1, 3, 1, 0, 0), (99, .iload_n 2, 0, 0, 0, 0), (100, .iconst 0, 3, 0, 0, 0), (101, .invokevirtual 121, 1, 51, 3, 3), (104, .return_, 0, 0, 0, 0)]
set_option maxRecDepth 100000 in
def am_c54 : List am_I := [(0, .aload_n 3, 0, 0, 0, 0), (1, .invokevirtual 136, 1, 241, 0, 20), (4, .iload_n 2, 0, 0, 0, 0), (5, .iload_n 1, 0, 0, 0, 0), (6, .isub, 0, 0, 0, 0), (7, .if_icmp .eq 5, 0, 12, 0, 0), (10, .iconst 0, 3, 0, 0, 0), (11, .ireturn, 0, 1, 0, 0), (12, .iload_n 1, 0, 0, 0, 0), (13, .istore 4, 0, 0, 0, 0), (15, .iload 4, 0, 0, 0, 0), (17, .iload_n 2, 0, 0, 0, 0), (18, .if_icmp .ge 29, 0, 47, 0, 0), (21, .aload_n 0, 0, 0, 0, 0), (22, .getfield 97, 0, 6, 0, 2), (25, .iload 4, 0, 0, 0, 0), (27, .iaload, 0, 0, 0, 0), (28, .aload_n 3, 0, 0, 0, 0), (29, .iload 4, 0, 0, 0, 0), (31, .iload_n 1, 0, 0, 0, 0), (32, .isub, 0, 0, 0, 0), (33, .invokevirtual 138, 1, 242, 1, 20), (36, .if_icmp .eq 5, 0, 41, 0, 0), (39, .iconst 0, 3, 0, 0, 0), (40, .ireturn, 0, 1, 0, 0), (41, .iinc 4 1, 3, 1, 0, 0), (44, .goto (-29), 0, 15, 0, 0), (47, .iconst 1, 3, 1, 0, 0), (48, .ireturn, 0, 1, 0, 0)]
set_option maxRecDepth 100000 in
def am_c55 : List am_I := [(0, .iload_n 0, 0, 0, 0, 0), (1, .tableswitch 113 0 13 #[71, 74, 77, 80, 83, 86, 89, 92, 95, 98, 101, 104, 107, 110], 0, 0, 0, 0), (72, .ldc 142, 4, 0, 0, 0), (74, .areturn, 0, 0, 0, 0), (75, .ldc 144, 4, 1, 0, 0), (77, .areturn, 0, 0, 0, 0), (78, .ldc 146, 4, 2, 0, 0), (80, .areturn, 0, 0, 0, 0), (81, .ldc 148, 4, 3, 0, 0), (83, .areturn, 0, 0, 0, 0), (84, .ldc 150, 4, 4, 0, 0), (86, .areturn, 0, 0, 0, 0), (87, .ldc 152, 4, 5, 0, 0), (89, .areturn, 0, 0, 0, 0), (90, .ldc 154, 4, 6, 0, 0), (92, .areturn, 0, 0, 0, 0), (93, .ldc 156, 4, 7, 0, 0), (95, .areturn, 0, 0, 0, 0), (96, .ldc 158, 4, 8, 0, 0), (98, .areturn, 0, 0, 0, 0), (99, .ldc 160, 4, 9, 0, 0), (101, .areturn, 0, 0, 0, 0), (102, .ldc 162, 4, 10, 0, 0), (104, .areturn, 0, 0, 0, 0), (105, .ldc 164, 4, 11, 0, 0), (107, .areturn, 0, 0, 0, 0), (108, .ldc 166, 4, 12, 0, 0), (110, .areturn, 0, 0, 0, 0), (111, .ldc 168, 4, 13, 0, 0), (113, .areturn, 0, 0, 0, 0), (114, .ldc 170, 4, 19, 0, 0), (116, .areturn, 0, 0, 0, 0)]
set_option maxRecDepth 100000 in
def am_c56 : List am_I := [(0, .iload_n 0, 0, 0, 0, 0), (1, .tableswitch 107 0 13 #[71, 107, 107, 74, 77, 80, 83, 86, 89, 92, 95, 98, 101, 104], 0, 0, 0, 0), (72, .ldc 172, 4, 14, 0, 0), (74, .areturn, 0, 0, 0, 0), (75, .ldc 148, 4, 3, 0, 0), (77, .areturn, 0, 0, 0, 0), (78, .ldc 150, 4, 4, 0, 0), (80, .areturn, 0, 0, 0, 0), (81, .ldc 152, 4, 5, 0, 0), (83, .areturn, 0, 0, 0, 0), (84, .ldc 154, 4, 6, 0, 0), (86, .areturn, 0, 0, 0, 0), (87, .ldc 174, 4, 15, 0, 0), (89, .areturn, 0, 0, 0, 0), (90, .ldc 168, 4, 13, 0, 0), (92, .areturn, 0, 0, 0, 0), (93, .ldc 176, 4, 16, 0, 0), (95, .areturn, 0, 0, 0, 0), (96, .ldc 178, 4, 17, 0, 0), (98, .areturn, 0, 0, 0, 0), (99, .ldc 166, 4, 12, 0, 0), (101, .areturn, 0, 0, 0, 0), (102, .ldc 180, 4, 18, 0, 0), (104, .areturn, 0, 0, 0, 0), (105, .ldc 158, 4, 8, 0, 0), (107, .areturn, 0, 0, 0, 0), (108, .ldc 170, 4, 19, 0, 0), (110, .areturn, 0, 0, 0, 0)]
set_option maxRecDepth 100000 in
def am_c57 : List am_I := [(0, .aload_n 0, 0, 0, 0, 0), (1, .invokespecial 3, 8, 0, 0, 0), (4, .aload_n 0, 0, 0, 0, 0), (5, .bipush 16, 3, 16, 0, 0), (7, .newarray .int, 0, 0, 0, 0), (9, .putfield 9, 0, 4, 0, 2), (12, .aload_n 0, 0, 0, 0, 0), (13, .iconst 4, 3, 4, 0, 0), (14, .newarray .int, 0, 0, 0, 0), (16, .putfield 15, 0, 4, 1, 2), (19, .return_, 0, 0, 0, 0)]
set_option maxRecDepth 100000 in
def am_c58 : List am_I := [(0, .aload_n 0, 0, 0, 0, 0), (1, .iconst (-1), 3, 1, 1, 0), (2, .putfield 18, 0, 4, 2, 0), (5, .aload_n 0, 0, 0, 0, 0), (6, .iconst (-1), 3, 1, 1, 0), (7, .putfield 22, 0, 4, 3, 0), (10, .iload_n 1, 0, 0, 0, 0), (11, .iconst 2, 3, 2, 0, 0), (12, .if_icmp .lt 8, 0, 20, 0, 0), (15, .iload_n 1, 0, 0, 0, 0), (16, .iconst 4, 3, 4, 0, 0), (17, .if_icmp .le 4, 0, 21, 0, 0), (20, .return_, 0, 0, 0, 0), (21, .iconst 1, 3, 1, 0, 0), (22, .iconst 2, 3, 2, 0, 0), (23, .iload_n 1, 0, 0, 0, 0), (24, .imul, 0, 0, 0, 0), (25, .ishl, 0, 0, 0, 0), (26, .istore_n 2, 0, 0, 0, 0), (27, .iconst 0, 3, 0, 0, 0), (28, .istore_n 3, 0, 0, 0, 0), (29, .iload_n 3, 0, 0, 0, 0), (30, .iload_n 2, 0, 0, 0, 0), (31, .if_icmp .ge 106, 0, 137, 0, 0), (34, .aload_n 0, 0, 0, 0, 0), (35, .iload_n 3, 0, 0, 0, 0), (36, .iload_n 1, 0, 0, 0, 0), (37, .invokevirtual 25, 1, 59, 2, 4), (40, .ifCond .eq 91, 0, 131, 0, 0), (43, .iconst 0, 3, 0, 0, 0), (44, .istore 4, 0, 0, 0, 0), (46, .iconst 0, 3, 0, 0, 0), (47, .istore 5, 0, 0, 0, 0), (49, .iconst 0, 3, 0, 0, 0), (50, .istore 6, 0, 0, 0, 0), (52, .iload 6, 0, 0, 0, 0), (54, .iload_n 1, 0, 0, 0, 0), (55, .if_icmp .ge 55, 0, 110, 0, 0), (58, .iload 4, 0, 0, 0, 0), (60, .aload_n 0, 0, 0, 0, 0), (61, .getfield 9, 0, 4, 0, 2), (64, .aload_n 0, 0, 0, 0, 0), (65, .getfield 15, 0, 4, 1, 2), (68, .iload 6, 0, 0, 0, 0), (70, .iaload, 0, 0, 0, 0), (71, .iconst 4, 3, 4, 0, 0), (72, .imul, 0, 0, 0, 0), (73, .aload_n 0, 0, 0, 0, 0), (74, .getfield 15, 0, 4, 1, 2), (77, .iload 6, 0, 0, 0, 0), (79, .iconst 1, 3, 1, 0, 0), (80, .iadd, 0, 0, 0, 0), (81, .iload_n 1, 0, 0, 0, 0), (82, .irem, 0, 0, 0, 0), (83, .iaload, 0, 0, 0, 0), (84, .iadd, 0, 0, 0, 0), (85, .iaload, 0, 0, 0, 0), (86, .iadd, 0, 0, 0, 0), (87, .istore 4, 0, 0, 0, 0), (89, .iload 5, 0, 0, 0, 0), (91, .bipush 10, 3, 10, 0, 0), (93, .imul, 0, 0, 0, 0), (94, .aload_n 0, 0, 0, 0, 0), (95, .getfield 15, 0, 4, 1, 2), (98, .iload 6, 0, 0, 0, 0), (100, .iaload, 0, 0, 0, 0), (101, .iadd, 0, 0, 0, 0), (102, .istore 5, 0, 0, 0, 0), (104, .iinc 6 1, 3, 1, 0, 0), (107, .goto (-55), 0, 52, 0, 0), (110, .iload 4, 0, 0, 0, 0), (112, .aload_n 0, 0, 0, 0, 0), (113, .getfield 18, 0, 4, 2, 0), (116, .if_icmp .le 15, 0, 131, 0, 0), (119, .aload_n 0, 0, 0, 0, 0), (120, .iload 4, 0, 0, 0, 0), (122, .putfield 18, 0, 4, 2, 0), (125, .aload_n 0, 0, 0, 0, 0), (126, .iload 5, 0, 0, 0, 0), (128, .putfield 22, 0, 4, 3, 0), (131, .iinc 3 1, 3, 1, 0, 0), (134, .goto (-105), 0, 29, 0, 0), (137, .return_, 0, 0, 0, 0)]
set_option maxRecDepth 100000 in
def am_c59 : List am_I := [(0, .iconst 0, 3, 0, 0, 0), (1, .istore_n 3, 0, 0, 0, 0), (2, .iconst 0, 3, 0, 0, 0), (3, .istore 4, 0, 0, 0, 0), (5, .iload 4, 0, 0, 0, 0), (7, .iload_n 2, 0, 0, 0, 0), (8, .if_icmp .ge 40, 0, 48, 0, 0), (11, .aload_n 0, 0, 0, 0, 0), (12, .getfield 15, 0, 4, 1, 2), (15, .iload 4, 0, 0, 0, 0), (17, .iload_n 1, 0, 0, 0, 0), (18, .iconst 2, 3, 2, 0, 0), (19, .iload_n 2, 0, 0, 0, 0), (20, .iconst 1, 3, 1, 0, 0), (21, .isub, 0, 0, 0, 0), (22, .iload 4, 0, 0, 0, 0), (24, .isub, 0, 0, 0, 0), (25, .imul, 0, 0, 0, 0), (26, .ishr, 0, 0, 0, 0), (27, .iconst 3, 3, 3, 0, 0), (28, .iand, 0, 0, 0, 0), (29, .iastore, 0, 0, 0, 0), (30, .iload_n 3, 0, 0, 0, 0), (31, .iconst 1, 3, 1, 0, 0), (32, .aload_n 0, 0, 0, 0, 0), (33, .getfield 15, 0, 4, 1, 2), (36, .iload 4, 0, 0, 0, 0), (38, .iaload, 0, 0, 0, 0), (39, .ishl, 0, 0, 0, 0), (40, .ior, 0, 0, 0, 0), (41, .istore_n 3, 0, 0, 0, 0), (42, .iinc 4 1, 3, 1, 0, 0), (45, .goto (-40), 0, 5, 0, 0), (48, .iload_n 3, 0, 0, 0, 0), (49, .invokestatic 29, 1, 257, 1, 99), (52, .iload_n 2, 0, 0, 0, 0), (53, .if_icmp .ne 7, 0, 60, 0, 0), (56, .iconst 1, 3, 1, 0, 0), (57, .goto 4, 0, 61, 0, 0), (60, .iconst 0, 3, 0, 0, 0), (61, .ireturn, 0, 1, 0, 0)]
set_option maxRecDepth 100000 in
def am_c60 : List am_I := [(0, .aload_n 0, 0, 0, 0, 0), (1, .invokespecial 3, 8, 0, 0, 0), (4, .aload_n 0, 0, 0, 0, 0), (5, .sipush 400, 3, 400, 0, 0), (8, .newarray .int, 0, 0, 0, 0), (10, .putfield 9, 0, 5, 0, 2), (13, .aload_n 0, 0, 0, 0, 0), (14, .bipush 12, 3, 12, 0, 0), (16, .newarray .int, 0, 0, 0, 0), (18, .putfield 15, 0, 5, 1, 2), (21, .aload_n 0, 0, 0, 0, 0), (22, .bipush 12, 3, 12, 0, 0), (24, .newarray .int, 0, 0, 0, 0), (26, .putfield 18, 0, 5, 2, 2), (29, .aload_n 0, 0, 0, 0, 0), (30, .bipush 12, 3, 12, 0, 0), (32, .newarray .int, 0, 0, 0, 0), (34, .putfield 21, 0, 5, 3, 2), (37, .aload_n 0, 0, 0, 0, 0), (38, .bipush 12, 3, 12, 0, 0), (40, .newarray .int, 0, 0, 0, 0), (42, .putfield 24, 0, 5, 4, 2), (45, .aload_n 0, 0, 0, 0, 0), (46, .bipush 32, 3, 32, 0, 0), (48, .newarray .int, 0, 0, 0, 0), (50, .putfield 27, 0, 5, 5, 2), (53, .return_, 0, 0, 0, 0)]
set_option maxRecDepth 100000 in
def am_c61 : List am_I := [(0, .aload_n 0, 0, 0, 0, 0), (1, .iconst 0, 3, 0, 0, 0), (2, .putfield 30, 0, 5, 6, 0), (5, .aload_n 0, 0, 0, 0, 0), (6, .iconst 0, 3, 0, 0, 0), (7, .putfield 34, 0, 5, 7, 0), (10, .return_, 0, 0, 0, 0)]
set_option maxRecDepth 100000 in
def am_c62 : List am_I := [(0, .aload_n 0, 0, 0, 0, 0), (1, .getfield 34, 0, 5, 7, 0), (4, .aload_n 0, 0, 0, 0, 0), (5, .getfield 9, 0, 5, 0, 2), (8, .arraylength, 0, 0, 0, 0), (9, .if_icmp .ge 23, 0, 32, 0, 0), (12, .aload_n 0, 0, 0, 0, 0), (13, .getfield 9, 0, 5, 0, 2), (16, .aload_n 0, 0, 0, 0, 0), (17, .getfield 34, 0, 5, 7, 0), (20, .iload_n 1, 0, 0, 0, 0), (21, .iastore, 0, 0, 0, 0), (22, .aload_n 0, 0, 0, 0, 0), (23, .dup, 0, 0, 0, 0), (24, .getfield 34, 0, 5, 7, 0), (27, .iconst 1, 3, 1, 0, 0), (28, .iadd, 0, 0, 0, 0), (29, .putfield 34, 0, 5, 7, 0), (32, .return_, 0, 0, 0, 0)]
set_option maxRecDepth 100000 in
def am_c63 : List am_I := [(0, .aload_n 0, 0, 0, 0, 0), (1, .getfield 30, 0, 5, 6, 0), (4, .bipush 12, 3, 12, 0, 0), (6, .if_icmp .ge 26, 0, 32, 0, 0), (9, .aload_n 0, 0, 0, 0, 0), (10, .getfield 15, 0, 5, 1, 2), (13, .aload_n 0, 0, 0, 0, 0), (14, .getfield 30, 0, 5, 6, 0), (17, .iload_n 1, 0, 0, 0, 0), (18, .iastore, 0, 0, 0, 0), (19, .aload_n 0, 0, 0, 0, 0), (20, .getfield 18, 0, 5, 2, 2), (23, .aload_n 0, 0, 0, 0, 0), (24, .getfield 30, 0, 5, 6, 0), (27, .aload_n 0, 0, 0, 0, 0), (28, .getfield 34, 0, 5, 7, 0), (31, .iastore, 0, 0, 0, 0), (32, .return_, 0, 0, 0, 0)]
set_option maxRecDepth 100000 in
def am_c64 : List am_I := [(0, .aload_n 0, 0, 0, 0, 0), (1, .getfield 30, 0, 5, 6, 0), (4, .bipush 12, 3, 12, 0, 0), (6, .if_icmp .ge 16, 0, 22, 0, 0), (9, .aload_n 0, 0, 0, 0, 0), (10, .getfield 21, 0, 5, 3, 2), (13, .aload_n 0, 0, 0, 0, 0), (14, .getfield 30, 0, 5, 6, 0), (17, .aload_n 0, 0, 0, 0, 0), (18, .getfield 34, 0, 5, 7, 0), (21, .iastore, 0, 0, 0, 0), (22, .return_, 0, 0, 0, 0)]
set_option maxRecDepth 100000 in
def am_c65 : List am_I := [(0, .aload_n 0, 0, 0, 0, 0), (1, .getfield 30, 0, 5, 6, 0), (4, .bipush 12, 3, 12, 0, 0), (6, .if_icmp .ge 26, 0, 32, 0, 0), (9, .aload_n 0, 0, 0, 0, 0), (10, .getfield 24, 0, 5, 4, 2), (13, .aload_n 0, 0, 0, 0, 0), (14, .getfield 30, 0, 5, 6, 0), (17, .aload_n 0, 0, 0, 0, 0), (18, .getfield 34, 0, 5, 7, 0), (21, .iastore, 0, 0, 0, 0), (22, .aload_n 0, 0, 0, 0, 0), (23, .dup, 0, 0, 0, 0), (24, .getfield 30, 0, 5, 6, 0), (27, .iconst 1, 3, 1, 0, 0), (28, .iadd, 0, 0, 0, 0), (29, .putfield 30, 0, 5, 6, 0), (32, .return_, 0, 0, 0, 0)]
set_option maxRecDepth 100000 in
def am_c66 : List am_I := [(0, .aload_n 0, 0, 0, 0, 0), (1, .aload_n 1, 0, 0, 0, 0), (2, .getfield 30, 0, 5, 6, 0), (5, .putfield 30, 0, 5, 6, 0), (8, .aload_n 0, 0, 0, 0, 0), (9, .aload_n 1, 0, 0, 0, 0), (10, .getfield 34, 0, 5, 7, 0), (13, .putfield 34, 0, 5, 7, 0), (16, .aload_n 1, 0, 0, 0, 0), (17, .getfield 9, 0, 5, 0, 2), (20, .iconst 0, 3, 0, 0, 0), (21, .aload_n 0, 0, 0, 0, 0), (22, .getfield 9, 0, 5, 0, 2), (25, .iconst 0, 3, 0, 0, 0), (26, .sipush 400, 3, 400, 0, 0), (29, .invokestatic 37, 7, 0, 0, 0), (32, .aload_n 1, 0, 0, 0, 0), (33, .getfield 15, 0, 5, 1, 2), (36, .iconst 0, 3, 0, 0, 0), (37, .aload_n 0, 0, 0, 0, 0), (38, .getfield 15, 0, 5, 1, 2), (41, .iconst 0, 3, 0, 0, 0), (42, .bipush 12, 3, 12, 0, 0), (44, .invokestatic 37, 7, 0, 0, 0), (47, .aload_n 1, 0, 0, 0, 0), (48, .getfield 18, 0, 5, 2, 2), (51, .iconst 0, 3, 0, 0, 0), (52, .aload_n 0, 0, 0, 0, 0), (53, .getfield 18, 0, 5, 2, 2), (56, .iconst 0, 3, 0, 0, 0), (57, .bipush 12, 3, 12, 0, 0), (59, .invokestatic 37, 7, 0, 0, 0), (62, .aload_n 1, 0, 0, 0, 0), (63, .getfield 21, 0, 5, 3, 2), (66, .iconst 0, 3, 0, 0, 0), (67, .aload_n 0, 0, 0, 0, 0), (68, .getfield 21, 0, 5, 3, 2), (71, .iconst 0, 3, 0, 0, 0), (72, .bipush 12, 3, 12, 0, 0), (74, .invokestatic 37, 7, 0, 0, 0), (77, .aload_n 1, 0, 0, 0, 0), (78, .getfield 24, 0, 5, 4, 2), (81, .iconst 0, 3, 0, 0, 0), (82, .aload_n 0, 0, 0, 0, 0), (83, .getfield 24, 0, 5, 4, 2), (86, .iconst 0, 3, 0, 0, 0), (87, .bipush 12, 3, 12, 0, 0), (89, .invokestatic 37, 7, 0, 0, 0), (92, .return_, 0, 0, 0, 0)]
set_option maxRecDepth 100000 in
def am_c67 : List am_I := [(0, .iconst 0, 3, 0, 0, 0), (1, .istore_n 3, 0, 0, 0, 0), (2, .iload_n 3, 0, 0, 0, 0), (3, .aload_n 0, 0, 0, 0, 0), (4, .getfield 30, 0, 5, 6, 0), (7, .if_icmp .ge 46, 0, 53, 0, 0), (10, .aload_n 0, 0, 0, 0, 0), (11, .getfield 15, 0, 5, 1, 2), (14, .iload_n 3, 0, 0, 0, 0), (15, .iaload, 0, 0, 0, 0), (16, .iload_n 1, 0, 0, 0, 0), (17, .if_icmp .ne 30, 0, 47, 0, 0), (20, .aload_n 0, 0, 0, 0, 0), (21, .iload_n 3, 0, 0, 0, 0), (22, .aload_n 2, 0, 0, 0, 0), (23, .invokevirtual 43, 1, 69, 2, 5), (26, .ifCond .eq 21, 0, 47, 0, 0), (29, .aload_n 0, 0, 0, 0, 0), (30, .aload_n 0, 0, 0, 0, 0), (31, .getfield 18, 0, 5, 2, 2), (34, .iload_n 3, 0, 0, 0, 0), (35, .iaload, 0, 0, 0, 0), (36, .aload_n 0, 0, 0, 0, 0), (37, .getfield 21, 0, 5, 3, 2), (40, .iload_n 3, 0, 0, 0, 0), (41, .iaload, 0, 0, 0, 0), (42, .aload_n 2, 0, 0, 0, 0), (43, .invokevirtual 47, 1, 70, 3, 5), (46, .ireturn, 0, 0, 0, 0), (47, .iinc 3 1, 3, 1, 0, 0), (50, .goto (-48), 0, 2, 0, 0), (53, .iconst 0, 3, 0, 0, 0), (54, .ireturn, 0, 0, 0, 0)]
set_option maxRecDepth 100000 in
def am_c68 : List am_I := [(0, .iconst 0, 3, 0, 0, 0), (1, .istore_n 2, 0, 0, 0, 0), (2, .iload_n 2, 0, 0, 0, 0), (3, .aload_n 0, 0, 0, 0, 0), (4, .getfield 30, 0, 5, 6, 0), (7, .if_icmp .ge 20, 0, 27, 0, 0), (10, .aload_n 0, 0, 0, 0, 0), (11, .iload_n 2, 0, 0, 0, 0), (12, .aload_n 1, 0, 0, 0, 0), (13, .invokevirtual 43, 1, 69, 2, 5), (16, .ifCond .eq 5, 0, 21, 0, 0), (19, .iconst 1, 3, 1, 0, 0), (20, .ireturn, 0, 1, 0, 0), (21, .iinc 2 1, 3, 1, 0, 0), (24, .goto (-22), 0, 2, 0, 0), (27, .iconst 0, 3, 0, 0, 0), (28, .ireturn, 0, 1, 0, 0)]
set_option maxRecDepth 100000 in
def am_c69 : List am_I := [(0, .aload_n 0, 0, 0, 0, 0), (1, .getfield 21, 0, 5, 3, 2), (4, .iload_n 1, 0, 0, 0, 0), (5, .iaload, 0, 0, 0, 0), (6, .aload_n 0, 0, 0, 0, 0), (7, .getfield 24, 0, 5, 4, 2), (10, .iload_n 1, 0, 0, 0, 0), (11, .iaload, 0, 0, 0, 0), (12, .if_icmp .ne 7, 0, 19, 0, 0), (15, .iconst 1, 3, 1, 0, 0), (16, .goto 4, 0, 20, 0, 0), (19, .iconst 0, 3, 0, 0, 0), (20, .istore_n 3, 0, 0, 0, 0), (21, .iload_n 3, 0, 0, 0, 0), (22, .ifCond .ne 23, 0, 45, 0, 0), (25, .aload_n 0, 0, 0, 0, 0), (26, .aload_n 0, 0, 0, 0, 0), (27, .getfield 21, 0, 5, 3, 2), (30, .iload_n 1, 0, 0, 0, 0), (31, .iaload, 0, 0, 0, 0), (32, .aload_n 0, 0, 0, 0, 0), (33, .getfield 24, 0, 5, 4, 2), (36, .iload_n 1, 0, 0, 0, 0), (37, .iaload, 0, 0, 0, 0), (38, .aload_n 2, 0, 0, 0, 0), (39, .invokevirtual 47, 1, 70, 3, 5), (42, .ifCond .eq 7, 0, 49, 0, 0), (45, .iconst 1, 3, 1, 0, 0), (46, .goto 4, 0, 50, 0, 0), (49, .iconst 0, 3, 0, 0, 0), (50, .ireturn, 0, 1, 0, 0)]
set_option maxRecDepth 100000 in
def am_c70 : List am_I := [(0, .iconst 0, 3, 0, 0, 0), (1, .istore 4, 0, 0, 0, 0), (3, .iload_n 1, 0, 0, 0, 0), (4, .istore 5, 0, 0, 0, 0), (6, .iload 5, 0, 0, 0, 0), (8, .iload_n 2, 0, 0, 0, 0), (9, .if_icmp .ge 303, 0, 312, 0, 0), (12, .aload_n 0, 0, 0, 0, 0), (13, .getfield 9, 0, 5, 0, 2), (16, .iload 5, 0, 0, 0, 0), (18, .iaload, 0, 0, 0, 0), (19, .istore 6, 0, 0, 0, 0), (21, .iload 6, 0, 0, 0, 0), (23, .bipush (-7), 3, 7, 1, 0), (25, .if_icmp .lt 41, 0, 66, 0, 0), (28, .iload 4, 0, 0, 0, 0), (30, .bipush 32, 3, 32, 0, 0), (32, .if_icmp .lt 5, 0, 37, 0, 0), (35, .iconst 0, 3, 0, 0, 0), (36, .ireturn, 0, 0, 0, 0), (37, .aload_n 0, 0, 0, 0, 0), (38, .getfield 27, 0, 5, 5, 2), (41, .iload 4, 0, 0, 0, 0), (43, .iload 6, 0, 0, 0, 0), (45, .ifCond .lt 8, 0, 53, 0, 0), (48, .iload 6, 0, 0, 0, 0), (50, .goto 9, 0, 59, 0, 0), (53, .aload_n 3, 0, 0, 0, 0), (54, .iconst (-1), 3, 1, 1, 0), (55, .iload 6, 0, 0, 0, 0), (57, .isub, 0, 0, 0, 0), (58, .iaload, 0, 0, 0, 0), (59, .iastore, 0, 0, 0, 0), (60, .iinc 4 1, 3, 1, 0, 0), (63, .goto 243, 0, 306, 0, 0), (66, .iload 6, 0, 0, 0, 0), (68, .bipush (-17), 3, 17, 1, 0), (70, .if_icmp .ne 7, 0, 77, 0, 0), (73, .iconst 1, 3, 1, 0, 0), (74, .goto 4, 0, 78, 0, 0), (77, .iconst 2, 3, 2, 0, 0), (78, .istore 7, 0, 0, 0, 0), (80, .iload 4, 0, 0, 0, 0), (82, .iload 7, 0, 0, 0, 0), (84, .if_icmp .ge 5, 0, 89, 0, 0), (87, .iconst 0, 3, 0, 0, 0), (88, .ireturn, 0, 0, 0, 0), (89, .aload_n 0, 0, 0, 0, 0), (90, .getfield 27, 0, 5, 5, 2), (93, .iload 4, 0, 0, 0, 0), (95, .iconst 1, 3, 1, 0, 0), (96, .isub, 0, 0, 0, 0), (97, .iaload, 0, 0, 0, 0), (98, .istore 8, 0, 0, 0, 0), (100, .iload 4, 0, 0, 0, 0), (102, .iload 7, 0, 0, 0, 0), (104, .isub, 0, 0, 0, 0), (105, .istore 4, 0, 0, 0, 0), (107, .aload_n 0, 0, 0, 0, 0), (108, .getfield 27, 0, 5, 5, 2), (111, .iload 4, 0, 0, 0, 0), (113, .iaload, 0, 0, 0, 0), (114, .istore 9, 0, 0, 0, 0), (116, .iload 6, 0, 0, 0, 0), (118, .tableswitch 169 (-18) (-10) #[159, 150, 133, 116, 99, 80, 70, 60, 50], 0, 0, 0, 0), (168, .iload 9, 0, 0, 0, 0), (170, .iload 8, 0, 0, 0, 0), (172, .iadd, 0, 0, 0, 0), (173, .istore 9, 0, 0, 0, 0), (175, .goto 119, 0, 294, 0, 0), (178, .iload 9, 0, 0, 0, 0), (180, .iload 8, 0, 0, 0, 0), (182, .isub, 0, 0, 0, 0), (183, .istore 9, 0, 0, 0, 0), (185, .goto 109, 0, 294, 0, 0), (188, .iload 9, 0, 0, 0, 0), (190, .iload 8, 0, 0, 0, 0), (192, .imul, 0, 0, 0, 0), (193, .istore 9, 0, 0, 0, 0), (195, .goto 99, 0, 294, 0, 0), (198, .iload 8, 0, 0, 0, 0), (200, .ifCond .ne 7, 0, 207, 0, 0), (203, .iconst 0, 3, 0, 0, 0), (204, .goto 8, 0, 212, 0, 0), (207, .iload 9, 0, 0, 0, 0), (209, .iload 8, 0, 0, 0, 0), (211, .idiv, 0, 0, 0, 0), (212, .istore 9, 0, 0, 0, 0), (214, .goto 80, 0, 294, 0, 0), (217, .iload 9, 0, 0, 0, 0), (219, .iload 8, 0, 0, 0, 0), (221, .if_icmp .ge 7, 0, 228, 0, 0), (224, .iconst 1, 3, 1, 0, 0), (225, .goto 4, 0, 229, 0, 0), (228, .iconst 0, 3, 0, 0, 0), (229, .istore 9, 0, 0, 0, 0), (231, .goto 63, 0, 294, 0, 0), (234, .iload 9, 0, 0, 0, 0), (236, .iload 8, 0, 0, 0, 0), (238, .if_icmp .ne 7, 0, 245, 0, 0), (241, .iconst 1, 3, 1, 0, 0), (242, .goto 4, 0, 246, 0, 0), (245, .iconst 0, 3, 0, 0, 0), (246, .istore 9, 0, 0, 0, 0), (248, .goto 46, 0, 294, 0, 0), (251, .iload 9, 0, 0, 0, 0), (253, .iload 8, 0, 0, 0, 0), (255, .if_icmp .le 7, 0, 262, 0, 0), (258, .iconst 1, 3, 1, 0, 0), (259, .goto 4, 0, 263, 0, 0), (262, .iconst 0, 3, 0, 0, 0), (263, .istore 9, 0, 0, 0, 0), (265, .goto 29, 0, 294, 0, 0), (268, .iconst 1, 3, 1, 0, 0), (269, .iload 8, 0, 0, 0, 0), (271, .isub, 0, 0, 0, 0), (272, .istore 9, 0, 0, 0, 0), (274, .goto 20, 0, 294, 0, 0), (277, .iload 9, 0, 0, 0, 0), (279, .iload 8, 0, 0, 0, 0), (281, .iand, 0, 0, 0, 0), (282, .istore 9, 0, 0, 0, 0), (284, .goto 10, 0, 294, 0, 0), (287, .iload 9, 0, 0, 0, 0), (289, .iload 8, 0, 0, 0, 0), (291, .ior, 0, 0, 0, 0), (292, .istore 9, 0, 0, 0, 0), (294, .aload_n 0, 0, 0, 0, 0), (295, .getfield 27, 0, 5, 5, 2), (298, .iload 4, 0, 0, 0, 0), (300, .iload 9, 0, 0, 0, 0), (302, .iastore, 0, 0, 0, 0), (303, .iinc 4 1, 3, 1, 0, 0), (306, .iinc 5 1, 3, 1, 0, 0), (309, .goto (-303), 0, 6, 0, 0), (312, .iload 4, 0, 0, 0, 0), (314, .ifCond .le 12, 0, 326, 0, 0), (317, .aload_n 0, 0, 0, 0, 0), (318, .getfield 27, 0, 5, 5, 2), (321, .iconst 0, 3, 0, 0, 0), (322, .iaload, 0, 0, 0, 0), (323, .goto 4, 0, 327, 0, 0), (326, .iconst 0, 3, 0, 0, 0), (327, .ireturn, 0, 0, 0, 0)]
set_option maxRecDepth 100000 in
def am_c71 : List am_I := [(0, .aload_n 0, 0, 0, 0, 0), (1, .invokespecial 3, 8, 0, 0, 0), (4, .aload_n 0, 0, 0, 0, 0), (5, .sipush 400, 3, 400, 0, 0), (8, .newarray .int, 0, 0, 0, 0), (10, .putfield 9, 0, 6, 0, 2), (13, .return_, 0, 0, 0, 0)]
set_option maxRecDepth 100000 in
def am_c72 : List am_I := [(0, .bipush 24, 3, 24, 0, 0), (2, .istore_n 2, 0, 0, 0, 0), (3, .iload_n 2, 0, 0, 0, 0), (4, .ifCond .lt 45, 0, 49, 0, 0), (7, .aload_n 0, 0, 0, 0, 0), (8, .getfield 15, 0, 6, 1, 0), (11, .sipush 400, 3, 400, 0, 0), (14, .if_icmp .ge 35, 0, 49, 0, 0), (17, .aload_n 0, 0, 0, 0, 0), (18, .getfield 9, 0, 6, 0, 2), (21, .aload_n 0, 0, 0, 0, 0), (22, .getfield 15, 0, 6, 1, 0), (25, .iload_n 1, 0, 0, 0, 0), (26, .iload_n 2, 0, 0, 0, 0), (27, .iushr, 0, 0, 0, 0), (28, .sipush 255, 3, 255, 0, 0), (31, .iand, 0, 0, 0, 0), (32, .iastore, 0, 0, 0, 0), (33, .aload_n 0, 0, 0, 0, 0), (34, .dup, 0, 0, 0, 0), (35, .getfield 15, 0, 6, 1, 0), (38, .iconst 1, 3, 1, 0, 0), (39, .iadd, 0, 0, 0, 0), (40, .putfield 15, 0, 6, 1, 0), (43, .iinc 2 (-8), 3, 8, 1, 0), (46, .goto (-43), 0, 3, 0, 0), (49, .return_, 0, 0, 0, 0)]
set_option maxRecDepth 100000 in
def am_c73 : List am_I := [(0, .aload_n 0, 0, 0, 0, 0), (1, .invokespecial 3, 8, 0, 0, 0), (4, .aload_n 0, 0, 0, 0, 0), (5, .bipush 7, 3, 7, 0, 0), (7, .newarray .int, 0, 0, 0, 0), (9, .putfield 9, 0, 7, 1, 2), (12, .aload_n 0, 0, 0, 0, 0), (13, .aload_n 1, 0, 0, 0, 0), (14, .putfield 15, 0, 7, 0, 2), (17, .return_, 0, 0, 0, 0)]
set_option maxRecDepth 100000 in
def am_c74 : List am_I := [(0, .aload_n 0, 0, 0, 0, 0), (1, .iload_n 1, 0, 0, 0, 0), (2, .iload_n 2, 0, 0, 0, 0), (3, .invokevirtual 19, 1, 78, 2, 7), (6, .aload_n 0, 0, 0, 0, 0), (7, .getfield 15, 0, 7, 0, 2), (10, .getfield 23, 0, 9, 0, 2), (13, .getfield 29, 0, 0, 4, 2), (16, .iconst 4, 3, 4, 0, 0), (17, .aaload, 0, 0, 0, 0), (18, .aload_n 0, 0, 0, 0, 0), (19, .getfield 9, 0, 7, 1, 2), (22, .invokevirtual 35, 1, 68, 1, 5), (25, .ireturn, 0, 1, 0, 0)]
set_option maxRecDepth 100000 in
def am_c75 : List am_I := [(0, .iconst 0, 3, 0, 0, 0), (1, .istore_n 2, 0, 0, 0, 0), (2, .iconst 0, 3, 0, 0, 0), (3, .istore_n 3, 0, 0, 0, 0), (4, .iload_n 3, 0, 0, 0, 0), (5, .bipush 6, 3, 6, 0, 0), (7, .if_icmp .ge 24, 0, 31, 0, 0), (10, .aload_n 0, 0, 0, 0, 0), (11, .iload_n 3, 0, 0, 0, 0), (12, .iload_n 1, 0, 0, 0, 0), (13, .invokevirtual 41, 1, 74, 2, 7), (16, .ifCond .eq 9, 0, 25, 0, 0), (19, .iload_n 2, 0, 0, 0, 0), (20, .iconst 1, 3, 1, 0, 0), (21, .iload_n 3, 0, 0, 0, 0), (22, .ishl, 0, 0, 0, 0), (23, .ior, 0, 0, 0, 0), (24, .istore_n 2, 0, 0, 0, 0), (25, .iinc 3 1, 3, 1, 0, 0), (28, .goto (-24), 0, 4, 0, 0), (31, .iload_n 2, 0, 0, 0, 0), (32, .ireturn, 0, 0, 0, 0)]
set_option maxRecDepth 100000 in
def am_c76 : List am_I := [(0, .iconst 0, 3, 0, 0, 0), (1, .istore_n 1, 0, 0, 0, 0), (2, .iload_n 1, 0, 0, 0, 0), (3, .bipush 6, 3, 6, 0, 0), (5, .if_icmp .ge 71, 0, 76, 0, 0), (8, .iconst 0, 3, 0, 0, 0), (9, .istore_n 2, 0, 0, 0, 0), (10, .iload_n 2, 0, 0, 0, 0), (11, .iconst 4, 3, 4, 0, 0), (12, .if_icmp .ge 58, 0, 70, 0, 0), (15, .iload_n 1, 0, 0, 0, 0), (16, .iconst 4, 3, 4, 0, 0), (17, .imul, 0, 0, 0, 0), (18, .iload_n 2, 0, 0, 0, 0), (19, .iadd, 0, 0, 0, 0), (20, .istore_n 3, 0, 0, 0, 0), (21, .aload_n 0, 0, 0, 0, 0), (22, .getfield 15, 0, 7, 0, 2), (25, .getfield 45, 0, 9, 4, 2), (28, .iload_n 3, 0, 0, 0, 0), (29, .iaload, 0, 0, 0, 0), (30, .iconst (-1), 3, 1, 1, 0), (31, .if_icmp .ne 33, 0, 64, 0, 0), (34, .aload_n 0, 0, 0, 0, 0), (35, .iload_n 1, 0, 0, 0, 0), (36, .iconst 1, 3, 1, 0, 0), (37, .iload_n 2, 0, 0, 0, 0), (38, .ishl, 0, 0, 0, 0), (39, .invokevirtual 41, 1, 74, 2, 7), (42, .ifCond .eq 22, 0, 64, 0, 0), (45, .aload_n 0, 0, 0, 0, 0), (46, .getfield 15, 0, 7, 0, 2), (49, .getfield 45, 0, 9, 4, 2), (52, .iload_n 3, 0, 0, 0, 0), (53, .aload_n 0, 0, 0, 0, 0), (54, .getfield 15, 0, 7, 0, 2), (57, .getfield 48, 0, 9, 2, 2), (60, .getfield 52, 0, 2, 8, 0), (63, .iastore, 0, 0, 0, 0), (64, .iinc 2 1, 3, 1, 0, 0), (67, .goto (-57), 0, 10, 0, 0), (70, .iinc 1 1, 3, 1, 0, 0), (73, .goto (-71), 0, 2, 0, 0), (76, .return_, 0, 0, 0, 0)]
set_option maxRecDepth 100000 in
def am_c77 : List am_I := [(0, .iconst 0, 3, 0, 0, 0), (1, .istore_n 3, 0, 0, 0, 0), (2, .iconst 0, 3, 0, 0, 0), (3, .istore 4, 0, 0, 0, 0), (5, .iload 4, 0, 0, 0, 0), (7, .aload_n 0, 0, 0, 0, 0), (8, .getfield 15, 0, 7, 0, 2), (11, .getfield 48, 0, 9, 2, 2), (14, .getfield 58, 0, 2, 9, 0), (17, .if_icmp .ge 36, 0, 53, 0, 0), (20, .aload_n 0, 0, 0, 0, 0), (21, .iload 4, 0, 0, 0, 0), (23, .iload_n 1, 0, 0, 0, 0), (24, .iload_n 2, 0, 0, 0, 0), (25, .invokevirtual 61, 1, 79, 3, 7), (28, .ifCond .eq 19, 0, 47, 0, 0), (31, .iload_n 3, 0, 0, 0, 0), (32, .aload_n 0, 0, 0, 0, 0), (33, .getfield 15, 0, 7, 0, 2), (36, .getfield 48, 0, 9, 2, 2), (39, .iload 4, 0, 0, 0, 0), (41, .iconst 4, 3, 4, 0, 0), (42, .invokevirtual 65, 1, 13, 2, 2), (45, .iadd, 0, 0, 0, 0), (46, .istore_n 3, 0, 0, 0, 0), (47, .iinc 4 1, 3, 1, 0, 0), (50, .goto (-45), 0, 5, 0, 0), (53, .iload_n 3, 0, 0, 0, 0), (54, .ireturn, 0, 0, 0, 0)]
set_option maxRecDepth 100000 in
def am_c78 : List am_I := [(0, .aload_n 0, 0, 0, 0, 0), (1, .getfield 15, 0, 7, 0, 2), (4, .getfield 48, 0, 9, 2, 2), (7, .astore_n 3, 0, 0, 0, 0), (8, .iconst 0, 3, 0, 0, 0), (9, .istore 4, 0, 0, 0, 0), (11, .iload 4, 0, 0, 0, 0), (13, .bipush 7, 3, 7, 0, 0), (15, .if_icmp .ge 17, 0, 32, 0, 0), (18, .aload_n 0, 0, 0, 0, 0), (19, .getfield 9, 0, 7, 1, 2), (22, .iload 4, 0, 0, 0, 0), (24, .iconst 0, 3, 0, 0, 0), (25, .iastore, 0, 0, 0, 0), (26, .iinc 4 1, 3, 1, 0, 0), (29, .goto (-18), 0, 11, 0, 0), (32, .iconst 0, 3, 0, 0, 0), (33, .istore 4, 0, 0, 0, 0), (35, .iload 4, 0, 0, 0, 0), (37, .aload_n 3, 0, 0, 0, 0), (38, .getfield 58, 0, 2, 9, 0), (41, .if_icmp .ge 144, 0, 185, 0, 0), (44, .aload_n 0, 0, 0, 0, 0), (45, .iload 4, 0, 0, 0, 0), (47, .iload_n 1, 0, 0, 0, 0), (48, .iload_n 2, 0, 0, 0, 0), (49, .invokevirtual 61, 1, 79, 3, 7), (52, .ifCond .eq 127, 0, 179, 0, 0), (55, .aload_n 3, 0, 0, 0, 0), (56, .iload 4, 0, 0, 0, 0), (58, .iconst 4, 3, 4, 0, 0), (59, .invokevirtual 65, 1, 13, 2, 2), (62, .istore 5, 0, 0, 0, 0), (64, .aload_n 3, 0, 0, 0, 0), (65, .iload 4, 0, 0, 0, 0), (67, .iconst 3, 3, 3, 0, 0), (68, .invokevirtual 65, 1, 13, 2, 2), (71, .istore 6, 0, 0, 0, 0), (73, .aload_n 0, 0, 0, 0, 0), (74, .getfield 9, 0, 7, 1, 2), (77, .iconst 0, 3, 0, 0, 0), (78, .dup2, 0, 0, 0, 0), (79, .iaload, 0, 0, 0, 0), (80, .iload 5, 0, 0, 0, 0), (82, .iadd, 0, 0, 0, 0), (83, .iastore, 0, 0, 0, 0), (84, .aload_n 0, 0, 0, 0, 0), (85, .getfield 9, 0, 7, 1, 2), (88, .iconst 1, 3, 1, 0, 0), (89, .dup2, 0, 0, 0, 0), (90, .iaload, 0, 0, 0, 0), (91, .iconst 1, 3, 1, 0, 0), (92, .iadd, 0, 0, 0, 0), (93, .iastore, 0, 0, 0, 0), (94, .aload_n 0, 0, 0, 0, 0), (95, .getfield 9, 0, 7, 1, 2), (98, .iconst 2, 3, 2, 0, 0), (99, .dup2, 0, 0, 0, 0), (100, .iaload, 0, 0, 0, 0), (101, .iload 5, 0, 0, 0, 0), (103, .bipush 100, 3, 100, 0, 0), (105, .irem, 0, 0, 0, 0), (106, .ifCond .ne 7, 0, 113, 0, 0), (109, .iconst 1, 3, 1, 0, 0), (110, .goto 4, 0, 114, 0, 0), (113, .iconst 0, 3, 0, 0, 0), (114, .iadd, 0, 0, 0, 0), (115, .iastore, 0, 0, 0, 0), (116, .aload_n 0, 0, 0, 0, 0), (117, .getfield 9, 0, 7, 1, 2), (120, .iconst 3, 3, 3, 0, 0), (121, .dup2, 0, 0, 0, 0), (122, .iaload, 0, 0, 0, 0), (123, .aload_n 0, 0, 0, 0, 0), (124, .iload_n 1, 0, 0, 0, 0), (125, .iload 6, 0, 0, 0, 0), (127, .iload 5, 0, 0, 0, 0), (129, .invokevirtual 69, 1, 80, 3, 7), (132, .ifCond .eq 7, 0, 139, 0, 0), (135, .iconst 1, 3, 1, 0, 0), (136, .goto 4, 0, 140, 0, 0), (139, .iconst 0, 3, 0, 0, 0), (140, .iadd, 0, 0, 0, 0), (141, .iastore, 0, 0, 0, 0), (142, .aload_n 0, 0, 0, 0, 0), (143, .getfield 9, 0, 7, 1, 2), (146, .bipush 6, 3, 6, 0, 0), (148, .dup2, 0, 0, 0, 0), (149, .iaload, 0, 0, 0, 0), (150, .aload_n 0, 0, 0, 0, 0), (151, .getfield 15, 0, 7, 0, 2), (154, .getfield 23, 0, 9, 0, 2), (157, .iload 6, 0, 0, 0, 0), (159, .aload_n 3, 0, 0, 0, 0), (160, .iload 4, 0, 0, 0, 0), (162, .iconst 1, 3, 1, 0, 0), (163, .invokevirtual 65, 1, 13, 2, 2), (166, .invokevirtual 72, 1, 5, 2, 0), (169, .ifCond .eq 7, 0, 176, 0, 0), (172, .iconst 1, 3, 1, 0, 0), (173, .goto 4, 0, 177, 0, 0), (176, .iconst 0, 3, 0, 0, 0), (177, .iadd, 0, 0, 0, 0), (178, .iastore, 0, 0, 0, 0), (179, .iinc 4 1, 3, 1, 0, 0), (182, .goto (-147), 0, 35, 0, 0), (185, .iconst 0, 3, 0, 0, 0), (186, .istore 4, 0, 0, 0, 0), (188, .iload 4, 0, 0, 0, 0), (190, .iconst 4, 3, 4, 0, 0), (191, .if_icmp .ge 39, 0, 230, 0, 0), (194, .iload_n 2, 0, 0, 0, 0), (195, .iload 4, 0, 0, 0, 0), (197, .ishr, 0, 0, 0, 0), (198, .iconst 1, 3, 1, 0, 0), (199, .iand, 0, 0, 0, 0), (200, .iconst 1, 3, 1, 0, 0), (201, .if_icmp .ne 23, 0, 224, 0, 0), (204, .aload_n 0, 0, 0, 0, 0), (205, .getfield 9, 0, 7, 1, 2), (208, .iconst 4, 3, 4, 0, 0), (209, .dup2, 0, 0, 0, 0), (210, .iaload, 0, 0, 0, 0), (211, .aload_n 3, 0, 0, 0, 0), (212, .getfield 75, 0, 2, 3, 2), (215, .iload_n 1, 0, 0, 0, 0), (216, .iconst 4, 3, 4, 0, 0), (217, .imul, 0, 0, 0, 0), (218, .iload 4, 0, 0, 0, 0), (220, .iadd, 0, 0, 0, 0), (221, .iaload, 0, 0, 0, 0), (222, .iadd, 0, 0, 0, 0), (223, .iastore, 0, 0, 0, 0), (224, .iinc 4 1, 3, 1, 0, 0), (227, .goto (-39), 0, 188, 0, 0), (230, .aload_n 0, 0, 0, 0, 0), (231, .getfield 9, 0, 7, 1, 2), (234, .iconst 5, 3, 5, 0, 0), (235, .aload_n 0, 0, 0, 0, 0), (236, .iload_n 1, 0, 0, 0, 0), (237, .iload_n 2, 0, 0, 0, 0), (238, .aload_n 0, 0, 0, 0, 0), (239, .getfield 9, 0, 7, 1, 2), (242, .iconst 4, 3, 4, 0, 0), (243, .iaload, 0, 0, 0, 0), (244, .invokevirtual 78, 1, 81, 3, 7), (247, .iastore, 0, 0, 0, 0), (248, .return_, 0, 0, 0, 0)]
set_option maxRecDepth 100000 in
def am_c79 : List am_I := [(0, .aload_n 0, 0, 0, 0, 0), (1, .getfield 15, 0, 7, 0, 2), (4, .getfield 48, 0, 9, 2, 2), (7, .astore 4, 0, 0, 0, 0), (9, .iload_n 3, 0, 0, 0, 0), (10, .aload 4, 0, 0, 0, 0), (12, .iload_n 1, 0, 0, 0, 0), (13, .iconst 3, 3, 3, 0, 0), (14, .invokevirtual 65, 1, 13, 2, 2), (17, .ishr, 0, 0, 0, 0), (18, .iconst 1, 3, 1, 0, 0), (19, .iand, 0, 0, 0, 0), (20, .iconst 1, 3, 1, 0, 0), (21, .if_icmp .ne 7, 0, 28, 0, 0), (24, .iconst 1, 3, 1, 0, 0), (25, .goto 4, 0, 29, 0, 0), (28, .iconst 0, 3, 0, 0, 0), (29, .istore 5, 0, 0, 0, 0), (31, .iload 5, 0, 0, 0, 0), (33, .ifCond .eq 18, 0, 51, 0, 0), (36, .aload 4, 0, 0, 0, 0), (38, .iload_n 1, 0, 0, 0, 0), (39, .iconst 2, 3, 2, 0, 0), (40, .invokevirtual 65, 1, 13, 2, 2), (43, .iload_n 2, 0, 0, 0, 0), (44, .if_icmp .ne 7, 0, 51, 0, 0), (47, .iconst 1, 3, 1, 0, 0), (48, .goto 4, 0, 52, 0, 0), (51, .iconst 0, 3, 0, 0, 0), (52, .istore 6, 0, 0, 0, 0), (54, .iload 6, 0, 0, 0, 0), (56, .ifCond .eq 22, 0, 78, 0, 0), (59, .aload 4, 0, 0, 0, 0), (61, .aload 4, 0, 0, 0, 0), (63, .iload_n 1, 0, 0, 0, 0), (64, .iconst 5, 3, 5, 0, 0), (65, .invokevirtual 65, 1, 13, 2, 2), (68, .invokevirtual 82, 1, 17, 1, 2), (71, .ifCond .eq 7, 0, 78, 0, 0), (74, .iconst 1, 3, 1, 0, 0), (75, .goto 4, 0, 79, 0, 0), (78, .iconst 0, 3, 0, 0, 0), (79, .ireturn, 0, 1, 0, 0)]
set_option maxRecDepth 100000 in
def am_c80 : List am_I := [(0, .aload_n 0, 0, 0, 0, 0), (1, .getfield 15, 0, 7, 0, 2), (4, .getfield 48, 0, 9, 2, 2), (7, .astore 4, 0, 0, 0, 0), (9, .iconst 0, 3, 0, 0, 0), (10, .istore 5, 0, 0, 0, 0), (12, .iload 5, 0, 0, 0, 0), (14, .aload 4, 0, 0, 0, 0), (16, .getfield 58, 0, 2, 9, 0), (19, .if_icmp .ge 109, 0, 128, 0, 0), (22, .aload 4, 0, 0, 0, 0), (24, .iload 5, 0, 0, 0, 0), (26, .iconst 0, 3, 0, 0, 0), (27, .invokevirtual 65, 1, 13, 2, 2), (30, .iload_n 1, 0, 0, 0, 0), (31, .if_icmp .ne 19, 0, 50, 0, 0), (34, .aload 4, 0, 0, 0, 0), (36, .iload 5, 0, 0, 0, 0), (38, .iconst 1, 3, 1, 0, 0), (39, .invokevirtual 65, 1, 13, 2, 2), (42, .iload_n 2, 0, 0, 0, 0), (43, .if_icmp .ne 7, 0, 50, 0, 0), (46, .iconst 1, 3, 1, 0, 0), (47, .goto 4, 0, 51, 0, 0), (50, .iconst 0, 3, 0, 0, 0), (51, .istore 6, 0, 0, 0, 0), (53, .iload 6, 0, 0, 0, 0), (55, .ifCond .eq 20, 0, 75, 0, 0), (58, .aload 4, 0, 0, 0, 0), (60, .iload 5, 0, 0, 0, 0), (62, .bipush 6, 3, 6, 0, 0), (64, .invokevirtual 65, 1, 13, 2, 2), (67, .iconst 1, 3, 1, 0, 0), (68, .if_icmp .ne 7, 0, 75, 0, 0), (71, .iconst 1, 3, 1, 0, 0), (72, .goto 4, 0, 76, 0, 0), (75, .iconst 0, 3, 0, 0, 0), (76, .istore 7, 0, 0, 0, 0), (78, .iload 7, 0, 0, 0, 0), (80, .ifCond .eq 42, 0, 122, 0, 0), (83, .aload 4, 0, 0, 0, 0), (85, .aload 4, 0, 0, 0, 0), (87, .iload 5, 0, 0, 0, 0), (89, .bipush 9, 3, 9, 0, 0), (91, .invokevirtual 65, 1, 13, 2, 2), (94, .invokevirtual 82, 1, 17, 1, 2), (97, .ifCond .eq 25, 0, 122, 0, 0), (100, .aload 4, 0, 0, 0, 0), (102, .iload 5, 0, 0, 0, 0), (104, .iconst 4, 3, 4, 0, 0), (105, .invokevirtual 65, 1, 13, 2, 2), (108, .iload_n 3, 0, 0, 0, 0), (109, .isub, 0, 0, 0, 0), (110, .invokestatic 86, 1, 253, 1, 99), (113, .iload_n 3, 0, 0, 0, 0), (114, .bipush 10, 3, 10, 0, 0), (116, .idiv, 0, 0, 0, 0), (117, .if_icmp .gt 5, 0, 122, 0, 0), (120, .iconst 1, 3, 1, 0, 0), (121, .ireturn, 0, 1, 0, 0), (122, .iinc 5 1, 3, 1, 0, 0), (125, .goto (-113), 0, 12, 0, 0), (128, .iconst 0, 3, 0, 0, 0), (129, .ireturn, 0, 1, 0, 0)]
set_option maxRecDepth 100000 in
def am_c81 : List am_I := [(0, .aload_n 0, 0, 0, 0, 0), (1, .getfield 15, 0, 7, 0, 2), (4, .getfield 48, 0, 9, 2, 2), (7, .getfield 52, 0, 2, 8, 0), (10, .istore 4, 0, 0, 0, 0), (12, .iconst 1, 3, 1, 0, 0), (13, .iload 4, 0, 0, 0, 0), (15, .bipush 7, 3, 7, 0, 0), (17, .isub, 0, 0, 0, 0), (18, .iconst 1, 3, 1, 0, 0), (19, .iadd, 0, 0, 0, 0), (20, .invokestatic 92, 1, 254, 2, 99), (23, .istore 5, 0, 0, 0, 0), (25, .iload_n 3, 0, 0, 0, 0), (26, .istore 6, 0, 0, 0, 0), (28, .iload 5, 0, 0, 0, 0), (30, .istore 7, 0, 0, 0, 0), (32, .iload 7, 0, 0, 0, 0), (34, .iload 4, 0, 0, 0, 0), (36, .if_icmp .gt 40, 0, 76, 0, 0), (39, .aload_n 0, 0, 0, 0, 0), (40, .getfield 15, 0, 7, 0, 2), (43, .iload 7, 0, 0, 0, 0), (45, .iload_n 1, 0, 0, 0, 0), (46, .iload_n 2, 0, 0, 0, 0), (47, .invokevirtual 95, 1, 91, 3, 9), (50, .istore 8, 0, 0, 0, 0), (52, .iload 7, 0, 0, 0, 0), (54, .iload 5, 0, 0, 0, 0), (56, .if_icmp .eq 10, 0, 66, 0, 0), (59, .iload 8, 0, 0, 0, 0), (61, .iload 6, 0, 0, 0, 0), (63, .if_icmp .ge 7, 0, 70, 0, 0), (66, .iload 8, 0, 0, 0, 0), (68, .istore 6, 0, 0, 0, 0), (70, .iinc 7 1, 3, 1, 0, 0), (73, .goto (-41), 0, 32, 0, 0), (76, .iload 6, 0, 0, 0, 0), (78, .ireturn, 0, 0, 0, 0)]
set_option maxRecDepth 100000 in
def am_c82 : List am_I := [(0, .aload_n 0, 0, 0, 0, 0), (1, .invokespecial 3, 8, 0, 0, 0), (4, .aload_n 0, 0, 0, 0, 0), (5, .iconst 4, 3, 4, 0, 0), (6, .newarray .int, 0, 0, 0, 0), (8, .putfield 9, 0, 8, 0, 2), (11, .aload_n 0, 0, 0, 0, 0), (12, .iconst 4, 3, 4, 0, 0), (13, .newarray .int, 0, 0, 0, 0), (15, .putfield 15, 0, 8, 1, 2), (18, .return_, 0, 0, 0, 0)]
set_option maxRecDepth 100000 in
def am_c83 : List am_I := [(0, .iconst 0, 3, 0, 0, 0), (1, .istore_n 3, 0, 0, 0, 0), (2, .iload_n 3, 0, 0, 0, 0), (3, .iconst 4, 3, 4, 0, 0), (4, .if_icmp .ge 24, 0, 28, 0, 0), (7, .aload_n 0, 0, 0, 0, 0), (8, .getfield 15, 0, 8, 1, 2), (11, .iload_n 3, 0, 0, 0, 0), (12, .aload_n 1, 0, 0, 0, 0), (13, .getfield 18, 0, 9, 2, 2), (16, .iload_n 2, 0, 0, 0, 0), (17, .iload_n 3, 0, 0, 0, 0), (18, .invokevirtual 24, 1, 19, 2, 2), (21, .iastore, 0, 0, 0, 0), (22, .iinc 3 1, 3, 1, 0, 0), (25, .goto (-23), 0, 2, 0, 0), (28, .iconst 0, 3, 0, 0, 0), (29, .istore_n 3, 0, 0, 0, 0), (30, .iconst 1, 3, 1, 0, 0), (31, .iconst 2, 3, 2, 0, 0), (32, .aload_n 1, 0, 0, 0, 0), (33, .getfield 29, 0, 9, 7, 0), (36, .imul, 0, 0, 0, 0), (37, .ishl, 0, 0, 0, 0), (38, .istore 4, 0, 0, 0, 0), (40, .iconst 0, 3, 0, 0, 0), (41, .istore 5, 0, 0, 0, 0), (43, .iload 5, 0, 0, 0, 0), (45, .iload 4, 0, 0, 0, 0), (47, .if_icmp .ge 83, 0, 130, 0, 0), (50, .aload_n 0, 0, 0, 0, 0), (51, .aload_n 1, 0, 0, 0, 0), (52, .iload 5, 0, 0, 0, 0), (54, .invokevirtual 33, 1, 85, 2, 8), (57, .ifCond .ne 6, 0, 63, 0, 0), (60, .goto 64, 0, 124, 0, 0), (63, .aload_n 0, 0, 0, 0, 0), (64, .aload_n 1, 0, 0, 0, 0), (65, .iload 5, 0, 0, 0, 0), (67, .invokevirtual 37, 1, 86, 2, 8), (70, .istore 6, 0, 0, 0, 0), (72, .iload_n 3, 0, 0, 0, 0), (73, .ifCond .eq 12, 0, 85, 0, 0), (76, .iload 6, 0, 0, 0, 0), (78, .aload_n 0, 0, 0, 0, 0), (79, .getfield 41, 0, 8, 2, 0), (82, .if_icmp .le 15, 0, 97, 0, 0), (85, .aload_n 0, 0, 0, 0, 0), (86, .iload 6, 0, 0, 0, 0), (88, .putfield 41, 0, 8, 2, 0), (91, .aload_n 0, 0, 0, 0, 0), (92, .iload 5, 0, 0, 0, 0), (94, .putfield 44, 0, 8, 4, 0), (97, .iload_n 3, 0, 0, 0, 0), (98, .ifCond .eq 12, 0, 110, 0, 0), (101, .iload 6, 0, 0, 0, 0), (103, .aload_n 0, 0, 0, 0, 0), (104, .getfield 47, 0, 8, 3, 0), (107, .if_icmp .ge 15, 0, 122, 0, 0), (110, .aload_n 0, 0, 0, 0, 0), (111, .iload 6, 0, 0, 0, 0), (113, .putfield 47, 0, 8, 3, 0), (116, .aload_n 0, 0, 0, 0, 0), (117, .iload 5, 0, 0, 0, 0), (119, .putfield 50, 0, 8, 5, 0), (122, .iconst 1, 3, 1, 0, 0), (123, .istore_n 3, 0, 0, 0, 0), (124, .iinc 5 1, 3, 1, 0, 0), (127, .goto (-84), 0, 43, 0, 0), (130, .iload_n 3, 0, 0, 0, 0), (131, .ireturn, 0, 1, 0, 0)]
set_option maxRecDepth 100000 in
def am_c84 : List am_I := [(0, .iload_n 1, 0, 0, 0, 0), (1, .iconst 2, 3, 2, 0, 0), (2, .iload_n 3, 0, 0, 0, 0), (3, .iconst 1, 3, 1, 0, 0), (4, .isub, 0, 0, 0, 0), (5, .iload_n 2, 0, 0, 0, 0), (6, .isub, 0, 0, 0, 0), (7, .imul, 0, 0, 0, 0), (8, .ishr, 0, 0, 0, 0), (9, .iconst 3, 3, 3, 0, 0), (10, .iand, 0, 0, 0, 0), (11, .ireturn, 0, 0, 0, 0)]
set_option maxRecDepth 100000 in
def am_c85 : List am_I := [(0, .iconst 0, 3, 0, 0, 0), (1, .istore_n 3, 0, 0, 0, 0), (2, .iload_n 3, 0, 0, 0, 0), (3, .iconst 4, 3, 4, 0, 0), (4, .if_icmp .ge 16, 0, 20, 0, 0), (7, .aload_n 0, 0, 0, 0, 0), (8, .getfield 9, 0, 8, 0, 2), (11, .iload_n 3, 0, 0, 0, 0), (12, .iconst 0, 3, 0, 0, 0), (13, .iastore, 0, 0, 0, 0), (14, .iinc 3 1, 3, 1, 0, 0), (17, .goto (-15), 0, 2, 0, 0), (20, .iconst 0, 3, 0, 0, 0), (21, .istore_n 3, 0, 0, 0, 0), (22, .iload_n 3, 0, 0, 0, 0), (23, .aload_n 1, 0, 0, 0, 0), (24, .getfield 29, 0, 9, 7, 0), (27, .if_icmp .ge 56, 0, 83, 0, 0), (30, .aload_n 0, 0, 0, 0, 0), (31, .iload_n 2, 0, 0, 0, 0), (32, .iload_n 3, 0, 0, 0, 0), (33, .aload_n 1, 0, 0, 0, 0), (34, .getfield 29, 0, 9, 7, 0), (37, .invokevirtual 53, 1, 84, 3, 8), (40, .istore 4, 0, 0, 0, 0), (42, .aload_n 0, 0, 0, 0, 0), (43, .getfield 9, 0, 8, 0, 2), (46, .iload 4, 0, 0, 0, 0), (48, .dup2, 0, 0, 0, 0), (49, .iaload, 0, 0, 0, 0), (50, .aload_n 1, 0, 0, 0, 0), (51, .getfield 57, 0, 9, 5, 2), (54, .iload_n 3, 0, 0, 0, 0), (55, .iaload, 0, 0, 0, 0), (56, .iadd, 0, 0, 0, 0), (57, .iastore, 0, 0, 0, 0), (58, .aload_n 0, 0, 0, 0, 0), (59, .getfield 9, 0, 8, 0, 2), (62, .iload 4, 0, 0, 0, 0), (64, .iaload, 0, 0, 0, 0), (65, .aload_n 0, 0, 0, 0, 0), (66, .getfield 15, 0, 8, 1, 2), (69, .iload 4, 0, 0, 0, 0), (71, .iaload, 0, 0, 0, 0), (72, .if_icmp .le 5, 0, 77, 0, 0), (75, .iconst 0, 3, 0, 0, 0), (76, .ireturn, 0, 1, 0, 0), (77, .iinc 3 1, 3, 1, 0, 0), (80, .goto (-58), 0, 22, 0, 0), (83, .iconst 1, 3, 1, 0, 0), (84, .ireturn, 0, 1, 0, 0)]
set_option maxRecDepth 100000 in
def am_c86 : List am_I := [(0, .iconst 0, 3, 0, 0, 0), (1, .istore_n 3, 0, 0, 0, 0), (2, .iconst 0, 3, 0, 0, 0), (3, .istore 4, 0, 0, 0, 0), (5, .iload 4, 0, 0, 0, 0), (7, .aload_n 1, 0, 0, 0, 0), (8, .getfield 29, 0, 9, 7, 0), (11, .if_icmp .ge 61, 0, 72, 0, 0), (14, .aload_n 1, 0, 0, 0, 0), (15, .getfield 60, 0, 9, 0, 2), (18, .getfield 64, 0, 0, 0, 2), (21, .aload_n 0, 0, 0, 0, 0), (22, .iload_n 2, 0, 0, 0, 0), (23, .iload 4, 0, 0, 0, 0), (25, .aload_n 1, 0, 0, 0, 0), (26, .getfield 29, 0, 9, 7, 0), (29, .invokevirtual 53, 1, 84, 3, 8), (32, .iaload, 0, 0, 0, 0), (33, .istore 5, 0, 0, 0, 0), (35, .iload_n 3, 0, 0, 0, 0), (36, .aload_n 1, 0, 0, 0, 0), (37, .getfield 57, 0, 9, 5, 2), (40, .iload 4, 0, 0, 0, 0), (42, .iaload, 0, 0, 0, 0), (43, .aload_n 1, 0, 0, 0, 0), (44, .getfield 60, 0, 9, 0, 2), (47, .getfield 69, 0, 0, 1, 2), (50, .aload_n 1, 0, 0, 0, 0), (51, .getfield 72, 0, 9, 6, 2), (54, .iload 4, 0, 0, 0, 0), (56, .iaload, 0, 0, 0, 0), (57, .iconst 3, 3, 3, 0, 0), (58, .imul, 0, 0, 0, 0), (59, .iload 5, 0, 0, 0, 0), (61, .iadd, 0, 0, 0, 0), (62, .iaload, 0, 0, 0, 0), (63, .imul, 0, 0, 0, 0), (64, .iadd, 0, 0, 0, 0), (65, .istore_n 3, 0, 0, 0, 0), (66, .iinc 4 1, 3, 1, 0, 0), (69, .goto (-64), 0, 5, 0, 0), (72, .iload_n 3, 0, 0, 0, 0), (73, .ireturn, 0, 0, 0, 0)]
set_option maxRecDepth 100000 in
def am_c87 : List am_I := [(0, .aload_n 0, 0, 0, 0, 0), (1, .invokespecial 3, 8, 0, 0, 0), (4, .aload_n 0, 0, 0, 0, 0), (5, .new 9, 2, 0, 0, 0), (8, .dup, 0, 0, 0, 0), (9, .invokespecial 11, 1, 1, 0, 98), (12, .putfield 12, 0, 9, 0, 2), (15, .aload_n 0, 0, 0, 0, 0), (16, .new 18, 2, 1, 0, 0), (19, .dup, 0, 0, 0, 0), (20, .invokespecial 20, 1, 8, 0, 98), (23, .putfield 21, 0, 9, 1, 2), (26, .aload_n 0, 0, 0, 0, 0), (27, .new 25, 2, 2, 0, 0), (30, .dup, 0, 0, 0, 0), (31, .aload_n 0, 0, 0, 0, 0), (32, .getfield 12, 0, 9, 0, 2), (35, .aload_n 0, 0, 0, 0, 0), (36, .getfield 21, 0, 9, 1, 2), (39, .invokespecial 27, 1, 11, 2, 98), (42, .putfield 30, 0, 9, 2, 2), (45, .aload_n 0, 0, 0, 0, 0), (46, .sipush 3240, 3, 3240, 0, 0), (49, .newarray .int, 0, 0, 0, 0), (51, .putfield 34, 0, 9, 3, 2), (54, .aload_n 0, 0, 0, 0, 0), (55, .bipush 24, 3, 24, 0, 0), (57, .newarray .int, 0, 0, 0, 0), (59, .putfield 38, 0, 9, 4, 2), (62, .aload_n 0, 0, 0, 0, 0), (63, .bipush 6, 3, 6, 0, 0), (65, .newarray .int, 0, 0, 0, 0), (67, .putfield 41, 0, 9, 5, 2), (70, .aload_n 0, 0, 0, 0, 0), (71, .bipush 6, 3, 6, 0, 0), (73, .newarray .int, 0, 0, 0, 0), (75, .putfield 44, 0, 9, 6, 2), (78, .iconst 0, 3, 0, 0, 0), (79, .istore_n 1, 0, 0, 0, 0), (80, .iload_n 1, 0, 0, 0, 0), (81, .bipush 24, 3, 24, 0, 0), (83, .if_icmp .ge 16, 0, 99, 0, 0), (86, .aload_n 0, 0, 0, 0, 0), (87, .getfield 38, 0, 9, 4, 2), (90, .iload_n 1, 0, 0, 0, 0), (91, .iconst (-1), 3, 1, 1, 0), (92, .iastore, 0, 0, 0, 0), (93, .iinc 1 1, 3, 1, 0, 0), (96, .goto (-16), 0, 80, 0, 0), (99, .return_, 0, 0, 0, 0)]
set_option maxRecDepth 100000 in
def am_c88 : List am_I := [(0, .aload_n 0, 0, 0, 0, 0), (1, .getfield 12, 0, 9, 0, 2), (4, .aload_n 1, 0, 0, 0, 0), (5, .getfield 12, 0, 9, 0, 2), (8, .invokevirtual 47, 1, 2, 1, 0), (11, .aload_n 0, 0, 0, 0, 0), (12, .getfield 21, 0, 9, 1, 2), (15, .aload_n 1, 0, 0, 0, 0), (16, .getfield 21, 0, 9, 1, 2), (19, .invokevirtual 51, 1, 10, 1, 1), (22, .aload_n 0, 0, 0, 0, 0), (23, .getfield 30, 0, 9, 2, 2), (26, .aload_n 1, 0, 0, 0, 0), (27, .getfield 30, 0, 9, 2, 2), (30, .invokevirtual 54, 1, 12, 1, 2), (33, .aload_n 1, 0, 0, 0, 0), (34, .getfield 34, 0, 9, 3, 2), (37, .iconst 0, 3, 0, 0, 0), (38, .aload_n 0, 0, 0, 0, 0), (39, .getfield 34, 0, 9, 3, 2), (42, .iconst 0, 3, 0, 0, 0), (43, .sipush 3240, 3, 3240, 0, 0), (46, .invokestatic 57, 7, 0, 0, 0), (49, .aload_n 1, 0, 0, 0, 0), (50, .getfield 38, 0, 9, 4, 2), (53, .iconst 0, 3, 0, 0, 0), (54, .aload_n 0, 0, 0, 0, 0), (55, .getfield 38, 0, 9, 4, 2), (58, .iconst 0, 3, 0, 0, 0), (59, .bipush 24, 3, 24, 0, 0), (61, .invokestatic 57, 7, 0, 0, 0), (64, .aload_n 1, 0, 0, 0, 0), (65, .getfield 41, 0, 9, 5, 2), (68, .iconst 0, 3, 0, 0, 0), (69, .aload_n 0, 0, 0, 0, 0), (70, .getfield 41, 0, 9, 5, 2), (73, .iconst 0, 3, 0, 0, 0), (74, .bipush 6, 3, 6, 0, 0), (76, .invokestatic 57, 7, 0, 0, 0), (79, .aload_n 1, 0, 0, 0, 0), (80, .getfield 44, 0, 9, 6, 2), (83, .iconst 0, 3, 0, 0, 0), (84, .aload_n 0, 0, 0, 0, 0), (85, .getfield 44, 0, 9, 6, 2), (88, .iconst 0, 3, 0, 0, 0), (89, .bipush 6, 3, 6, 0, 0), (91, .invokestatic 57, 7, 0, 0, 0), (94, .aload_n 0, 0, 0, 0, 0), (95, .aload_n 1, 0, 0, 0, 0), (96, .getfield 63, 0, 9, 7, 0), (99, .putfield 63, 0, 9, 7, 0), (102, .aload_n 0, 0, 0, 0, 0), (103, .aload_n 1, 0, 0, 0, 0), (104, .getfield 67, 0, 9, 8, 0), (107, .putfield 67, 0, 9, 8, 0), (110, .return_, 0, 0, 0, 0)]
set_option maxRecDepth 100000 in
def am_c89 : List am_I := [(0, .aload_n 0, 0, 0, 0, 0), (1, .getfield 67, 0, 9, 8, 0), (4, .iload_n 1, 0, 0, 0, 0), (5, .ishr, 0, 0, 0, 0), (6, .iconst 1, 3, 1, 0, 0), (7, .iand, 0, 0, 0, 0), (8, .iconst 1, 3, 1, 0, 0), (9, .if_icmp .ne 7, 0, 16, 0, 0), (12, .iconst 1, 3, 1, 0, 0), (13, .goto 4, 0, 17, 0, 0), (16, .iconst 0, 3, 0, 0, 0), (17, .ireturn, 0, 1, 0, 0)]
set_option maxRecDepth 100000 in
def am_c90 : List am_I := [(0, .aload_n 0, 0, 0, 0, 0), (1, .getfield 30, 0, 9, 2, 2), (4, .getfield 70, 0, 2, 8, 0), (7, .invokestatic 73, 1, 133, 1, 99), (10, .ifCond .ne 4, 0, 14, 0, 0), (13, .return_, 0, 0, 0, 0), (14, .iconst 0, 3, 0, 0, 0), (15, .istore_n 1, 0, 0, 0, 0), (16, .iload_n 1, 0, 0, 0, 0), (17, .bipush 6, 3, 6, 0, 0), (19, .if_icmp .ge 98, 0, 117, 0, 0), (22, .aload_n 0, 0, 0, 0, 0), (23, .getfield 30, 0, 9, 2, 2), (26, .getfield 70, 0, 2, 8, 0), (29, .bipush 6, 3, 6, 0, 0), (31, .imul, 0, 0, 0, 0), (32, .iload_n 1, 0, 0, 0, 0), (33, .iadd, 0, 0, 0, 0), (34, .bipush 6, 3, 6, 0, 0), (36, .imul, 0, 0, 0, 0), (37, .istore_n 2, 0, 0, 0, 0), (38, .aload_n 0, 0, 0, 0, 0), (39, .getfield 34, 0, 9, 3, 2), (42, .iload_n 2, 0, 0, 0, 0), (43, .aload_n 0, 0, 0, 0, 0), (44, .getfield 30, 0, 9, 2, 2), (47, .iload_n 1, 0, 0, 0, 0), (48, .invokevirtual 77, 1, 30, 1, 2), (51, .iastore, 0, 0, 0, 0), (52, .aload_n 0, 0, 0, 0, 0), (53, .getfield 34, 0, 9, 3, 2), (56, .iload_n 2, 0, 0, 0, 0), (57, .iconst 1, 3, 1, 0, 0), (58, .iadd, 0, 0, 0, 0), (59, .aload_n 0, 0, 0, 0, 0), (60, .getfield 34, 0, 9, 3, 2), (63, .iload_n 2, 0, 0, 0, 0), (64, .iaload, 0, 0, 0, 0), (65, .aload_n 0, 0, 0, 0, 0), (66, .getfield 30, 0, 9, 2, 2), (69, .iload_n 1, 0, 0, 0, 0), (70, .invokevirtual 81, 1, 31, 1, 2), (73, .isub, 0, 0, 0, 0), (74, .iastore, 0, 0, 0, 0), (75, .iconst 0, 3, 0, 0, 0), (76, .istore_n 3, 0, 0, 0, 0), (77, .iload_n 3, 0, 0, 0, 0), (78, .iconst 4, 3, 4, 0, 0), (79, .if_icmp .ge 32, 0, 111, 0, 0), (82, .aload_n 0, 0, 0, 0, 0), (83, .getfield 34, 0, 9, 3, 2), (86, .iload_n 2, 0, 0, 0, 0), (87, .iconst 2, 3, 2, 0, 0), (88, .iadd, 0, 0, 0, 0), (89, .iload_n 3, 0, 0, 0, 0), (90, .iadd, 0, 0, 0, 0), (91, .aload_n 0, 0, 0, 0, 0), (92, .getfield 30, 0, 9, 2, 2), (95, .getfield 84, 0, 2, 3, 2), (98, .iload_n 1, 0, 0, 0, 0), (99, .iconst 4, 3, 4, 0, 0), (100, .imul, 0, 0, 0, 0), (101, .iload_n 3, 0, 0, 0, 0), (102, .iadd, 0, 0, 0, 0), (103, .iaload, 0, 0, 0, 0), (104, .iastore, 0, 0, 0, 0), (105, .iinc 3 1, 3, 1, 0, 0), (108, .goto (-31), 0, 77, 0, 0), (111, .iinc 1 1, 3, 1, 0, 0), (114, .goto (-98), 0, 16, 0, 0), (117, .return_, 0, 0, 0, 0)]
set_option maxRecDepth 100000 in
def am_c91 : List am_I := [(0, .iconst 0, 3, 0, 0, 0), (1, .istore 4, 0, 0, 0, 0), (3, .iconst 0, 3, 0, 0, 0), (4, .istore 5, 0, 0, 0, 0), (6, .iload 5, 0, 0, 0, 0), (8, .iconst 4, 3, 4, 0, 0), (9, .if_icmp .ge 43, 0, 52, 0, 0), (12, .iload_n 3, 0, 0, 0, 0), (13, .iload 5, 0, 0, 0, 0), (15, .ishr, 0, 0, 0, 0), (16, .iconst 1, 3, 1, 0, 0), (17, .iand, 0, 0, 0, 0), (18, .iconst 1, 3, 1, 0, 0), (19, .if_icmp .ne 27, 0, 46, 0, 0), (22, .iload 4, 0, 0, 0, 0), (24, .aload_n 0, 0, 0, 0, 0), (25, .getfield 34, 0, 9, 3, 2), (28, .iload_n 1, 0, 0, 0, 0), (29, .bipush 6, 3, 6, 0, 0), (31, .imul, 0, 0, 0, 0), (32, .iload_n 2, 0, 0, 0, 0), (33, .iadd, 0, 0, 0, 0), (34, .bipush 6, 3, 6, 0, 0), (36, .imul, 0, 0, 0, 0), (37, .iconst 2, 3, 2, 0, 0), (38, .iadd, 0, 0, 0, 0), (39, .iload 5, 0, 0, 0, 0), (41, .iadd, 0, 0, 0, 0), (42, .iaload, 0, 0, 0, 0), (43, .iadd, 0, 0, 0, 0), (44, .istore 4, 0, 0, 0, 0), (46, .iinc 5 1, 3, 1, 0, 0), (49, .goto (-43), 0, 6, 0, 0), (52, .iload 4, 0, 0, 0, 0), (54, .ireturn, 0, 0, 0, 0)]
set_option maxRecDepth 100000 in
def am_c92 : List am_I := [(0, .aload_n 0, 0, 0, 0, 0), (1, .invokespecial 3, 8, 0, 0, 0), (4, .aload_n 0, 0, 0, 0, 0), (5, .new 9, 2, 6, 0, 0), (8, .dup, 0, 0, 0, 0), (9, .invokespecial 11, 1, 71, 0, 98), (12, .putfield 12, 0, 10, 0, 2), (15, .aload_n 0, 0, 0, 0, 0), (16, .new 16, 2, 3, 0, 0), (19, .dup, 0, 0, 0, 0), (20, .invokespecial 18, 1, 38, 0, 98), (23, .putfield 19, 0, 10, 1, 2), (26, .aload_n 0, 0, 0, 0, 0), (27, .new 23, 2, 9, 0, 0), (30, .dup, 0, 0, 0, 0), (31, .invokespecial 25, 1, 87, 0, 98), (34, .putfield 26, 0, 10, 2, 2), (37, .aload_n 0, 0, 0, 0, 0), (38, .new 23, 2, 9, 0, 0), (41, .dup, 0, 0, 0, 0), (42, .invokespecial 25, 1, 87, 0, 98), (45, .putfield 30, 0, 10, 3, 2), (48, .aload_n 0, 0, 0, 0, 0), (49, .new 33, 2, 2, 0, 0), (52, .dup, 0, 0, 0, 0), (53, .aload_n 0, 0, 0, 0, 0), (54, .getfield 26, 0, 10, 2, 2), (57, .getfield 35, 0, 9, 0, 2), (60, .aconst_null, 0, 0, 0, 0), (61, .invokespecial 39, 1, 11, 2, 98), (64, .putfield 42, 0, 10, 4, 2), (67, .aload_n 0, 0, 0, 0, 0), (68, .new 46, 2, 7, 0, 0), (71, .dup, 0, 0, 0, 0), (72, .aload_n 0, 0, 0, 0, 0), (73, .getfield 26, 0, 10, 2, 2), (76, .invokespecial 48, 1, 73, 1, 98), (79, .putfield 51, 0, 10, 5, 2), (82, .aload_n 0, 0, 0, 0, 0), (83, .new 55, 2, 4, 0, 0), (86, .dup, 0, 0, 0, 0), (87, .invokespecial 57, 1, 57, 0, 98), (90, .putfield 58, 0, 10, 6, 2), (93, .aload_n 0, 0, 0, 0, 0), (94, .new 62, 2, 8, 0, 0), (97, .dup, 0, 0, 0, 0), (98, .invokespecial 64, 1, 82, 0, 98), (101, .putfield 65, 0, 10, 7, 2), (104, .aload_n 0, 0, 0, 0, 0), (105, .iconst 4, 3, 4, 0, 0), (106, .newarray .int, 0, 0, 0, 0), (108, .putfield 69, 0, 10, 8, 2), (111, .aload_n 0, 0, 0, 0, 0), (112, .iconst (-1), 3, 1, 1, 0), (113, .putfield 73, 0, 10, 11, 0), (116, .return_, 0, 0, 0, 0)]
set_option maxRecDepth 100000 in
def am_c93 : List am_I := [(0, .iload_n 1, 0, 0, 0, 0), (1, .invokestatic 77, 1, 130, 1, 99), (4, .ifCond .eq 23, 0, 27, 0, 0), (7, .iload_n 2, 0, 0, 0, 0), (8, .invokestatic 81, 1, 132, 1, 99), (11, .ifCond .eq 16, 0, 27, 0, 0), (14, .aload_n 0, 0, 0, 0, 0), (15, .getfield 26, 0, 10, 2, 2), (18, .getfield 84, 0, 9, 2, 2), (21, .getfield 87, 0, 2, 9, 0), (24, .ifCond .le 5, 0, 29, 0, 0), (27, .iconst 0, 3, 0, 0, 0), (28, .ireturn, 0, 1, 0, 0), (29, .aload_n 0, 0, 0, 0, 0), (30, .getfield 26, 0, 10, 2, 2), (33, .getfield 35, 0, 9, 0, 2), (36, .getfield 90, 0, 0, 0, 2), (39, .iload_n 1, 0, 0, 0, 0), (40, .iload_n 2, 0, 0, 0, 0), (41, .iastore, 0, 0, 0, 0), (42, .iconst 1, 3, 1, 0, 0), (43, .ireturn, 0, 1, 0, 0)]
set_option maxRecDepth 100000 in
def am_c94 : List am_I := [(0, .iload_n 1, 0, 0, 0, 0), (1, .invokestatic 81, 1, 132, 1, 99), (4, .ifCond .eq 24, 0, 28, 0, 0), (7, .iload_n 2, 0, 0, 0, 0), (8, .invokestatic 81, 1, 132, 1, 99), (11, .ifCond .eq 17, 0, 28, 0, 0), (14, .iload_n 1, 0, 0, 0, 0), (15, .iload_n 2, 0, 0, 0, 0), (16, .if_icmp .eq 12, 0, 28, 0, 0), (19, .iload_n 3, 0, 0, 0, 0), (20, .ifCond .lt 8, 0, 28, 0, 0), (23, .iload_n 3, 0, 0, 0, 0), (24, .iconst 5, 3, 5, 0, 0), (25, .if_icmp .le 5, 0, 30, 0, 0), (28, .iconst 0, 3, 0, 0, 0), (29, .ireturn, 0, 1, 0, 0), (30, .aload_n 0, 0, 0, 0, 0), (31, .getfield 26, 0, 10, 2, 2), (34, .getfield 35, 0, 9, 0, 2), (37, .getfield 95, 0, 0, 1, 2), (40, .iload_n 1, 0, 0, 0, 0), (41, .iconst 3, 3, 3, 0, 0), (42, .imul, 0, 0, 0, 0), (43, .iload_n 2, 0, 0, 0, 0), (44, .iadd, 0, 0, 0, 0), (45, .iload_n 3, 0, 0, 0, 0), (46, .iastore, 0, 0, 0, 0), (47, .aload_n 0, 0, 0, 0, 0), (48, .getfield 26, 0, 10, 2, 2), (51, .getfield 35, 0, 9, 0, 2), (54, .getfield 95, 0, 0, 1, 2), (57, .iload_n 2, 0, 0, 0, 0), (58, .iconst 3, 3, 3, 0, 0), (59, .imul, 0, 0, 0, 0), (60, .iload_n 1, 0, 0, 0, 0), (61, .iadd, 0, 0, 0, 0), (62, .iload_n 3, 0, 0, 0, 0), (63, .iastore, 0, 0, 0, 0), (64, .iconst 1, 3, 1, 0, 0), (65, .ireturn, 0, 1, 0, 0)]
set_option maxRecDepth 100000 in
def am_c95 : List am_I := [(0, .iload_n 2, 0, 0, 0, 0), (1, .invokestatic 98, 1, 133, 1, 99), (4, .ifCond .eq 17, 0, 21, 0, 0), (7, .iload_n 2, 0, 0, 0, 0), (8, .aload_n 0, 0, 0, 0, 0), (9, .getfield 26, 0, 10, 2, 2), (12, .getfield 84, 0, 9, 2, 2), (15, .getfield 101, 0, 2, 8, 0), (18, .if_icmp .gt 5, 0, 23, 0, 0), (21, .iconst 0, 3, 0, 0, 0), (22, .ireturn, 0, 1, 0, 0), (23, .iload_n 1, 0, 0, 0, 0), (24, .ifCond .ne 26, 0, 50, 0, 0), (27, .aload_n 0, 0, 0, 0, 0), (28, .getfield 26, 0, 10, 2, 2), (31, .getfield 35, 0, 9, 0, 2), (34, .getfield 104, 0, 0, 2, 2), (37, .iload_n 2, 0, 0, 0, 0), (38, .iload_n 3, 0, 0, 0, 0), (39, .ifCond .eq 7, 0, 46, 0, 0), (42, .iconst 1, 3, 1, 0, 0), (43, .goto 4, 0, 47, 0, 0), (46, .iconst 0, 3, 0, 0, 0), (47, .iastore, 0, 0, 0, 0), (48, .iconst 1, 3, 1, 0, 0), (49, .ireturn, 0, 1, 0, 0), (50, .iload_n 1, 0, 0, 0, 0), (51, .iconst 1, 3, 1, 0, 0), (52, .if_icmp .ne 26, 0, 78, 0, 0), (55, .aload_n 0, 0, 0, 0, 0), (56, .getfield 26, 0, 10, 2, 2), (59, .getfield 35, 0, 9, 0, 2), (62, .getfield 107, 0, 0, 3, 2), (65, .iload_n 2, 0, 0, 0, 0), (66, .iload_n 3, 0, 0, 0, 0), (67, .ifCond .eq 7, 0, 74, 0, 0), (70, .iconst 1, 3, 1, 0, 0), (71, .goto 4, 0, 75, 0, 0), (74, .iconst 0, 3, 0, 0, 0), (75, .iastore, 0, 0, 0, 0), (76, .iconst 1, 3, 1, 0, 0), (77, .ireturn, 0, 1, 0, 0), (78, .iconst 0, 3, 0, 0, 0), (79, .ireturn, 0, 1, 0, 0)]
set_option maxRecDepth 100000 in
def am_c96 : List am_I := [(0, .aload_n 0, 0, 0, 0, 0), (1, .getfield 12, 0, 10, 0, 2), (4, .getfield 110, 0, 6, 1, 0), (7, .bipush 20, 3, 20, 0, 0), (9, .iadd, 0, 0, 0, 0), (10, .sipush 400, 3, 400, 0, 0), (13, .if_icmp .le 5, 0, 18, 0, 0), (16, .iconst (-1), 3, 1, 1, 0), (17, .ireturn, 0, 0, 0, 0), (18, .aload_n 0, 0, 0, 0, 0), (19, .getfield 12, 0, 10, 0, 2), (22, .iload_n 1, 0, 0, 0, 0), (23, .invokevirtual 113, 1, 72, 1, 6), (26, .aload_n 0, 0, 0, 0, 0), (27, .getfield 12, 0, 10, 0, 2), (30, .iload_n 2, 0, 0, 0, 0), (31, .invokevirtual 113, 1, 72, 1, 6), (34, .aload_n 0, 0, 0, 0, 0), (35, .getfield 12, 0, 10, 0, 2), (38, .iload_n 3, 0, 0, 0, 0), (39, .invokevirtual 113, 1, 72, 1, 6), (42, .aload_n 0, 0, 0, 0, 0), (43, .getfield 12, 0, 10, 0, 2), (46, .iload 4, 0, 0, 0, 0), (48, .invokevirtual 113, 1, 72, 1, 6), (51, .aload_n 0, 0, 0, 0, 0), (52, .getfield 12, 0, 10, 0, 2), (55, .iload 5, 0, 0, 0, 0), (57, .invokevirtual 113, 1, 72, 1, 6), (60, .aload_n 0, 0, 0, 0, 0), (61, .getfield 12, 0, 10, 0, 2), (64, .getfield 110, 0, 6, 1, 0), (67, .ireturn, 0, 0, 0, 0)]
set_option maxRecDepth 100000 in
def am_c97 : List am_I := [(0, .iload_n 1, 0, 0, 0, 0), (1, .ifCond .lt 14, 0, 15, 0, 0), (4, .iload_n 1, 0, 0, 0, 0), (5, .aload_n 0, 0, 0, 0, 0), (6, .getfield 12, 0, 10, 0, 2), (9, .getfield 110, 0, 6, 1, 0), (12, .if_icmp .le 5, 0, 17, 0, 0), (15, .iconst 0, 3, 0, 0, 0), (16, .ireturn, 0, 1, 0, 0), (17, .aload_n 0, 0, 0, 0, 0), (18, .getfield 12, 0, 10, 0, 2), (21, .iload_n 1, 0, 0, 0, 0), (22, .putfield 110, 0, 6, 1, 0), (25, .iconst 1, 3, 1, 0, 0), (26, .ireturn, 0, 1, 0, 0)]
set_option maxRecDepth 100000 in
def am_c98 : List am_I := [(0, .aload_n 0, 0, 0, 0, 0), (1, .iconst 0, 3, 0, 0, 0), (2, .putfield 117, 0, 10, 10, 0), (5, .aload_n 0, 0, 0, 0, 0), (6, .iconst (-1), 3, 1, 1, 0), (7, .putfield 73, 0, 10, 11, 0), (10, .iload_n 1, 0, 0, 0, 0), (11, .ifCond .lt 8, 0, 19, 0, 0), (14, .iload_n 1, 0, 0, 0, 0), (15, .iconst 5, 3, 5, 0, 0), (16, .if_icmp .lt 13, 0, 29, 0, 0), (19, .aload_n 0, 0, 0, 0, 0), (20, .getfield 12, 0, 10, 0, 2), (23, .iconst 0, 3, 0, 0, 0), (24, .putfield 110, 0, 6, 1, 0), (27, .iconst (-1), 3, 1, 1, 0), (28, .ireturn, 0, 0, 0, 0), (29, .aload_n 0, 0, 0, 0, 0), (30, .getfield 19, 0, 10, 1, 2), (33, .aload_n 0, 0, 0, 0, 0), (34, .getfield 12, 0, 10, 0, 2), (37, .iload_n 1, 0, 0, 0, 0), (38, .iconst 4, 3, 4, 0, 0), (39, .if_icmp .ne 7, 0, 46, 0, 0), (42, .iconst 1, 3, 1, 0, 0), (43, .goto 4, 0, 47, 0, 0), (46, .iconst 0, 3, 0, 0, 0), (47, .invokevirtual 120, 1, 39, 2, 3), (50, .istore_n 2, 0, 0, 0, 0), (51, .aload_n 0, 0, 0, 0, 0), (52, .getfield 12, 0, 10, 0, 2), (55, .iconst 0, 3, 0, 0, 0), (56, .putfield 110, 0, 6, 1, 0), (59, .iload_n 2, 0, 0, 0, 0), (60, .ifCond .ne 27, 0, 87, 0, 0), (63, .aload_n 0, 0, 0, 0, 0), (64, .aload_n 0, 0, 0, 0, 0), (65, .getfield 19, 0, 10, 1, 2), (68, .getfield 124, 0, 3, 7, 0), (71, .putfield 117, 0, 10, 10, 0), (74, .aload_n 0, 0, 0, 0, 0), (75, .aload_n 0, 0, 0, 0, 0), (76, .getfield 19, 0, 10, 1, 2), (79, .getfield 127, 0, 3, 8, 0), (82, .putfield 73, 0, 10, 11, 0), (85, .iconst (-1), 3, 1, 1, 0), (86, .ireturn, 0, 0, 0, 0), (87, .aload_n 0, 0, 0, 0, 0), (88, .getfield 26, 0, 10, 2, 2), (91, .getfield 35, 0, 9, 0, 2), (94, .getfield 130, 0, 0, 4, 2), (97, .iload_n 1, 0, 0, 0, 0), (98, .aaload, 0, 0, 0, 0), (99, .aload_n 0, 0, 0, 0, 0), (100, .getfield 19, 0, 10, 1, 2), (103, .getfield 134, 0, 3, 0, 2), (106, .invokevirtual 138, 1, 66, 1, 5), (109, .aload_n 0, 0, 0, 0, 0), (110, .getfield 19, 0, 10, 1, 2), (113, .getfield 134, 0, 3, 0, 2), (116, .getfield 144, 0, 5, 6, 0), (119, .ireturn, 0, 0, 0, 0)]
set_option maxRecDepth 100000 in
def am_c99 : List am_I := [(0, .iload_n 1, 0, 0, 0, 0), (1, .ifCond .ne 8, 0, 9, 0, 0), (4, .aload_n 0, 0, 0, 0, 0), (5, .getfield 117, 0, 10, 10, 0), (8, .ireturn, 0, 0, 0, 0), (9, .iload_n 1, 0, 0, 0, 0), (10, .iconst 1, 3, 1, 0, 0), (11, .if_icmp .ne 10, 0, 21, 0, 0), (14, .aload_n 0, 0, 0, 0, 0), (15, .getfield 73, 0, 10, 11, 0), (18, .goto 4, 0, 22, 0, 0), (21, .iconst (-1), 3, 1, 1, 0), (22, .ireturn, 0, 0, 0, 0)]
set_option maxRecDepth 100000 in
def am_c100 : List am_I := [(0, .iload_n 1, 0, 0, 0, 0), (1, .invokestatic 147, 1, 131, 1, 99), (4, .ifCond .eq 26, 0, 30, 0, 0), (7, .iload_n 2, 0, 0, 0, 0), (8, .invokestatic 77, 1, 130, 1, 99), (11, .ifCond .eq 19, 0, 30, 0, 0), (14, .iload_n 3, 0, 0, 0, 0), (15, .ifCond .eq 15, 0, 30, 0, 0), (18, .iload_n 3, 0, 0, 0, 0), (19, .ldc 150, 3, 999999, 0, 0), (21, .if_icmp .gt 9, 0, 30, 0, 0), (24, .iload_n 3, 0, 0, 0, 0), (25, .ldc 151, 3, 999999, 1, 0), (27, .if_icmp .ge 5, 0, 32, 0, 0), (30, .iconst 0, 3, 0, 0, 0), (31, .ireturn, 0, 1, 0, 0), (32, .aload_n 0, 0, 0, 0, 0), (33, .getfield 26, 0, 10, 2, 2), (36, .getfield 84, 0, 9, 2, 2), (39, .astore 4, 0, 0, 0, 0), (41, .aload_n 0, 0, 0, 0, 0), (42, .getfield 26, 0, 10, 2, 2), (45, .getfield 35, 0, 9, 0, 2), (48, .aload 4, 0, 0, 0, 0), (50, .getfield 101, 0, 2, 8, 0), (53, .invokevirtual 152, 1, 3, 1, 0), (56, .ifCond .ne 5, 0, 61, 0, 0), (59, .iconst 0, 3, 0, 0, 0), (60, .ireturn, 0, 1, 0, 0), (61, .iload_n 3, 0, 0, 0, 0), (62, .ifCond .ge 41, 0, 103, 0, 0), (65, .aload 4, 0, 0, 0, 0), (67, .iconst 1, 3, 1, 0, 0), (68, .iload_n 1, 0, 0, 0, 0), (69, .iload_n 2, 0, 0, 0, 0), (70, .iload_n 2, 0, 0, 0, 0), (71, .iload_n 3, 0, 0, 0, 0), (72, .ineg, 0, 0, 0, 0), (73, .aload 4, 0, 0, 0, 0), (75, .getfield 101, 0, 2, 8, 0), (78, .bipush 7, 3, 7, 0, 0), (80, .irem, 0, 0, 0, 0), (81, .invokevirtual 155, 1, 21, 6, 2), (84, .istore 5, 0, 0, 0, 0), (86, .aload 4, 0, 0, 0, 0), (88, .iload_n 1, 0, 0, 0, 0), (89, .iload_n 2, 0, 0, 0, 0), (90, .invokevirtual 159, 1, 19, 2, 2), (93, .iload 5, 0, 0, 0, 0), (95, .iadd, 0, 0, 0, 0), (96, .iload_n 3, 0, 0, 0, 0), (97, .ineg, 0, 0, 0, 0), (98, .if_icmp .ge 5, 0, 103, 0, 0), (101, .iconst 0, 3, 0, 0, 0), (102, .ireturn, 0, 1, 0, 0), (103, .aload 4, 0, 0, 0, 0), (105, .getfield 163, 0, 2, 4, 2), (108, .iload_n 1, 0, 0, 0, 0), (109, .iconst 4, 3, 4, 0, 0), (110, .imul, 0, 0, 0, 0), (111, .iload_n 2, 0, 0, 0, 0), (112, .iadd, 0, 0, 0, 0), (113, .dup2, 0, 0, 0, 0), (114, .iaload, 0, 0, 0, 0), (115, .iload_n 3, 0, 0, 0, 0), (116, .iadd, 0, 0, 0, 0), (117, .iastore, 0, 0, 0, 0), (118, .aload 4, 0, 0, 0, 0), (120, .iload_n 1, 0, 0, 0, 0), (121, .iload_n 2, 0, 0, 0, 0), (122, .iconst 0, 3, 0, 0, 0), (123, .iconst (-1), 3, 1, 1, 0), (124, .iload_n 3, 0, 0, 0, 0), (125, .invokevirtual 166, 1, 22, 5, 2), (128, .iconst 1, 3, 1, 0, 0), (129, .ireturn, 0, 1, 0, 0)]
set_option maxRecDepth 100000 in
def am_c101 : List am_I := [(0, .iload_n 1, 0, 0, 0, 0), (1, .invokestatic 147, 1, 131, 1, 99), (4, .ifCond .eq 33, 0, 37, 0, 0), (7, .iload_n 2, 0, 0, 0, 0), (8, .invokestatic 77, 1, 130, 1, 99), (11, .ifCond .eq 26, 0, 37, 0, 0), (14, .iload_n 3, 0, 0, 0, 0), (15, .invokestatic 147, 1, 131, 1, 99), (18, .ifCond .eq 19, 0, 37, 0, 0), (21, .iload 4, 0, 0, 0, 0), (23, .invokestatic 77, 1, 130, 1, 99), (26, .ifCond .eq 11, 0, 37, 0, 0), (29, .iload 5, 0, 0, 0, 0), (31, .invokestatic 170, 1, 134, 1, 99), (34, .ifCond .ne 5, 0, 39, 0, 0), (37, .iconst (-1), 3, 1, 1, 0), (38, .ireturn, 0, 0, 0, 0), (39, .aload_n 0, 0, 0, 0, 0), (40, .getfield 26, 0, 10, 2, 2), (43, .getfield 84, 0, 9, 2, 2), (46, .astore 6, 0, 0, 0, 0), (48, .aload_n 0, 0, 0, 0, 0), (49, .getfield 26, 0, 10, 2, 2), (52, .getfield 35, 0, 9, 0, 2), (55, .aload 6, 0, 0, 0, 0), (57, .getfield 101, 0, 2, 8, 0), (60, .invokevirtual 152, 1, 3, 1, 0), (63, .ifCond .eq 14, 0, 77, 0, 0), (66, .aload 6, 0, 0, 0, 0), (68, .getfield 87, 0, 2, 9, 0), (71, .sipush 150, 3, 150, 0, 0), (74, .if_icmp .lt 5, 0, 79, 0, 0), (77, .iconst (-1), 3, 1, 1, 0), (78, .ireturn, 0, 0, 0, 0), (79, .aload 6, 0, 0, 0, 0), (81, .iload_n 1, 0, 0, 0, 0), (82, .iload_n 2, 0, 0, 0, 0), (83, .iload_n 3, 0, 0, 0, 0), (84, .iload 4, 0, 0, 0, 0), (86, .iload 5, 0, 0, 0, 0), (88, .invokevirtual 173, 1, 23, 5, 2), (91, .ireturn, 0, 0, 0, 0)]
set_option maxRecDepth 100000 in
def am_c102 : List am_I := [(0, .aload_n 0, 0, 0, 0, 0), (1, .getfield 26, 0, 10, 2, 2), (4, .getfield 84, 0, 9, 2, 2), (7, .astore_n 1, 0, 0, 0, 0), (8, .aload_n 1, 0, 0, 0, 0), (9, .getfield 101, 0, 2, 8, 0), (12, .bipush 89, 3, 89, 0, 0), (14, .if_icmp .lt 5, 0, 19, 0, 0), (17, .iconst (-1), 3, 1, 1, 0), (18, .ireturn, 0, 0, 0, 0), (19, .aload_n 1, 0, 0, 0, 0), (20, .iconst 0, 3, 0, 0, 0), (21, .invokevirtual 177, 1, 24, 1, 2), (24, .istore_n 2, 0, 0, 0, 0), (25, .aload_n 0, 0, 0, 0, 0), (26, .getfield 26, 0, 10, 2, 2), (29, .invokevirtual 181, 1, 90, 0, 9), (32, .aload_n 0, 0, 0, 0, 0), (33, .getfield 51, 0, 10, 5, 2), (36, .invokevirtual 184, 1, 76, 0, 7), (39, .iload_n 2, 0, 0, 0, 0), (40, .ireturn, 0, 0, 0, 0)]
set_option maxRecDepth 100000 in
def am_c103 : List am_I := [(0, .iload_n 1, 0, 0, 0, 0), (1, .invokestatic 147, 1, 131, 1, 99), (4, .ifCond .eq 10, 0, 14, 0, 0), (7, .iload_n 2, 0, 0, 0, 0), (8, .invokestatic 77, 1, 130, 1, 99), (11, .ifCond .ne 6, 0, 17, 0, 0), (14, .ldc 187, 3, 100000000, 1, 0), (16, .ireturn, 0, 0, 0, 0), (17, .aload_n 0, 0, 0, 0, 0), (18, .getfield 26, 0, 10, 2, 2), (21, .getfield 84, 0, 9, 2, 2), (24, .astore 4, 0, 0, 0, 0), (26, .iload_n 3, 0, 0, 0, 0), (27, .tableswitch 65 0 3 #[29, 41, 49, 57], 0, 0, 0, 0), (56, .aload 4, 0, 0, 0, 0), (58, .getfield 188, 0, 2, 3, 2), (61, .iload_n 1, 0, 0, 0, 0), (62, .iconst 4, 3, 4, 0, 0), (63, .imul, 0, 0, 0, 0), (64, .iload_n 2, 0, 0, 0, 0), (65, .iadd, 0, 0, 0, 0), (66, .iaload, 0, 0, 0, 0), (67, .ireturn, 0, 0, 0, 0), (68, .aload 4, 0, 0, 0, 0), (70, .iload_n 1, 0, 0, 0, 0), (71, .iload_n 2, 0, 0, 0, 0), (72, .invokevirtual 159, 1, 19, 2, 2), (75, .ireturn, 0, 0, 0, 0), (76, .aload 4, 0, 0, 0, 0), (78, .iload_n 1, 0, 0, 0, 0), (79, .iload_n 2, 0, 0, 0, 0), (80, .invokevirtual 191, 1, 18, 2, 2), (83, .ireturn, 0, 0, 0, 0), (84, .aload 4, 0, 0, 0, 0), (86, .iload_n 1, 0, 0, 0, 0), (87, .iload_n 2, 0, 0, 0, 0), (88, .invokevirtual 194, 1, 20, 2, 2), (91, .ireturn, 0, 0, 0, 0), (92, .ldc 187, 3, 100000000, 1, 0), (94, .ireturn, 0, 0, 0, 0)]
set_option maxRecDepth 100000 in
def am_c104 : List am_I := [(0, .aload_n 0, 0, 0, 0, 0), (1, .iload_n 1, 0, 0, 0, 0), (2, .invokevirtual 197, 1, 136, 1, 10), (5, .ifCond .eq 13, 0, 18, 0, 0), (8, .iload_n 2, 0, 0, 0, 0), (9, .ifCond .lt 9, 0, 18, 0, 0), (12, .iload_n 2, 0, 0, 0, 0), (13, .bipush 10, 3, 10, 0, 0), (15, .if_icmp .lt 6, 0, 21, 0, 0), (18, .bipush (-2), 3, 2, 1, 0), (20, .ireturn, 0, 0, 0, 0), (21, .aload_n 0, 0, 0, 0, 0), (22, .getfield 26, 0, 10, 2, 2), (25, .getfield 84, 0, 9, 2, 2), (28, .getfield 200, 0, 2, 2, 2), (31, .iload_n 1, 0, 0, 0, 0), (32, .bipush 10, 3, 10, 0, 0), (34, .imul, 0, 0, 0, 0), (35, .iload_n 2, 0, 0, 0, 0), (36, .iadd, 0, 0, 0, 0), (37, .iaload, 0, 0, 0, 0), (38, .ireturn, 0, 0, 0, 0)]
set_option maxRecDepth 100000 in
def am_c105 : List am_I := [(0, .iload_n 1, 0, 0, 0, 0), (1, .invokestatic 147, 1, 131, 1, 99), (4, .ifCond .ne 6, 0, 10, 0, 0), (7, .ldc 187, 3, 100000000, 1, 0), (9, .ireturn, 0, 0, 0, 0), (10, .aload_n 0, 0, 0, 0, 0), (11, .getfield 26, 0, 10, 2, 2), (14, .getfield 84, 0, 9, 2, 2), (17, .iload_n 1, 0, 0, 0, 0), (18, .invokevirtual 203, 1, 30, 1, 2), (21, .istore_n 3, 0, 0, 0, 0), (22, .iload_n 3, 0, 0, 0, 0), (23, .aload_n 0, 0, 0, 0, 0), (24, .getfield 26, 0, 10, 2, 2), (27, .getfield 84, 0, 9, 2, 2), (30, .iload_n 1, 0, 0, 0, 0), (31, .invokevirtual 206, 1, 31, 1, 2), (34, .isub, 0, 0, 0, 0), (35, .istore 4, 0, 0, 0, 0), (37, .iload_n 2, 0, 0, 0, 0), (38, .tableswitch 36 0 2 #[26, 28, 31], 0, 0, 0, 0), (64, .iload_n 3, 0, 0, 0, 0), (65, .ireturn, 0, 0, 0, 0), (66, .iload 4, 0, 0, 0, 0), (68, .ireturn, 0, 0, 0, 0), (69, .iload_n 3, 0, 0, 0, 0), (70, .iload 4, 0, 0, 0, 0), (72, .isub, 0, 0, 0, 0), (73, .ireturn, 0, 0, 0, 0), (74, .ldc 187, 3, 100000000, 1, 0), (76, .ireturn, 0, 0, 0, 0)]
set_option maxRecDepth 100000 in
def am_c106 : List am_I := [(0, .iload_n 1, 0, 0, 0, 0), (1, .ifCond .le 27, 0, 28, 0, 0), (4, .iload_n 1, 0, 0, 0, 0), (5, .bipush 90, 3, 90, 0, 0), (7, .if_icmp .ge 21, 0, 28, 0, 0), (10, .iload_n 1, 0, 0, 0, 0), (11, .aload_n 0, 0, 0, 0, 0), (12, .getfield 26, 0, 10, 2, 2), (15, .getfield 84, 0, 9, 2, 2), (18, .getfield 101, 0, 2, 8, 0), (21, .if_icmp .gt 7, 0, 28, 0, 0), (24, .iconst 1, 3, 1, 0, 0), (25, .goto 4, 0, 29, 0, 0), (28, .iconst 0, 3, 0, 0, 0), (29, .istore 4, 0, 0, 0, 0), (31, .iload 4, 0, 0, 0, 0), (33, .ifCond .eq 20, 0, 53, 0, 0), (36, .iload_n 2, 0, 0, 0, 0), (37, .invokestatic 147, 1, 131, 1, 99), (40, .ifCond .eq 13, 0, 53, 0, 0), (43, .iload_n 3, 0, 0, 0, 0), (44, .ifCond .lt 9, 0, 53, 0, 0), (47, .iload_n 3, 0, 0, 0, 0), (48, .bipush 6, 3, 6, 0, 0), (50, .if_icmp .lt 6, 0, 56, 0, 0), (53, .ldc 187, 3, 100000000, 1, 0), (55, .ireturn, 0, 0, 0, 0), (56, .aload_n 0, 0, 0, 0, 0), (57, .getfield 26, 0, 10, 2, 2), (60, .getfield 209, 0, 9, 3, 2), (63, .iload_n 1, 0, 0, 0, 0), (64, .bipush 6, 3, 6, 0, 0), (66, .imul, 0, 0, 0, 0), (67, .iload_n 2, 0, 0, 0, 0), (68, .iadd, 0, 0, 0, 0), (69, .bipush 6, 3, 6, 0, 0), (71, .imul, 0, 0, 0, 0), (72, .iload_n 3, 0, 0, 0, 0), (73, .iadd, 0, 0, 0, 0), (74, .iaload, 0, 0, 0, 0), (75, .ireturn, 0, 0, 0, 0)]
set_option maxRecDepth 100000 in
def am_c107 : List am_I := [(0, .aload_n 0, 0, 0, 0, 0), (1, .getfield 26, 0, 10, 2, 2), (4, .getfield 84, 0, 9, 2, 2), (7, .astore_n 2, 0, 0, 0, 0), (8, .iload_n 1, 0, 0, 0, 0), (9, .tableswitch 69 0 4 #[35, 43, 48, 56, 64], 0, 0, 0, 0), (44, .aload_n 2, 0, 0, 0, 0), (45, .getfield 188, 0, 2, 3, 2), (48, .invokestatic 212, 1, 139, 1, 99), (51, .ireturn, 0, 0, 0, 0), (52, .aload_n 2, 0, 0, 0, 0), (53, .invokevirtual 216, 1, 32, 0, 2), (56, .ireturn, 0, 0, 0, 0), (57, .aload_n 2, 0, 0, 0, 0), (58, .getfield 163, 0, 2, 4, 2), (61, .invokestatic 212, 1, 139, 1, 99), (64, .ireturn, 0, 0, 0, 0), (65, .aload_n 2, 0, 0, 0, 0), (66, .getfield 220, 0, 2, 5, 2), (69, .invokestatic 212, 1, 139, 1, 99), (72, .ireturn, 0, 0, 0, 0), (73, .aload_n 2, 0, 0, 0, 0), (74, .invokevirtual 223, 1, 33, 0, 2), (77, .ireturn, 0, 0, 0, 0), (78, .iconst (-1), 3, 1, 1, 0), (79, .ireturn, 0, 0, 0, 0)]
set_option maxRecDepth 100000 in
def am_c108 : List am_I := [(0, .iload_n 1, 0, 0, 0, 0), (1, .invokestatic 77, 1, 130, 1, 99), (4, .ifCond .eq 18, 0, 22, 0, 0), (7, .iload_n 2, 0, 0, 0, 0), (8, .invokestatic 77, 1, 130, 1, 99), (11, .ifCond .eq 11, 0, 22, 0, 0), (14, .aload_n 0, 0, 0, 0, 0), (15, .iload_n 3, 0, 0, 0, 0), (16, .invokevirtual 226, 1, 137, 1, 10), (19, .ifCond .ne 5, 0, 24, 0, 0), (22, .iconst (-1), 3, 1, 1, 0), (23, .ireturn, 0, 0, 0, 0), (24, .aload_n 0, 0, 0, 0, 0), (25, .getfield 26, 0, 10, 2, 2), (28, .getfield 35, 0, 9, 0, 2), (31, .iload_n 1, 0, 0, 0, 0), (32, .iload_n 2, 0, 0, 0, 0), (33, .iload_n 3, 0, 0, 0, 0), (34, .invokevirtual 229, 1, 7, 3, 0), (37, .ireturn, 0, 0, 0, 0)]
set_option maxRecDepth 100000 in
def am_c109 : List am_I := [(0, .aload_n 0, 0, 0, 0, 0), (1, .iload_n 1, 0, 0, 0, 0), (2, .iload_n 2, 0, 0, 0, 0), (3, .iload_n 3, 0, 0, 0, 0), (4, .invokevirtual 233, 1, 138, 3, 10), (7, .ifCond .eq 14, 0, 21, 0, 0), (10, .iload 4, 0, 0, 0, 0), (12, .ifCond .lt 9, 0, 21, 0, 0), (15, .iload 4, 0, 0, 0, 0), (17, .iconst 1, 3, 1, 0, 0), (18, .if_icmp .le 5, 0, 23, 0, 0), (21, .iconst (-1), 3, 1, 1, 0), (22, .ireturn, 0, 0, 0, 0), (23, .aload_n 0, 0, 0, 0, 0), (24, .iload_n 2, 0, 0, 0, 0), (25, .iload_n 3, 0, 0, 0, 0), (26, .iconst (-1), 3, 1, 1, 0), (27, .invokevirtual 237, 1, 140, 3, 10), (30, .aload_n 0, 0, 0, 0, 0), (31, .getfield 58, 0, 10, 6, 2), (34, .iload_n 1, 0, 0, 0, 0), (35, .invokevirtual 241, 1, 58, 1, 4), (38, .iload 4, 0, 0, 0, 0), (40, .ifCond .ne 13, 0, 53, 0, 0), (43, .aload_n 0, 0, 0, 0, 0), (44, .getfield 58, 0, 10, 6, 2), (47, .getfield 244, 0, 4, 2, 0), (50, .goto 10, 0, 60, 0, 0), (53, .aload_n 0, 0, 0, 0, 0), (54, .getfield 58, 0, 10, 6, 2), (57, .getfield 247, 0, 4, 3, 0), (60, .ireturn, 0, 0, 0, 0)]
set_option maxRecDepth 100000 in
def am_c110 : List am_I := [(0, .aload_n 0, 0, 0, 0, 0), (1, .iload_n 1, 0, 0, 0, 0), (2, .iload_n 2, 0, 0, 0, 0), (3, .iload_n 3, 0, 0, 0, 0), (4, .invokevirtual 233, 1, 138, 3, 10), (7, .ifCond .eq 15, 0, 22, 0, 0), (10, .iload 4, 0, 0, 0, 0), (12, .ifCond .lt 10, 0, 22, 0, 0), (15, .iload 4, 0, 0, 0, 0), (17, .bipush 20, 3, 20, 0, 0), (19, .if_icmp .le 5, 0, 24, 0, 0), (22, .iconst (-1), 3, 1, 1, 0), (23, .ireturn, 0, 0, 0, 0), (24, .aload_n 0, 0, 0, 0, 0), (25, .iload_n 2, 0, 0, 0, 0), (26, .iload_n 3, 0, 0, 0, 0), (27, .iload 4, 0, 0, 0, 0), (29, .invokevirtual 237, 1, 140, 3, 10), (32, .aload_n 0, 0, 0, 0, 0), (33, .getfield 58, 0, 10, 6, 2), (36, .iload_n 1, 0, 0, 0, 0), (37, .invokevirtual 241, 1, 58, 1, 4), (40, .aload_n 0, 0, 0, 0, 0), (41, .getfield 58, 0, 10, 6, 2), (44, .getfield 244, 0, 4, 2, 0), (47, .ireturn, 0, 0, 0, 0)]
set_option maxRecDepth 100000 in
def am_c111 : List am_I := [(0, .aload_n 0, 0, 0, 0, 0), (1, .iload_n 1, 0, 0, 0, 0), (2, .iconst 1, 3, 1, 0, 0), (3, .iload_n 2, 0, 0, 0, 0), (4, .invokevirtual 233, 1, 138, 3, 10), (7, .ifCond .eq 12, 0, 19, 0, 0), (10, .iload_n 3, 0, 0, 0, 0), (11, .ifCond .lt 8, 0, 19, 0, 0), (14, .iload_n 3, 0, 0, 0, 0), (15, .iconst 2, 3, 2, 0, 0), (16, .if_icmp .le 5, 0, 21, 0, 0), (19, .iconst (-1), 3, 1, 1, 0), (20, .ireturn, 0, 0, 0, 0), (21, .aload_n 0, 0, 0, 0, 0), (22, .getfield 26, 0, 10, 2, 2), (25, .getfield 35, 0, 9, 0, 2), (28, .astore 4, 0, 0, 0, 0), (30, .iconst 0, 3, 0, 0, 0), (31, .istore 5, 0, 0, 0, 0), (33, .iconst 0, 3, 0, 0, 0), (34, .istore 6, 0, 0, 0, 0), (36, .iload 6, 0, 0, 0, 0), (38, .iconst 4, 3, 4, 0, 0), (39, .if_icmp .ge 95, 0, 134, 0, 0), (42, .iconst 0, 3, 0, 0, 0), (43, .istore 7, 0, 0, 0, 0), (45, .iload 7, 0, 0, 0, 0), (47, .iconst 4, 3, 4, 0, 0), (48, .if_icmp .ge 80, 0, 128, 0, 0), (51, .aload 4, 0, 0, 0, 0), (53, .iload 7, 0, 0, 0, 0), (55, .iload 6, 0, 0, 0, 0), (57, .invokevirtual 250, 1, 5, 2, 0), (60, .istore 8, 0, 0, 0, 0), (62, .iload_n 3, 0, 0, 0, 0), (63, .ifCond .eq 23, 0, 86, 0, 0), (66, .iload_n 3, 0, 0, 0, 0), (67, .iconst 1, 3, 1, 0, 0), (68, .if_icmp .ne 8, 0, 76, 0, 0), (71, .iload 8, 0, 0, 0, 0), (73, .ifCond .eq 13, 0, 86, 0, 0), (76, .iload_n 3, 0, 0, 0, 0), (77, .iconst 2, 3, 2, 0, 0), (78, .if_icmp .ne 12, 0, 90, 0, 0), (81, .iload 8, 0, 0, 0, 0), (83, .ifCond .eq 7, 0, 90, 0, 0), (86, .iconst 1, 3, 1, 0, 0), (87, .goto 4, 0, 91, 0, 0), (90, .iconst 0, 3, 0, 0, 0), (91, .istore 9, 0, 0, 0, 0), (93, .iload 6, 0, 0, 0, 0), (95, .iload 7, 0, 0, 0, 0), (97, .if_icmp .eq 25, 0, 122, 0, 0), (100, .iload 9, 0, 0, 0, 0), (102, .ifCond .eq 20, 0, 122, 0, 0), (105, .iload 5, 0, 0, 0, 0), (107, .aload 4, 0, 0, 0, 0), (109, .iload 7, 0, 0, 0, 0), (111, .iload 6, 0, 0, 0, 0), (113, .iload_n 2, 0, 0, 0, 0), (114, .invokevirtual 229, 1, 7, 3, 0), (117, .invokestatic 254, 1, 254, 2, 99), (120, .istore 5, 0, 0, 0, 0), (122, .iinc 7 1, 3, 1, 0, 0), (125, .goto (-80), 0, 45, 0, 0), (128, .iinc 6 1, 3, 1, 0, 0), (131, .goto (-95), 0, 36, 0, 0), (134, .iload 5, 0, 0, 0, 0), (136, .ireturn, 0, 0, 0, 0)]
set_option maxRecDepth 100000 in
def am_c112 : List am_I := [(0, .aload_n 0, 0, 0, 0, 0), (1, .iload_n 1, 0, 0, 0, 0), (2, .invokevirtual 197, 1, 136, 1, 10), (5, .ifCond .ne 6, 0, 11, 0, 0), (8, .bipush (-2), 3, 2, 1, 0), (10, .ireturn, 0, 0, 0, 0), (11, .aload_n 0, 0, 0, 0, 0), (12, .getfield 26, 0, 10, 2, 2), (15, .getfield 84, 0, 9, 2, 2), (18, .astore_n 3, 0, 0, 0, 0), (19, .iconst 0, 3, 0, 0, 0), (20, .istore 4, 0, 0, 0, 0), (22, .iload_n 1, 0, 0, 0, 0), (23, .istore 5, 0, 0, 0, 0), (25, .iload_n 1, 0, 0, 0, 0), (26, .istore 6, 0, 0, 0, 0), (28, .iload 6, 0, 0, 0, 0), (30, .iconst (-1), 3, 1, 1, 0), (31, .if_icmp .eq 29, 0, 60, 0, 0), (34, .iload 4, 0, 0, 0, 0), (36, .sipush 150, 3, 150, 0, 0), (39, .if_icmp .ge 21, 0, 60, 0, 0), (42, .iload 6, 0, 0, 0, 0), (44, .istore 5, 0, 0, 0, 0), (46, .iinc 4 1, 3, 1, 0, 0), (49, .aload_n 3, 0, 0, 0, 0), (50, .iload 6, 0, 0, 0, 0), (52, .invokevirtual 259, 1, 36, 1, 2), (55, .istore 6, 0, 0, 0, 0), (57, .goto (-29), 0, 28, 0, 0), (60, .iload_n 2, 0, 0, 0, 0), (61, .tableswitch 58 0 3 #[31, 37, 40, 43], 0, 0, 0, 0), (92, .aload_n 3, 0, 0, 0, 0), (93, .iload_n 1, 0, 0, 0, 0), (94, .invokevirtual 259, 1, 36, 1, 2), (97, .ireturn, 0, 0, 0, 0), (98, .iload 4, 0, 0, 0, 0), (100, .ireturn, 0, 0, 0, 0), (101, .iload 5, 0, 0, 0, 0), (103, .ireturn, 0, 0, 0, 0), (104, .aload_n 3, 0, 0, 0, 0), (105, .iload_n 1, 0, 0, 0, 0), (106, .iconst 5, 3, 5, 0, 0), (107, .invokevirtual 262, 1, 13, 2, 2), (110, .aload_n 3, 0, 0, 0, 0), (111, .iload 5, 0, 0, 0, 0), (113, .iconst 5, 3, 5, 0, 0), (114, .invokevirtual 262, 1, 13, 2, 2), (117, .isub, 0, 0, 0, 0), (118, .ireturn, 0, 0, 0, 0), (119, .bipush (-2), 3, 2, 1, 0), (121, .ireturn, 0, 0, 0, 0)]
set_option maxRecDepth 100000 in
def am_c113 : List am_I := [(0, .iload_n 1, 0, 0, 0, 0), (1, .ifCond .lt 27, 0, 28, 0, 0), (4, .iload_n 1, 0, 0, 0, 0), (5, .aload_n 0, 0, 0, 0, 0), (6, .getfield 26, 0, 10, 2, 2), (9, .getfield 265, 0, 9, 1, 2), (12, .getfield 269, 0, 1, 1, 0), (15, .if_icmp .ge 13, 0, 28, 0, 0), (18, .iload_n 2, 0, 0, 0, 0), (19, .ifCond .lt 9, 0, 28, 0, 0), (22, .iload_n 2, 0, 0, 0, 0), (23, .bipush 7, 3, 7, 0, 0), (25, .if_icmp .lt 6, 0, 31, 0, 0), (28, .ldc 187, 3, 100000000, 1, 0), (30, .ireturn, 0, 0, 0, 0), (31, .aload_n 0, 0, 0, 0, 0), (32, .getfield 26, 0, 10, 2, 2), (35, .getfield 265, 0, 9, 1, 2), (38, .getfield 272, 0, 1, 0, 2), (41, .iload_n 1, 0, 0, 0, 0), (42, .bipush 7, 3, 7, 0, 0), (44, .imul, 0, 0, 0, 0), (45, .iload_n 2, 0, 0, 0, 0), (46, .iadd, 0, 0, 0, 0), (47, .iaload, 0, 0, 0, 0), (48, .ireturn, 0, 0, 0, 0)]
set_option maxRecDepth 100000 in
def am_c114 : List am_I := [(0, .iload_n 1, 0, 0, 0, 0), (1, .ifCond .lt 25, 0, 26, 0, 0), (4, .iload_n 1, 0, 0, 0, 0), (5, .ldc_w 273, 3, 999999999, 0, 0), (8, .if_icmp .gt 18, 0, 26, 0, 0), (11, .iload_n 2, 0, 0, 0, 0), (12, .ifCond .lt 14, 0, 26, 0, 0), (15, .iload_n 2, 0, 0, 0, 0), (16, .sipush 500, 3, 500, 0, 0), (19, .if_icmp .gt 7, 0, 26, 0, 0), (22, .iconst 1, 3, 1, 0, 0), (23, .goto 4, 0, 27, 0, 0), (26, .iconst 0, 3, 0, 0, 0), (27, .istore 4, 0, 0, 0, 0), (29, .iload 4, 0, 0, 0, 0), (31, .ifCond .eq 13, 0, 44, 0, 0), (34, .iload_n 3, 0, 0, 0, 0), (35, .ifCond .lt 9, 0, 44, 0, 0), (38, .iload_n 3, 0, 0, 0, 0), (39, .bipush 60, 3, 60, 0, 0), (41, .if_icmp .le 5, 0, 46, 0, 0), (44, .iconst (-1), 3, 1, 1, 0), (45, .ireturn, 0, 0, 0, 0), (46, .iload_n 1, 0, 0, 0, 0), (47, .i2l, 0, 0, 0, 0), (48, .lstore 5, 0, 0, 0, 0), (50, .iconst 0, 3, 0, 0, 0), (51, .istore 7, 0, 0, 0, 0), (53, .iload 7, 0, 0, 0, 0), (55, .iload_n 3, 0, 0, 0, 0), (56, .if_icmp .ge 29, 0, 85, 0, 0), (59, .ldc2_w 274, 5, 999999999, 0, 0), (62, .lload 5, 0, 0, 0, 0), (64, .lload 5, 0, 0, 0, 0), (66, .iload_n 2, 0, 0, 0, 0), (67, .i2l, 0, 0, 0, 0), (68, .lmul, 0, 0, 0, 0), (69, .ldc2_w 276, 5, 1000, 0, 0), (72, .ldiv, 0, 0, 0, 0), (73, .ladd, 0, 0, 0, 0), (74, .invokestatic 278, 1, 256, 2, 99), (77, .lstore 5, 0, 0, 0, 0), (79, .iinc 7 1, 3, 1, 0, 0), (82, .goto (-29), 0, 53, 0, 0), (85, .lload 5, 0, 0, 0, 0), (87, .l2i, 0, 0, 0, 0), (88, .ireturn, 0, 0, 0, 0)]
set_option maxRecDepth 100000 in
def am_c115 : List am_I := [(0, .iload_n 1, 0, 0, 0, 0), (1, .invokestatic 147, 1, 131, 1, 99), (4, .ifCond .eq 20, 0, 24, 0, 0), (7, .iload_n 2, 0, 0, 0, 0), (8, .invokestatic 282, 1, 135, 1, 99), (11, .ifCond .eq 13, 0, 24, 0, 0), (14, .iload_n 3, 0, 0, 0, 0), (15, .ifCond .lt 9, 0, 24, 0, 0), (18, .iload_n 3, 0, 0, 0, 0), (19, .bipush 7, 3, 7, 0, 0), (21, .if_icmp .le 6, 0, 27, 0, 0), (24, .ldc 187, 3, 100000000, 1, 0), (26, .ireturn, 0, 0, 0, 0), (27, .iload_n 3, 0, 0, 0, 0), (28, .bipush 7, 3, 7, 0, 0), (30, .if_icmp .ne 21, 0, 51, 0, 0), (33, .aload_n 0, 0, 0, 0, 0), (34, .getfield 51, 0, 10, 5, 2), (37, .iload_n 1, 0, 0, 0, 0), (38, .iload_n 2, 0, 0, 0, 0), (39, .invokevirtual 285, 1, 74, 2, 7), (42, .ifCond .eq 7, 0, 49, 0, 0), (45, .iconst 1, 3, 1, 0, 0), (46, .goto 4, 0, 50, 0, 0), (49, .iconst 0, 3, 0, 0, 0), (50, .ireturn, 0, 0, 0, 0), (51, .aload_n 0, 0, 0, 0, 0), (52, .getfield 51, 0, 10, 5, 2), (55, .iload_n 1, 0, 0, 0, 0), (56, .iload_n 2, 0, 0, 0, 0), (57, .invokevirtual 288, 1, 78, 2, 7), (60, .aload_n 0, 0, 0, 0, 0), (61, .getfield 51, 0, 10, 5, 2), (64, .getfield 292, 0, 7, 1, 2), (67, .iload_n 3, 0, 0, 0, 0), (68, .iaload, 0, 0, 0, 0), (69, .ireturn, 0, 0, 0, 0)]
set_option maxRecDepth 100000 in
def am_c116 : List am_I := [(0, .iload_n 1, 0, 0, 0, 0), (1, .ifCond .lt 9, 0, 10, 0, 0), (4, .iload_n 1, 0, 0, 0, 0), (5, .bipush 63, 3, 63, 0, 0), (7, .if_icmp .le 5, 0, 12, 0, 0), (10, .iconst 0, 3, 0, 0, 0), (11, .ireturn, 0, 1, 0, 0), (12, .aload_n 0, 0, 0, 0, 0), (13, .getfield 26, 0, 10, 2, 2), (16, .iload_n 1, 0, 0, 0, 0), (17, .putfield 295, 0, 9, 8, 0), (20, .iconst 1, 3, 1, 0, 0), (21, .ireturn, 0, 1, 0, 0)]
set_option maxRecDepth 100000 in
def am_c117 : List am_I := [(0, .iload_n 1, 0, 0, 0, 0), (1, .invokestatic 282, 1, 135, 1, 99), (4, .ifCond .ne 5, 0, 9, 0, 0), (7, .iconst (-1), 3, 1, 1, 0), (8, .ireturn, 0, 0, 0, 0), (9, .aload_n 0, 0, 0, 0, 0), (10, .getfield 51, 0, 10, 5, 2), (13, .iload_n 1, 0, 0, 0, 0), (14, .invokevirtual 298, 1, 75, 1, 7), (17, .istore_n 3, 0, 0, 0, 0), (18, .iload_n 3, 0, 0, 0, 0), (19, .aload_n 0, 0, 0, 0, 0), (20, .getfield 26, 0, 10, 2, 2), (23, .getfield 295, 0, 9, 8, 0), (26, .iand, 0, 0, 0, 0), (27, .invokestatic 301, 1, 257, 1, 99), (30, .istore 4, 0, 0, 0, 0), (32, .iload_n 3, 0, 0, 0, 0), (33, .aload_n 0, 0, 0, 0, 0), (34, .getfield 26, 0, 10, 2, 2), (37, .getfield 295, 0, 9, 8, 0), (40, .iconst (-1), 3, 1, 1, 0), (41, .ixor, 0, 0, 0, 0), (42, .iand, 0, 0, 0, 0), (43, .invokestatic 301, 1, 257, 1, 99), (46, .istore 5, 0, 0, 0, 0), (48, .iload_n 2, 0, 0, 0, 0), (49, .tableswitch 83 0 4 #[35, 37, 40, 43, 58], 0, 0, 0, 0), (84, .iload_n 3, 0, 0, 0, 0), (85, .ireturn, 0, 0, 0, 0), (86, .iload 4, 0, 0, 0, 0), (88, .ireturn, 0, 0, 0, 0), (89, .iload 5, 0, 0, 0, 0), (91, .ireturn, 0, 0, 0, 0), (92, .aload_n 0, 0, 0, 0, 0), (93, .getfield 26, 0, 10, 2, 2), (96, .getfield 295, 0, 9, 8, 0), (99, .iload_n 3, 0, 0, 0, 0), (100, .iconst (-1), 3, 1, 1, 0), (101, .ixor, 0, 0, 0, 0), (102, .iand, 0, 0, 0, 0), (103, .invokestatic 301, 1, 257, 1, 99), (106, .ireturn, 0, 0, 0, 0), (107, .iload 4, 0, 0, 0, 0), (109, .iload 5, 0, 0, 0, 0), (111, .iadd, 0, 0, 0, 0), (112, .ifCond .ne 7, 0, 119, 0, 0), (115, .iconst (-1), 3, 1, 1, 0), (116, .goto 15, 0, 131, 0, 0), (119, .sipush 1000, 3, 1000, 0, 0), (122, .iload 4, 0, 0, 0, 0), (124, .imul, 0, 0, 0, 0), (125, .iload 4, 0, 0, 0, 0), (127, .iload 5, 0, 0, 0, 0), (129, .iadd, 0, 0, 0, 0), (130, .idiv, 0, 0, 0, 0), (131, .ireturn, 0, 0, 0, 0), (132, .iconst (-1), 3, 1, 1, 0), (133, .ireturn, 0, 0, 0, 0)]
set_option maxRecDepth 100000 in
def am_c118 : List am_I := [(0, .iload_n 1, 0, 0, 0, 0), (1, .invokestatic 147, 1, 131, 1, 99), (4, .ifCond .eq 19, 0, 23, 0, 0), (7, .iload_n 2, 0, 0, 0, 0), (8, .invokestatic 282, 1, 135, 1, 99), (11, .ifCond .eq 12, 0, 23, 0, 0), (14, .iload_n 3, 0, 0, 0, 0), (15, .ifCond .lt 8, 0, 23, 0, 0), (18, .iload_n 3, 0, 0, 0, 0), (19, .iconst 1, 3, 1, 0, 0), (20, .if_icmp .le 5, 0, 25, 0, 0), (23, .iconst (-1), 3, 1, 1, 0), (24, .ireturn, 0, 0, 0, 0), (25, .aload_n 0, 0, 0, 0, 0), (26, .getfield 51, 0, 10, 5, 2), (29, .iload_n 1, 0, 0, 0, 0), (30, .iload_n 2, 0, 0, 0, 0), (31, .invokevirtual 306, 1, 77, 2, 7), (34, .istore 4, 0, 0, 0, 0), (36, .iconst 0, 3, 0, 0, 0), (37, .istore 5, 0, 0, 0, 0), (39, .iconst 0, 3, 0, 0, 0), (40, .istore 6, 0, 0, 0, 0), (42, .iload 6, 0, 0, 0, 0), (44, .bipush 6, 3, 6, 0, 0), (46, .if_icmp .ge 92, 0, 138, 0, 0), (49, .iload 6, 0, 0, 0, 0), (51, .iload_n 1, 0, 0, 0, 0), (52, .if_icmp .eq 80, 0, 132, 0, 0), (55, .aload_n 0, 0, 0, 0, 0), (56, .getfield 26, 0, 10, 2, 2), (59, .iload 6, 0, 0, 0, 0), (61, .invokevirtual 309, 1, 89, 1, 9), (64, .ifCond .eq 6, 0, 70, 0, 0), (67, .goto 65, 0, 132, 0, 0), (70, .aload_n 0, 0, 0, 0, 0), (71, .getfield 51, 0, 10, 5, 2), (74, .iload 6, 0, 0, 0, 0), (76, .iload_n 2, 0, 0, 0, 0), (77, .invokevirtual 306, 1, 77, 2, 7), (80, .istore 7, 0, 0, 0, 0), (82, .iload 7, 0, 0, 0, 0), (84, .iload 4, 0, 0, 0, 0), (86, .iconst 2, 3, 2, 0, 0), (87, .idiv, 0, 0, 0, 0), (88, .if_icmp .lt 16, 0, 104, 0, 0), (91, .iload 7, 0, 0, 0, 0), (93, .iload 4, 0, 0, 0, 0), (95, .iconst 2, 3, 2, 0, 0), (96, .imul, 0, 0, 0, 0), (97, .if_icmp .gt 7, 0, 104, 0, 0), (100, .iconst 1, 3, 1, 0, 0), (101, .goto 4, 0, 105, 0, 0), (104, .iconst 0, 3, 0, 0, 0), (105, .istore 8, 0, 0, 0, 0), (107, .iload 8, 0, 0, 0, 0), (109, .ifCond .eq 23, 0, 132, 0, 0), (112, .iload_n 3, 0, 0, 0, 0), (113, .ifCond .eq 16, 0, 129, 0, 0), (116, .aload_n 0, 0, 0, 0, 0), (117, .getfield 51, 0, 10, 5, 2), (120, .iload 6, 0, 0, 0, 0), (122, .iload_n 2, 0, 0, 0, 0), (123, .invokevirtual 285, 1, 74, 2, 7), (126, .ifCond .eq 6, 0, 132, 0, 0), (129, .iinc 5 1, 3, 1, 0, 0), (132, .iinc 6 1, 3, 1, 0, 0), (135, .goto (-93), 0, 42, 0, 0), (138, .iload 5, 0, 0, 0, 0), (140, .ireturn, 0, 0, 0, 0)]
set_option maxRecDepth 100000 in
def am_c119 : List am_I := [(0, .iload_n 1, 0, 0, 0, 0), (1, .invokestatic 147, 1, 131, 1, 99), (4, .ifCond .eq 10, 0, 14, 0, 0), (7, .iload_n 2, 0, 0, 0, 0), (8, .invokestatic 77, 1, 130, 1, 99), (11, .ifCond .ne 5, 0, 16, 0, 0), (14, .iconst (-1), 3, 1, 1, 0), (15, .ireturn, 0, 0, 0, 0), (16, .aload_n 0, 0, 0, 0, 0), (17, .getfield 26, 0, 10, 2, 2), (20, .getfield 312, 0, 9, 4, 2), (23, .iload_n 1, 0, 0, 0, 0), (24, .iconst 4, 3, 4, 0, 0), (25, .imul, 0, 0, 0, 0), (26, .iload_n 2, 0, 0, 0, 0), (27, .iadd, 0, 0, 0, 0), (28, .iaload, 0, 0, 0, 0), (29, .ireturn, 0, 0, 0, 0)]
set_option maxRecDepth 100000 in
def am_c120 : List am_I := [(0, .iload_n 1, 0, 0, 0, 0), (1, .iconst (-1), 3, 1, 1, 0), (2, .if_icmp .ne 51, 0, 53, 0, 0), (5, .iconst 0, 3, 0, 0, 0), (6, .istore_n 3, 0, 0, 0, 0), (7, .aload_n 0, 0, 0, 0, 0), (8, .iconst 0, 3, 0, 0, 0), (9, .invokevirtual 315, 1, 141, 1, 10), (12, .istore 4, 0, 0, 0, 0), (14, .iconst 1, 3, 1, 0, 0), (15, .istore 5, 0, 0, 0, 0), (17, .iload 5, 0, 0, 0, 0), (19, .iconst 4, 3, 4, 0, 0), (20, .if_icmp .ge 31, 0, 51, 0, 0), (23, .aload_n 0, 0, 0, 0, 0), (24, .iload 5, 0, 0, 0, 0), (26, .invokevirtual 315, 1, 141, 1, 10), (29, .istore 6, 0, 0, 0, 0), (31, .iload 6, 0, 0, 0, 0), (33, .iload 4, 0, 0, 0, 0), (35, .if_icmp .ge 10, 0, 45, 0, 0), (38, .iload 5, 0, 0, 0, 0), (40, .istore_n 3, 0, 0, 0, 0), (41, .iload 6, 0, 0, 0, 0), (43, .istore 4, 0, 0, 0, 0), (45, .iinc 5 1, 3, 1, 0, 0), (48, .goto (-31), 0, 17, 0, 0), (51, .iload_n 3, 0, 0, 0, 0), (52, .ireturn, 0, 0, 0, 0), (53, .iload_n 1, 0, 0, 0, 0), (54, .ifCond .lt 8, 0, 62, 0, 0), (57, .iload_n 1, 0, 0, 0, 0), (58, .iconst 4, 3, 4, 0, 0), (59, .if_icmp .lt 5, 0, 64, 0, 0), (62, .iconst (-1), 3, 1, 1, 0), (63, .ireturn, 0, 0, 0, 0), (64, .iload_n 2, 0, 0, 0, 0), (65, .bipush 10, 3, 10, 0, 0), (67, .if_icmp .lt 13, 0, 80, 0, 0), (70, .iload_n 2, 0, 0, 0, 0), (71, .bipush 14, 3, 14, 0, 0), (73, .if_icmp .ge 7, 0, 80, 0, 0), (76, .iconst 1, 3, 1, 0, 0), (77, .goto 4, 0, 81, 0, 0), (80, .iconst 0, 3, 0, 0, 0), (81, .istore_n 3, 0, 0, 0, 0), (82, .iload_n 3, 0, 0, 0, 0), (83, .ifCond .ne 14, 0, 97, 0, 0), (86, .iload_n 2, 0, 0, 0, 0), (87, .ifCond .lt 8, 0, 95, 0, 0), (90, .iload_n 2, 0, 0, 0, 0), (91, .iconst 2, 3, 2, 0, 0), (92, .if_icmp .le 5, 0, 97, 0, 0), (95, .iconst (-1), 3, 1, 1, 0), (96, .ireturn, 0, 0, 0, 0), (97, .aload_n 0, 0, 0, 0, 0), (98, .iload_n 1, 0, 0, 0, 0), (99, .invokevirtual 315, 1, 141, 1, 10), (102, .istore 4, 0, 0, 0, 0), (104, .iload_n 3, 0, 0, 0, 0), (105, .ifCond .eq 15, 0, 120, 0, 0), (108, .aload_n 0, 0, 0, 0, 0), (109, .getfield 42, 0, 10, 4, 2), (112, .iload_n 2, 0, 0, 0, 0), (113, .bipush 10, 3, 10, 0, 0), (115, .isub, 0, 0, 0, 0), (116, .invokevirtual 318, 1, 34, 1, 2), (119, .ireturn, 0, 0, 0, 0), (120, .iload_n 2, 0, 0, 0, 0), (121, .iconst 2, 3, 2, 0, 0), (122, .if_icmp .ne 6, 0, 128, 0, 0), (125, .iload 4, 0, 0, 0, 0), (127, .ireturn, 0, 0, 0, 0), (128, .iload_n 2, 0, 0, 0, 0), (129, .ifCond .ne 10, 0, 139, 0, 0), (132, .aload_n 0, 0, 0, 0, 0), (133, .getfield 321, 0, 10, 13, 0), (136, .goto 7, 0, 143, 0, 0), (139, .aload_n 0, 0, 0, 0, 0), (140, .getfield 324, 0, 10, 14, 0), (143, .ireturn, 0, 0, 0, 0)]
set_option maxRecDepth 100000 in
def am_c121 : List am_I := [(0, .aload_n 0, 0, 0, 0, 0), (1, .getfield 26, 0, 10, 2, 2), (4, .getfield 35, 0, 9, 0, 2), (7, .astore_n 1, 0, 0, 0, 0), (8, .aload_n 0, 0, 0, 0, 0), (9, .iconst 0, 3, 0, 0, 0), (10, .invokevirtual 315, 1, 141, 1, 10), (13, .istore_n 2, 0, 0, 0, 0), (14, .aload_n 0, 0, 0, 0, 0), (15, .getfield 26, 0, 10, 2, 2), (18, .getfield 84, 0, 9, 2, 2), (21, .getfield 101, 0, 2, 8, 0), (24, .bipush 14, 3, 14, 0, 0), (26, .iadd, 0, 0, 0, 0), (27, .bipush 89, 3, 89, 0, 0), (29, .invokestatic 327, 1, 255, 2, 99), (32, .istore_n 3, 0, 0, 0, 0), (33, .iconst (-1), 3, 1, 1, 0), (34, .istore 4, 0, 0, 0, 0), (36, .aload_n 0, 0, 0, 0, 0), (37, .getfield 26, 0, 10, 2, 2), (40, .getfield 84, 0, 9, 2, 2), (43, .getfield 101, 0, 2, 8, 0), (46, .iconst 1, 3, 1, 0, 0), (47, .iadd, 0, 0, 0, 0), (48, .istore 5, 0, 0, 0, 0), (50, .iload 5, 0, 0, 0, 0), (52, .iload_n 3, 0, 0, 0, 0), (53, .if_icmp .gt 51, 0, 104, 0, 0), (56, .iload 4, 0, 0, 0, 0), (58, .iconst (-1), 3, 1, 1, 0), (59, .if_icmp .ne 45, 0, 104, 0, 0), (62, .aload_n 1, 0, 0, 0, 0), (63, .iload 5, 0, 0, 0, 0), (65, .invokevirtual 329, 1, 4, 1, 0), (68, .ifCond .eq 6, 0, 74, 0, 0), (71, .goto 27, 0, 98, 0, 0), (74, .aload_n 1, 0, 0, 0, 0), (75, .iload 5, 0, 0, 0, 0), (77, .putfield 332, 0, 0, 5, 0), (80, .aload_n 0, 0, 0, 0, 0), (81, .iconst 0, 3, 0, 0, 0), (82, .invokevirtual 315, 1, 141, 1, 10), (85, .iload_n 2, 0, 0, 0, 0), (86, .if_icmp .le 7, 0, 93, 0, 0), (89, .iload 5, 0, 0, 0, 0), (91, .istore 4, 0, 0, 0, 0), (93, .aload_n 1, 0, 0, 0, 0), (94, .iconst (-1), 3, 1, 1, 0), (95, .putfield 332, 0, 0, 5, 0), (98, .iinc 5 1, 3, 1, 0, 0), (101, .goto (-51), 0, 50, 0, 0), (104, .iload 4, 0, 0, 0, 0), (106, .ireturn, 0, 0, 0, 0)]
set_option maxRecDepth 100000 in
def am_c122 : List am_I := [(0, .iload_n 1, 0, 0, 0, 0), (1, .ifCond .ne 13, 0, 14, 0, 0), (4, .aload_n 0, 0, 0, 0, 0), (5, .getfield 26, 0, 10, 2, 2), (8, .iconst 0, 3, 0, 0, 0), (9, .putfield 335, 0, 9, 7, 0), (12, .iconst 0, 3, 0, 0, 0), (13, .ireturn, 0, 0, 0, 0), (14, .iload_n 1, 0, 0, 0, 0), (15, .invokestatic 170, 1, 134, 1, 99), (18, .ifCond .eq 22, 0, 40, 0, 0), (21, .iload_n 2, 0, 0, 0, 0), (22, .invokestatic 81, 1, 132, 1, 99), (25, .ifCond .eq 15, 0, 40, 0, 0), (28, .aload_n 0, 0, 0, 0, 0), (29, .getfield 26, 0, 10, 2, 2), (32, .getfield 335, 0, 9, 7, 0), (35, .bipush 6, 3, 6, 0, 0), (37, .if_icmp .lt 5, 0, 42, 0, 0), (40, .iconst (-1), 3, 1, 1, 0), (41, .ireturn, 0, 0, 0, 0), (42, .aload_n 0, 0, 0, 0, 0), (43, .getfield 26, 0, 10, 2, 2), (46, .getfield 338, 0, 9, 5, 2), (49, .aload_n 0, 0, 0, 0, 0), (50, .getfield 26, 0, 10, 2, 2), (53, .getfield 335, 0, 9, 7, 0), (56, .iload_n 1, 0, 0, 0, 0), (57, .iastore, 0, 0, 0, 0), (58, .aload_n 0, 0, 0, 0, 0), (59, .getfield 26, 0, 10, 2, 2), (62, .getfield 341, 0, 9, 6, 2), (65, .aload_n 0, 0, 0, 0, 0), (66, .getfield 26, 0, 10, 2, 2), (69, .getfield 335, 0, 9, 7, 0), (72, .iload_n 2, 0, 0, 0, 0), (73, .iastore, 0, 0, 0, 0), (74, .aload_n 0, 0, 0, 0, 0), (75, .getfield 26, 0, 10, 2, 2), (78, .dup, 0, 0, 0, 0), (79, .getfield 335, 0, 9, 7, 0), (82, .iconst 1, 3, 1, 0, 0), (83, .iadd, 0, 0, 0, 0), (84, .putfield 335, 0, 9, 7, 0), (87, .aload_n 0, 0, 0, 0, 0), (88, .getfield 26, 0, 10, 2, 2), (91, .getfield 335, 0, 9, 7, 0), (94, .ireturn, 0, 0, 0, 0)]
set_option maxRecDepth 100000 in
def am_c123 : List am_I := [(0, .iload_n 1, 0, 0, 0, 0), (1, .invokestatic 147, 1, 131, 1, 99), (4, .ifCond .eq 18, 0, 22, 0, 0), (7, .aload_n 0, 0, 0, 0, 0), (8, .getfield 65, 0, 10, 7, 2), (11, .aload_n 0, 0, 0, 0, 0), (12, .getfield 26, 0, 10, 2, 2), (15, .iload_n 1, 0, 0, 0, 0), (16, .invokevirtual 344, 1, 83, 2, 8), (19, .ifCond .ne 5, 0, 24, 0, 0), (22, .iconst (-1), 3, 1, 1, 0), (23, .ireturn, 0, 0, 0, 0), (24, .iload_n 2, 0, 0, 0, 0), (25, .ifCond .ne 11, 0, 36, 0, 0), (28, .aload_n 0, 0, 0, 0, 0), (29, .getfield 65, 0, 10, 7, 2), (32, .getfield 347, 0, 8, 2, 0), (35, .ireturn, 0, 0, 0, 0), (36, .iload_n 2, 0, 0, 0, 0), (37, .iconst 1, 3, 1, 0, 0), (38, .if_icmp .ne 11, 0, 49, 0, 0), (41, .aload_n 0, 0, 0, 0, 0), (42, .getfield 65, 0, 10, 7, 2), (45, .getfield 348, 0, 8, 3, 0), (48, .ireturn, 0, 0, 0, 0), (49, .iload_n 2, 0, 0, 0, 0), (50, .bipush 10, 3, 10, 0, 0), (52, .if_icmp .lt 43, 0, 95, 0, 0), (55, .iload_n 2, 0, 0, 0, 0), (56, .bipush 10, 3, 10, 0, 0), (58, .aload_n 0, 0, 0, 0, 0), (59, .getfield 26, 0, 10, 2, 2), (62, .getfield 335, 0, 9, 7, 0), (65, .iadd, 0, 0, 0, 0), (66, .if_icmp .ge 29, 0, 95, 0, 0), (69, .aload_n 0, 0, 0, 0, 0), (70, .getfield 65, 0, 10, 7, 2), (73, .aload_n 0, 0, 0, 0, 0), (74, .getfield 65, 0, 10, 7, 2), (77, .getfield 351, 0, 8, 4, 0), (80, .iload_n 2, 0, 0, 0, 0), (81, .bipush 10, 3, 10, 0, 0), (83, .isub, 0, 0, 0, 0), (84, .aload_n 0, 0, 0, 0, 0), (85, .getfield 26, 0, 10, 2, 2), (88, .getfield 335, 0, 9, 7, 0), (91, .invokevirtual 354, 1, 84, 3, 8), (94, .ireturn, 0, 0, 0, 0), (95, .iload_n 2, 0, 0, 0, 0), (96, .bipush 20, 3, 20, 0, 0), (98, .if_icmp .lt 43, 0, 141, 0, 0), (101, .iload_n 2, 0, 0, 0, 0), (102, .bipush 20, 3, 20, 0, 0), (104, .aload_n 0, 0, 0, 0, 0), (105, .getfield 26, 0, 10, 2, 2), (108, .getfield 335, 0, 9, 7, 0), (111, .iadd, 0, 0, 0, 0), (112, .if_icmp .ge 29, 0, 141, 0, 0), (115, .aload_n 0, 0, 0, 0, 0), (116, .getfield 65, 0, 10, 7, 2), (119, .aload_n 0, 0, 0, 0, 0), (120, .getfield 65, 0, 10, 7, 2), (123, .getfield 357, 0, 8, 5, 0), (126, .iload_n 2, 0, 0, 0, 0), (127, .bipush 20, 3, 20, 0, 0), (129, .isub, 0, 0, 0, 0), (130, .aload_n 0, 0, 0, 0, 0), (131, .getfield 26, 0, 10, 2, 2), (134, .getfield 335, 0, 9, 7, 0), (137, .invokevirtual 354, 1, 84, 3, 8), (140, .ireturn, 0, 0, 0, 0), (141, .iconst (-1), 3, 1, 1, 0), (142, .ireturn, 0, 0, 0, 0)]
set_option maxRecDepth 100000 in
def am_c124 : List am_I := [(0, .iload_n 1, 0, 0, 0, 0), (1, .ifCond .lt 26, 0, 27, 0, 0), (4, .iload_n 1, 0, 0, 0, 0), (5, .aload_n 0, 0, 0, 0, 0), (6, .getfield 26, 0, 10, 2, 2), (9, .getfield 84, 0, 9, 2, 2), (12, .getfield 101, 0, 2, 8, 0), (15, .if_icmp .gt 12, 0, 27, 0, 0), (18, .iload_n 2, 0, 0, 0, 0), (19, .ifCond .lt 8, 0, 27, 0, 0), (22, .iload_n 2, 0, 0, 0, 0), (23, .iconst 5, 3, 5, 0, 0), (24, .if_icmp .le 6, 0, 30, 0, 0), (27, .ldc 187, 3, 100000000, 1, 0), (29, .ireturn, 0, 0, 0, 0), (30, .aload_n 0, 0, 0, 0, 0), (31, .iload_n 1, 0, 0, 0, 0), (32, .invokevirtual 360, 1, 142, 1, 10), (35, .iload_n 2, 0, 0, 0, 0), (36, .iconst 4, 3, 4, 0, 0), (37, .if_icmp .ge 10, 0, 47, 0, 0), (40, .aload_n 0, 0, 0, 0, 0), (41, .getfield 69, 0, 10, 8, 2), (44, .iload_n 2, 0, 0, 0, 0), (45, .iaload, 0, 0, 0, 0), (46, .ireturn, 0, 0, 0, 0), (47, .iload_n 2, 0, 0, 0, 0), (48, .iconst 4, 3, 4, 0, 0), (49, .if_icmp .ne 10, 0, 59, 0, 0), (52, .aload_n 0, 0, 0, 0, 0), (53, .getfield 363, 0, 10, 12, 0), (56, .goto 7, 0, 63, 0, 0), (59, .aload_n 0, 0, 0, 0, 0), (60, .invokevirtual 366, 1, 143, 0, 10), (63, .ireturn, 0, 0, 0, 0)]
set_option maxRecDepth 100000 in
def am_c125 : List am_I := [(0, .iload_n 1, 0, 0, 0, 0), (1, .iconst 1, 3, 1, 0, 0), (2, .if_icmp .lt 10, 0, 12, 0, 0), (5, .iload_n 1, 0, 0, 0, 0), (6, .sipush 1000, 3, 1000, 0, 0), (9, .if_icmp .le 5, 0, 14, 0, 0), (12, .iconst (-1), 3, 1, 1, 0), (13, .ireturn, 0, 0, 0, 0), (14, .iconst 0, 3, 0, 0, 0), (15, .istore_n 2, 0, 0, 0, 0), (16, .iload_n 2, 0, 0, 0, 0), (17, .aload_n 0, 0, 0, 0, 0), (18, .getfield 26, 0, 10, 2, 2), (21, .getfield 84, 0, 9, 2, 2), (24, .getfield 101, 0, 2, 8, 0), (27, .if_icmp .gt 44, 0, 71, 0, 0), (30, .aload_n 0, 0, 0, 0, 0), (31, .iload_n 2, 0, 0, 0, 0), (32, .invokevirtual 360, 1, 142, 1, 10), (35, .aload_n 0, 0, 0, 0, 0), (36, .getfield 363, 0, 10, 12, 0), (39, .ifCond .le 26, 0, 65, 0, 0), (42, .aload_n 0, 0, 0, 0, 0), (43, .invokevirtual 366, 1, 143, 0, 10), (46, .i2l, 0, 0, 0, 0), (47, .ldc2_w 276, 5, 1000, 0, 0), (50, .lmul, 0, 0, 0, 0), (51, .aload_n 0, 0, 0, 0, 0), (52, .getfield 363, 0, 10, 12, 0), (55, .i2l, 0, 0, 0, 0), (56, .iload_n 1, 0, 0, 0, 0), (57, .i2l, 0, 0, 0, 0), (58, .lmul, 0, 0, 0, 0), (59, .lcmp, 0, 0, 0, 0), (60, .ifCond .lt 5, 0, 65, 0, 0), (63, .iload_n 2, 0, 0, 0, 0), (64, .ireturn, 0, 0, 0, 0), (65, .iinc 2 1, 3, 1, 0, 0), (68, .goto (-52), 0, 16, 0, 0), (71, .iconst (-1), 3, 1, 1, 0), (72, .ireturn, 0, 0, 0, 0)]
set_option maxRecDepth 100000 in
def am_c126 : List am_I := [(0, .iload_n 1, 0, 0, 0, 0), (1, .invokestatic 77, 1, 130, 1, 99), (4, .ifCond .eq 25, 0, 29, 0, 0), (7, .iload_n 2, 0, 0, 0, 0), (8, .invokestatic 147, 1, 131, 1, 99), (11, .ifCond .eq 18, 0, 29, 0, 0), (14, .iload_n 3, 0, 0, 0, 0), (15, .ifCond .lt 14, 0, 29, 0, 0), (18, .iload_n 3, 0, 0, 0, 0), (19, .ldc_w 369, 3, 99999, 0, 0), (22, .if_icmp .gt 7, 0, 29, 0, 0), (25, .iconst 1, 3, 1, 0, 0), (26, .goto 4, 0, 30, 0, 0), (29, .iconst 0, 3, 0, 0, 0), (30, .istore 5, 0, 0, 0, 0), (32, .iload 5, 0, 0, 0, 0), (34, .ifCond .eq 14, 0, 48, 0, 0), (37, .iload 4, 0, 0, 0, 0), (39, .ifCond .lt 9, 0, 48, 0, 0), (42, .iload 4, 0, 0, 0, 0), (44, .iconst 1, 3, 1, 0, 0), (45, .if_icmp .le 6, 0, 51, 0, 0), (48, .ldc 187, 3, 100000000, 1, 0), (50, .ireturn, 0, 0, 0, 0), (51, .aload_n 0, 0, 0, 0, 0), (52, .getfield 26, 0, 10, 2, 2), (55, .getfield 84, 0, 9, 2, 2), (58, .astore 6, 0, 0, 0, 0), (60, .aload 6, 0, 0, 0, 0), (62, .iload_n 2, 0, 0, 0, 0), (63, .iload_n 1, 0, 0, 0, 0), (64, .invokevirtual 370, 1, 37, 2, 2), (67, .istore 7, 0, 0, 0, 0), (69, .iload 4, 0, 0, 0, 0), (71, .ifCond .ne 6, 0, 77, 0, 0), (74, .iload 7, 0, 0, 0, 0), (76, .ireturn, 0, 0, 0, 0), (77, .iconst 0, 3, 0, 0, 0), (78, .istore 8, 0, 0, 0, 0), (80, .iconst 0, 3, 0, 0, 0), (81, .aload 6, 0, 0, 0, 0), (83, .getfield 101, 0, 2, 8, 0), (86, .bipush 7, 3, 7, 0, 0), (88, .isub, 0, 0, 0, 0), (89, .iconst 1, 3, 1, 0, 0), (90, .iadd, 0, 0, 0, 0), (91, .invokestatic 254, 1, 254, 2, 99), (94, .istore 9, 0, 0, 0, 0), (96, .iload 9, 0, 0, 0, 0), (98, .aload 6, 0, 0, 0, 0), (100, .getfield 101, 0, 2, 8, 0), (103, .if_icmp .gt 27, 0, 130, 0, 0), (106, .aload_n 0, 0, 0, 0, 0), (107, .getfield 26, 0, 10, 2, 2), (110, .getfield 35, 0, 9, 0, 2), (113, .iload 9, 0, 0, 0, 0), (115, .invokevirtual 152, 1, 3, 1, 0), (118, .ifCond .eq 6, 0, 124, 0, 0), (121, .iinc 8 1, 3, 1, 0, 0), (124, .iinc 9 1, 3, 1, 0, 0), (127, .goto (-31), 0, 96, 0, 0), (130, .iload 7, 0, 0, 0, 0), (132, .iload_n 3, 0, 0, 0, 0), (133, .iload 8, 0, 0, 0, 0), (135, .imul, 0, 0, 0, 0), (136, .iadd, 0, 0, 0, 0), (137, .ireturn, 0, 0, 0, 0)]
set_option maxRecDepth 100000 in
def am_c127 : List am_I := [(0, .iload_n 1, 0, 0, 0, 0), (1, .ifCond .lt 9, 0, 10, 0, 0), (4, .iload_n 1, 0, 0, 0, 0), (5, .bipush 20, 3, 20, 0, 0), (7, .if_icmp .le 5, 0, 12, 0, 0), (10, .iconst (-1), 3, 1, 1, 0), (11, .ireturn, 0, 0, 0, 0), (12, .aload_n 0, 0, 0, 0, 0), (13, .getfield 26, 0, 10, 2, 2), (16, .getfield 84, 0, 9, 2, 2), (19, .astore_n 2, 0, 0, 0, 0), (20, .iconst 0, 3, 0, 0, 0), (21, .istore_n 3, 0, 0, 0, 0), (22, .iconst 0, 3, 0, 0, 0), (23, .istore 4, 0, 0, 0, 0), (25, .iload 4, 0, 0, 0, 0), (27, .aload_n 2, 0, 0, 0, 0), (28, .getfield 87, 0, 2, 9, 0), (31, .if_icmp .ge 42, 0, 73, 0, 0), (34, .aload_n 0, 0, 0, 0, 0), (35, .getfield 26, 0, 10, 2, 2), (38, .aload_n 2, 0, 0, 0, 0), (39, .iload 4, 0, 0, 0, 0), (41, .iconst 2, 3, 2, 0, 0), (42, .invokevirtual 262, 1, 13, 2, 2), (45, .invokevirtual 309, 1, 89, 1, 9), (48, .ifCond .ne 19, 0, 67, 0, 0), (51, .iload_n 3, 0, 0, 0, 0), (52, .aload_n 2, 0, 0, 0, 0), (53, .iload 4, 0, 0, 0, 0), (55, .iconst 4, 3, 4, 0, 0), (56, .invokevirtual 262, 1, 13, 2, 2), (59, .iload_n 1, 0, 0, 0, 0), (60, .imul, 0, 0, 0, 0), (61, .sipush 1000, 3, 1000, 0, 0), (64, .idiv, 0, 0, 0, 0), (65, .iadd, 0, 0, 0, 0), (66, .istore_n 3, 0, 0, 0, 0), (67, .iinc 4 1, 3, 1, 0, 0), (70, .goto (-45), 0, 25, 0, 0), (73, .iload_n 3, 0, 0, 0, 0), (74, .ireturn, 0, 0, 0, 0)]
set_option maxRecDepth 100000 in
def am_c128 : List am_I := [(0, .iload_n 1, 0, 0, 0, 0), (1, .ifCond .eq 21, 0, 22, 0, 0), (4, .aload_n 0, 0, 0, 0, 0), (5, .getfield 30, 0, 10, 3, 2), (8, .aload_n 0, 0, 0, 0, 0), (9, .getfield 26, 0, 10, 2, 2), (12, .invokevirtual 373, 1, 88, 1, 9), (15, .aload_n 0, 0, 0, 0, 0), (16, .iconst 1, 3, 1, 0, 0), (17, .putfield 375, 0, 10, 9, 1), (20, .iconst 1, 3, 1, 0, 0), (21, .ireturn, 0, 1, 0, 0), (22, .aload_n 0, 0, 0, 0, 0), (23, .getfield 375, 0, 10, 9, 1), (26, .ifCond .ne 5, 0, 31, 0, 0), (29, .iconst 0, 3, 0, 0, 0), (30, .ireturn, 0, 1, 0, 0), (31, .aload_n 0, 0, 0, 0, 0), (32, .getfield 26, 0, 10, 2, 2), (35, .aload_n 0, 0, 0, 0, 0), (36, .getfield 30, 0, 10, 3, 2), (39, .invokevirtual 373, 1, 88, 1, 9), (42, .iconst 1, 3, 1, 0, 0), (43, .ireturn, 0, 1, 0, 0)]
set_option maxRecDepth 100000 in
def am_c129 : List am_I := [(0, .iload_n 1, 0, 0, 0, 0), (1, .tableswitch 134 0 6 #[43, 54, 65, 73, 81, 110, 123], 0, 0, 0, 0), (44, .aload_n 0, 0, 0, 0, 0), (45, .getfield 26, 0, 10, 2, 2), (48, .getfield 84, 0, 9, 2, 2), (51, .getfield 101, 0, 2, 8, 0), (54, .ireturn, 0, 0, 0, 0), (55, .aload_n 0, 0, 0, 0, 0), (56, .getfield 26, 0, 10, 2, 2), (59, .getfield 84, 0, 9, 2, 2), (62, .getfield 87, 0, 2, 9, 0), (65, .ireturn, 0, 0, 0, 0), (66, .aload_n 0, 0, 0, 0, 0), (67, .getfield 26, 0, 10, 2, 2), (70, .getfield 335, 0, 9, 7, 0), (73, .ireturn, 0, 0, 0, 0), (74, .aload_n 0, 0, 0, 0, 0), (75, .getfield 26, 0, 10, 2, 2), (78, .getfield 295, 0, 9, 8, 0), (81, .ireturn, 0, 0, 0, 0), (82, .aload_n 0, 0, 0, 0, 0), (83, .getfield 26, 0, 10, 2, 2), (86, .getfield 35, 0, 9, 0, 2), (89, .aload_n 0, 0, 0, 0, 0), (90, .getfield 26, 0, 10, 2, 2), (93, .getfield 84, 0, 9, 2, 2), (96, .getfield 101, 0, 2, 8, 0), (99, .invokevirtual 152, 1, 3, 1, 0), (102, .ifCond .eq 7, 0, 109, 0, 0), (105, .iconst 1, 3, 1, 0, 0), (106, .goto 4, 0, 110, 0, 0), (109, .iconst 0, 3, 0, 0, 0), (110, .ireturn, 0, 0, 0, 0), (111, .aload_n 0, 0, 0, 0, 0), (112, .getfield 375, 0, 10, 9, 1), (115, .ifCond .eq 7, 0, 122, 0, 0), (118, .iconst 1, 3, 1, 0, 0), (119, .goto 4, 0, 123, 0, 0), (122, .iconst 0, 3, 0, 0, 0), (123, .ireturn, 0, 0, 0, 0), (124, .aload_n 0, 0, 0, 0, 0), (125, .getfield 26, 0, 10, 2, 2), (128, .getfield 265, 0, 9, 1, 2), (131, .getfield 269, 0, 1, 1, 0), (134, .ireturn, 0, 0, 0, 0), (135, .iconst (-1), 3, 1, 1, 0), (136, .ireturn, 0, 0, 0, 0)]
set_option maxRecDepth 100000 in
def am_c130 : List am_I := [(0, .iload_n 0, 0, 0, 0, 0), (1, .ifCond .lt 12, 0, 13, 0, 0), (4, .iload_n 0, 0, 0, 0, 0), (5, .iconst 4, 3, 4, 0, 0), (6, .if_icmp .ge 7, 0, 13, 0, 0), (9, .iconst 1, 3, 1, 0, 0), (10, .goto 4, 0, 14, 0, 0), (13, .iconst 0, 3, 0, 0, 0), (14, .ireturn, 0, 1, 0, 0)]
set_option maxRecDepth 100000 in
def am_c131 : List am_I := [(0, .iload_n 0, 0, 0, 0, 0), (1, .ifCond .lt 13, 0, 14, 0, 0), (4, .iload_n 0, 0, 0, 0, 0), (5, .bipush 6, 3, 6, 0, 0), (7, .if_icmp .ge 7, 0, 14, 0, 0), (10, .iconst 1, 3, 1, 0, 0), (11, .goto 4, 0, 15, 0, 0), (14, .iconst 0, 3, 0, 0, 0), (15, .ireturn, 0, 1, 0, 0)]
set_option maxRecDepth 100000 in
def am_c132 : List am_I := [(0, .iload_n 0, 0, 0, 0, 0), (1, .ifCond .lt 12, 0, 13, 0, 0), (4, .iload_n 0, 0, 0, 0, 0), (5, .iconst 3, 3, 3, 0, 0), (6, .if_icmp .ge 7, 0, 13, 0, 0), (9, .iconst 1, 3, 1, 0, 0), (10, .goto 4, 0, 14, 0, 0), (13, .iconst 0, 3, 0, 0, 0), (14, .ireturn, 0, 1, 0, 0)]
set_option maxRecDepth 100000 in
def am_c133 : List am_I := [(0, .iload_n 0, 0, 0, 0, 0), (1, .ifCond .lt 13, 0, 14, 0, 0), (4, .iload_n 0, 0, 0, 0, 0), (5, .bipush 90, 3, 90, 0, 0), (7, .if_icmp .ge 7, 0, 14, 0, 0), (10, .iconst 1, 3, 1, 0, 0), (11, .goto 4, 0, 15, 0, 0), (14, .iconst 0, 3, 0, 0, 0), (15, .ireturn, 0, 1, 0, 0)]
set_option maxRecDepth 100000 in
def am_c134 : List am_I := [(0, .iload_n 0, 0, 0, 0, 0), (1, .iconst 1, 3, 1, 0, 0), (2, .if_icmp .lt 14, 0, 16, 0, 0), (5, .iload_n 0, 0, 0, 0, 0), (6, .ldc_w 369, 3, 99999, 0, 0), (9, .if_icmp .gt 7, 0, 16, 0, 0), (12, .iconst 1, 3, 1, 0, 0), (13, .goto 4, 0, 17, 0, 0), (16, .iconst 0, 3, 0, 0, 0), (17, .ireturn, 0, 1, 0, 0)]
set_option maxRecDepth 100000 in
def am_c135 : List am_I := [(0, .iload_n 0, 0, 0, 0, 0), (1, .iconst 1, 3, 1, 0, 0), (2, .if_icmp .lt 13, 0, 15, 0, 0), (5, .iload_n 0, 0, 0, 0, 0), (6, .bipush 15, 3, 15, 0, 0), (8, .if_icmp .gt 7, 0, 15, 0, 0), (11, .iconst 1, 3, 1, 0, 0), (12, .goto 4, 0, 16, 0, 0), (15, .iconst 0, 3, 0, 0, 0), (16, .ireturn, 0, 1, 0, 0)]
set_option maxRecDepth 100000 in
def am_c136 : List am_I := [(0, .iload_n 1, 0, 0, 0, 0), (1, .ifCond .lt 21, 0, 22, 0, 0), (4, .iload_n 1, 0, 0, 0, 0), (5, .aload_n 0, 0, 0, 0, 0), (6, .getfield 26, 0, 10, 2, 2), (9, .getfield 84, 0, 9, 2, 2), (12, .getfield 87, 0, 2, 9, 0), (15, .if_icmp .ge 7, 0, 22, 0, 0), (18, .iconst 1, 3, 1, 0, 0), (19, .goto 4, 0, 23, 0, 0), (22, .iconst 0, 3, 0, 0, 0), (23, .ireturn, 0, 1, 0, 0)]
set_option maxRecDepth 100000 in
def am_c137 : List am_I := [(0, .iload_n 1, 0, 0, 0, 0), (1, .invokestatic 98, 1, 133, 1, 99), (4, .ifCond .eq 21, 0, 25, 0, 0), (7, .aload_n 0, 0, 0, 0, 0), (8, .getfield 26, 0, 10, 2, 2), (11, .getfield 35, 0, 9, 0, 2), (14, .iload_n 1, 0, 0, 0, 0), (15, .invokevirtual 152, 1, 3, 1, 0), (18, .ifCond .eq 7, 0, 25, 0, 0), (21, .iconst 1, 3, 1, 0, 0), (22, .goto 4, 0, 26, 0, 0), (25, .iconst 0, 3, 0, 0, 0), (26, .ireturn, 0, 1, 0, 0)]
set_option maxRecDepth 100000 in
def am_c138 : List am_I := [(0, .iload_n 1, 0, 0, 0, 0), (1, .iconst 2, 3, 2, 0, 0), (2, .if_icmp .lt 20, 0, 22, 0, 0), (5, .iload_n 1, 0, 0, 0, 0), (6, .iconst 4, 3, 4, 0, 0), (7, .if_icmp .gt 15, 0, 22, 0, 0), (10, .aload_n 0, 0, 0, 0, 0), (11, .iload_n 3, 0, 0, 0, 0), (12, .invokevirtual 226, 1, 137, 1, 10), (15, .ifCond .eq 7, 0, 22, 0, 0), (18, .iconst 1, 3, 1, 0, 0), (19, .goto 4, 0, 23, 0, 0), (22, .iconst 0, 3, 0, 0, 0), (23, .istore 4, 0, 0, 0, 0), (25, .iload 4, 0, 0, 0, 0), (27, .ifCond .eq 19, 0, 46, 0, 0), (30, .iload_n 2, 0, 0, 0, 0), (31, .iconst 1, 3, 1, 0, 0), (32, .if_icmp .lt 14, 0, 46, 0, 0), (35, .iload_n 2, 0, 0, 0, 0), (36, .sipush 9999, 3, 9999, 0, 0), (39, .if_icmp .gt 7, 0, 46, 0, 0), (42, .iconst 1, 3, 1, 0, 0), (43, .goto 4, 0, 47, 0, 0), (46, .iconst 0, 3, 0, 0, 0), (47, .ireturn, 0, 1, 0, 0)]
set_option maxRecDepth 100000 in
def am_c139 : List am_I := [(0, .iconst 0, 3, 0, 0, 0), (1, .istore_n 1, 0, 0, 0, 0), (2, .aload_n 0, 0, 0, 0, 0), (3, .astore_n 2, 0, 0, 0, 0), (4, .aload_n 2, 0, 0, 0, 0), (5, .arraylength, 0, 0, 0, 0), (6, .istore_n 3, 0, 0, 0, 0), (7, .iconst 0, 3, 0, 0, 0), (8, .istore 4, 0, 0, 0, 0), (10, .iload 4, 0, 0, 0, 0), (12, .iload_n 3, 0, 0, 0, 0), (13, .if_icmp .ge 20, 0, 33, 0, 0), (16, .aload_n 2, 0, 0, 0, 0), (17, .iload 4, 0, 0, 0, 0), (19, .iaload, 0, 0, 0, 0), (20, .istore 5, 0, 0, 0, 0), (22, .iload_n 1, 0, 0, 0, 0), (23, .iload 5, 0, 0, 0, 0), (25, .iadd, 0, 0, 0, 0), (26, .istore_n 1, 0, 0, 0, 0), (27, .iinc 4 1, 3, 1, 0, 0), (30, .goto (-20), 0, 10, 0, 0), (33, .iload_n 1, 0, 0, 0, 0), (34, .ireturn, 0, 0, 0, 0)]
set_option maxRecDepth 100000 in
def am_c140 : List am_I := [(0, .iconst 0, 3, 0, 0, 0), (1, .istore 4, 0, 0, 0, 0), (3, .iload 4, 0, 0, 0, 0), (5, .iconst 4, 3, 4, 0, 0), (6, .if_icmp .ge 99, 0, 105, 0, 0), (9, .iconst 0, 3, 0, 0, 0), (10, .istore 5, 0, 0, 0, 0), (12, .iload 5, 0, 0, 0, 0), (14, .iconst 4, 3, 4, 0, 0), (15, .if_icmp .ge 84, 0, 99, 0, 0), (18, .iload_n 3, 0, 0, 0, 0), (19, .istore 6, 0, 0, 0, 0), (21, .iload 6, 0, 0, 0, 0), (23, .iconst (-1), 3, 1, 1, 0), (24, .if_icmp .ne 26, 0, 50, 0, 0), (27, .aload_n 0, 0, 0, 0, 0), (28, .getfield 26, 0, 10, 2, 2), (31, .getfield 84, 0, 9, 2, 2), (34, .iconst 0, 3, 0, 0, 0), (35, .iconst 0, 3, 0, 0, 0), (36, .iload 5, 0, 0, 0, 0), (38, .iload 4, 0, 0, 0, 0), (40, .iload_n 1, 0, 0, 0, 0), (41, .iload_n 2, 0, 0, 0, 0), (42, .bipush 7, 3, 7, 0, 0), (44, .irem, 0, 0, 0, 0), (45, .invokevirtual 155, 1, 21, 6, 2), (48, .istore 6, 0, 0, 0, 0), (50, .iconst 0, 3, 0, 0, 0), (51, .aload_n 0, 0, 0, 0, 0), (52, .getfield 26, 0, 10, 2, 2), (55, .getfield 35, 0, 9, 0, 2), (58, .iload 5, 0, 0, 0, 0), (60, .iload 4, 0, 0, 0, 0), (62, .iload_n 2, 0, 0, 0, 0), (63, .invokevirtual 229, 1, 7, 3, 0), (66, .iload 6, 0, 0, 0, 0), (68, .isub, 0, 0, 0, 0), (69, .invokestatic 254, 1, 254, 2, 99), (72, .istore 7, 0, 0, 0, 0), (74, .aload_n 0, 0, 0, 0, 0), (75, .getfield 58, 0, 10, 6, 2), (78, .getfield 379, 0, 4, 0, 2), (81, .iload 4, 0, 0, 0, 0), (83, .iconst 4, 3, 4, 0, 0), (84, .imul, 0, 0, 0, 0), (85, .iload 5, 0, 0, 0, 0), (87, .iadd, 0, 0, 0, 0), (88, .iload_n 1, 0, 0, 0, 0), (89, .iload 7, 0, 0, 0, 0), (91, .imul, 0, 0, 0, 0), (92, .iastore, 0, 0, 0, 0), (93, .iinc 5 1, 3, 1, 0, 0), (96, .goto (-84), 0, 12, 0, 0), (99, .iinc 4 1, 3, 1, 0, 0), (102, .goto (-99), 0, 3, 0, 0), (105, .return_, 0, 0, 0, 0)]
set_option maxRecDepth 100000 in
def am_c141 : List am_I := [(0, .aload_n 0, 0, 0, 0, 0), (1, .getfield 42, 0, 10, 4, 2), (4, .aload_n 0, 0, 0, 0, 0), (5, .getfield 26, 0, 10, 2, 2), (8, .getfield 84, 0, 9, 2, 2), (11, .invokevirtual 382, 1, 12, 1, 2), (14, .aload_n 0, 0, 0, 0, 0), (15, .iconst 0, 3, 0, 0, 0), (16, .putfield 321, 0, 10, 13, 0), (19, .aload_n 0, 0, 0, 0, 0), (20, .iconst 0, 3, 0, 0, 0), (21, .putfield 324, 0, 10, 14, 0), (24, .iconst 0, 3, 0, 0, 0), (25, .istore_n 2, 0, 0, 0, 0), (26, .iload_n 2, 0, 0, 0, 0), (27, .bipush 40, 3, 40, 0, 0), (29, .if_icmp .ge 46, 0, 75, 0, 0), (32, .aload_n 0, 0, 0, 0, 0), (33, .getfield 42, 0, 10, 4, 2), (36, .invokevirtual 223, 1, 33, 0, 2), (39, .ifCond .le 36, 0, 75, 0, 0), (42, .aload_n 0, 0, 0, 0, 0), (43, .dup, 0, 0, 0, 0), (44, .getfield 324, 0, 10, 14, 0), (47, .aload_n 0, 0, 0, 0, 0), (48, .getfield 42, 0, 10, 4, 2), (51, .iload_n 1, 0, 0, 0, 0), (52, .invokevirtual 177, 1, 24, 1, 2), (55, .iadd, 0, 0, 0, 0), (56, .putfield 324, 0, 10, 14, 0), (59, .aload_n 0, 0, 0, 0, 0), (60, .dup, 0, 0, 0, 0), (61, .getfield 321, 0, 10, 13, 0), (64, .iconst 1, 3, 1, 0, 0), (65, .iadd, 0, 0, 0, 0), (66, .putfield 321, 0, 10, 13, 0), (69, .iinc 2 1, 3, 1, 0, 0), (72, .goto (-46), 0, 26, 0, 0), (75, .aload_n 0, 0, 0, 0, 0), (76, .getfield 42, 0, 10, 4, 2), (79, .invokevirtual 385, 1, 35, 0, 2), (82, .ireturn, 0, 0, 0, 0)]
set_option maxRecDepth 100000 in
def am_c142 : List am_I := [(0, .aload_n 0, 0, 0, 0, 0), (1, .getfield 26, 0, 10, 2, 2), (4, .getfield 84, 0, 9, 2, 2), (7, .astore_n 2, 0, 0, 0, 0), (8, .aload_n 0, 0, 0, 0, 0), (9, .iconst 0, 3, 0, 0, 0), (10, .putfield 363, 0, 10, 12, 0), (13, .iconst 0, 3, 0, 0, 0), (14, .istore_n 3, 0, 0, 0, 0), (15, .iload_n 3, 0, 0, 0, 0), (16, .iconst 4, 3, 4, 0, 0), (17, .if_icmp .ge 16, 0, 33, 0, 0), (20, .aload_n 0, 0, 0, 0, 0), (21, .getfield 69, 0, 10, 8, 2), (24, .iload_n 3, 0, 0, 0, 0), (25, .iconst 0, 3, 0, 0, 0), (26, .iastore, 0, 0, 0, 0), (27, .iinc 3 1, 3, 1, 0, 0), (30, .goto (-15), 0, 15, 0, 0), (33, .iconst 0, 3, 0, 0, 0), (34, .istore_n 3, 0, 0, 0, 0), (35, .iload_n 3, 0, 0, 0, 0), (36, .aload_n 2, 0, 0, 0, 0), (37, .getfield 87, 0, 2, 9, 0), (40, .if_icmp .ge 82, 0, 122, 0, 0), (43, .aload_n 2, 0, 0, 0, 0), (44, .iload_n 3, 0, 0, 0, 0), (45, .bipush 6, 3, 6, 0, 0), (47, .invokevirtual 262, 1, 13, 2, 2), (50, .iconst 1, 3, 1, 0, 0), (51, .if_icmp .ne 65, 0, 116, 0, 0), (54, .aload_n 2, 0, 0, 0, 0), (55, .iload_n 3, 0, 0, 0, 0), (56, .bipush 9, 3, 9, 0, 0), (58, .invokevirtual 262, 1, 13, 2, 2), (61, .iload_n 1, 0, 0, 0, 0), (62, .if_icmp .ne 54, 0, 116, 0, 0), (65, .aload_n 2, 0, 0, 0, 0), (66, .iload_n 3, 0, 0, 0, 0), (67, .iconst 4, 3, 4, 0, 0), (68, .invokevirtual 262, 1, 13, 2, 2), (71, .istore 4, 0, 0, 0, 0), (73, .aload_n 0, 0, 0, 0, 0), (74, .dup, 0, 0, 0, 0), (75, .getfield 363, 0, 10, 12, 0), (78, .iload 4, 0, 0, 0, 0), (80, .iadd, 0, 0, 0, 0), (81, .putfield 363, 0, 10, 12, 0), (84, .aload_n 0, 0, 0, 0, 0), (85, .getfield 69, 0, 10, 8, 2), (88, .aload_n 2, 0, 0, 0, 0), (89, .iload_n 3, 0, 0, 0, 0), (90, .iconst 3, 3, 3, 0, 0), (91, .invokevirtual 262, 1, 13, 2, 2), (94, .dup2, 0, 0, 0, 0), (95, .iaload, 0, 0, 0, 0), (96, .iload 4, 0, 0, 0, 0), (98, .iadd, 0, 0, 0, 0), (99, .iastore, 0, 0, 0, 0), (100, .aload_n 0, 0, 0, 0, 0), (101, .getfield 69, 0, 10, 8, 2), (104, .aload_n 2, 0, 0, 0, 0), (105, .iload_n 3, 0, 0, 0, 0), (106, .iconst 1, 3, 1, 0, 0), (107, .invokevirtual 262, 1, 13, 2, 2), (110, .dup2, 0, 0, 0, 0), (111, .iaload, 0, 0, 0, 0), (112, .iload 4, 0, 0, 0, 0), (114, .isub, 0, 0, 0, 0), (115, .iastore, 0, 0, 0, 0), (116, .iinc 3 1, 3, 1, 0, 0), (119, .goto (-84), 0, 35, 0, 0), (122, .return_, 0, 0, 0, 0)]
set_option maxRecDepth 100000 in
def am_c143 : List am_I := [(0, .iconst 0, 3, 0, 0, 0), (1, .istore_n 1, 0, 0, 0, 0), (2, .aload_n 0, 0, 0, 0, 0), (3, .getfield 69, 0, 10, 8, 2), (6, .astore_n 2, 0, 0, 0, 0), (7, .aload_n 2, 0, 0, 0, 0), (8, .arraylength, 0, 0, 0, 0), (9, .istore_n 3, 0, 0, 0, 0), (10, .iconst 0, 3, 0, 0, 0), (11, .istore 4, 0, 0, 0, 0), (13, .iload 4, 0, 0, 0, 0), (15, .iload_n 3, 0, 0, 0, 0), (16, .if_icmp .ge 23, 0, 39, 0, 0), (19, .aload_n 2, 0, 0, 0, 0), (20, .iload 4, 0, 0, 0, 0), (22, .iaload, 0, 0, 0, 0), (23, .istore 5, 0, 0, 0, 0), (25, .iload_n 1, 0, 0, 0, 0), (26, .iload 5, 0, 0, 0, 0), (28, .invokestatic 388, 1, 253, 1, 99), (31, .iadd, 0, 0, 0, 0), (32, .istore_n 1, 0, 0, 0, 0), (33, .iinc 4 1, 3, 1, 0, 0), (36, .goto (-23), 0, 13, 0, 0), (39, .aload_n 0, 0, 0, 0, 0), (40, .getfield 363, 0, 10, 12, 0), (43, .iload_n 1, 0, 0, 0, 0), (44, .iconst 2, 3, 2, 0, 0), (45, .idiv, 0, 0, 0, 0), (46, .isub, 0, 0, 0, 0), (47, .ireturn, 0, 0, 0, 0)]
set_option maxRecDepth 100000 in
def am_c144 : List am_I := [(0, .iload_n 0, 0, 0, 0, 0), (1, .iload_n 1, 0, 0, 0, 0), (2, .if_icmp .lt 12, 0, 14, 0, 0), (5, .iload_n 0, 0, 0, 0, 0), (6, .iload_n 2, 0, 0, 0, 0), (7, .if_icmp .gt 7, 0, 14, 0, 0), (10, .iconst 1, 3, 1, 0, 0), (11, .goto 4, 0, 15, 0, 0), (14, .iconst 0, 3, 0, 0, 0), (15, .ireturn, 0, 1, 0, 0)]
set_option maxRecDepth 100000 in
def am_c145 : List am_I := [(0, .iload_n 0, 0, 0, 0, 0), (1, .iload_n 1, 0, 0, 0, 0), (2, .if_icmp .le 9, 0, 11, 0, 0), (5, .iload_n 0, 0, 0, 0, 0), (6, .iload_n 1, 0, 0, 0, 0), (7, .isub, 0, 0, 0, 0), (8, .goto 6, 0, 14, 0, 0), (11, .iload_n 1, 0, 0, 0, 0), (12, .iload_n 0, 0, 0, 0, 0), (13, .isub, 0, 0, 0, 0), (14, .ireturn, 0, 0, 0, 0)]
set_option maxRecDepth 100000 in
def am_c146 : List am_I := [(0, .aload_n 0, 0, 0, 0, 0), (1, .invokespecial 1, 8, 0, 0, 0), (4, .aload_n 0, 0, 0, 0, 0), (5, .sipush 16120, 3, 16120, 0, 0), (8, .newarray .int, 0, 0, 0, 0), (10, .putfield 7, 0, 11, 0, 2), (13, .aload_n 0, 0, 0, 0, 0), (14, .sipush 16120, 3, 16120, 0, 0), (17, .newarray .int, 0, 0, 0, 0), (19, .putfield 13, 0, 11, 1, 2), (22, .aload_n 0, 0, 0, 0, 0), (23, .sipush 16120, 3, 16120, 0, 0), (26, .newarray .int, 0, 0, 0, 0), (28, .putfield 16, 0, 11, 2, 2), (31, .aload_n 0, 0, 0, 0, 0), (32, .bipush 48, 3, 48, 0, 0), (34, .newarray .int, 0, 0, 0, 0), (36, .putfield 19, 0, 11, 4, 2), (39, .aload_n 0, 0, 0, 0, 0), (40, .sipush 820, 3, 820, 0, 0), (43, .newarray .int, 0, 0, 0, 0), (45, .putfield 22, 0, 11, 5, 2), (48, .aload_n 0, 0, 0, 0, 0), (49, .sipush 400, 3, 400, 0, 0), (52, .newarray .int, 0, 0, 0, 0), (54, .putfield 25, 0, 11, 6, 2), (57, .aload_n 0, 0, 0, 0, 0), (58, .sipush 420, 3, 420, 0, 0), (61, .newarray .int, 0, 0, 0, 0), (63, .putfield 28, 0, 11, 7, 2), (66, .aload_n 0, 0, 0, 0, 0), (67, .bipush 12, 3, 12, 0, 0), (69, .newarray .int, 0, 0, 0, 0), (71, .putfield 31, 0, 11, 8, 2), (74, .aload_n 0, 0, 0, 0, 0), (75, .iconst (-1), 3, 1, 1, 0), (76, .putfield 34, 0, 11, 21, 0), (79, .aload_n 0, 0, 0, 0, 0), (80, .sipush 150, 3, 150, 0, 0), (83, .newarray .int, 0, 0, 0, 0), (85, .putfield 38, 0, 11, 22, 2), (88, .aload_n 0, 0, 0, 0, 0), (89, .iconst 4, 3, 4, 0, 0), (90, .newarray .int, 0, 0, 0, 0), (92, .putfield 41, 0, 11, 24, 2), (95, .aload_n 0, 0, 0, 0, 0), (96, .iconst 4, 3, 4, 0, 0), (97, .newarray .int, 0, 0, 0, 0), (99, .putfield 44, 0, 11, 25, 2), (102, .aload_n 0, 0, 0, 0, 0), (103, .iconst (-1), 3, 1, 1, 0), (104, .putfield 47, 0, 11, 27, 0), (107, .aload_n 0, 0, 0, 0, 0), (108, .iconst 4, 3, 4, 0, 0), (109, .newarray .int, 0, 0, 0, 0), (111, .putfield 50, 0, 11, 30, 2), (114, .iconst 0, 3, 0, 0, 0), (115, .istore_n 1, 0, 0, 0, 0), (116, .iload_n 1, 0, 0, 0, 0), (117, .iconst 3, 3, 3, 0, 0), (118, .if_icmp .ge 45, 0, 163, 0, 0), (121, .iconst 0, 3, 0, 0, 0), (122, .istore_n 2, 0, 0, 0, 0), (123, .iload_n 2, 0, 0, 0, 0), (124, .iconst 3, 3, 3, 0, 0), (125, .if_icmp .ge 32, 0, 157, 0, 0), (128, .aload_n 0, 0, 0, 0, 0), (129, .getfield 7, 0, 11, 0, 2), (132, .bipush 14, 3, 14, 0, 0), (134, .iconst 3, 3, 3, 0, 0), (135, .iload_n 1, 0, 0, 0, 0), (136, .imul, 0, 0, 0, 0), (137, .iadd, 0, 0, 0, 0), (138, .iload_n 2, 0, 0, 0, 0), (139, .iadd, 0, 0, 0, 0), (140, .iload_n 1, 0, 0, 0, 0), (141, .iload_n 2, 0, 0, 0, 0), (142, .if_icmp .ne 7, 0, 149, 0, 0), (145, .iconst 0, 3, 0, 0, 0), (146, .goto 4, 0, 150, 0, 0), (149, .iconst 2, 3, 2, 0, 0), (150, .iastore, 0, 0, 0, 0), (151, .iinc 2 1, 3, 1, 0, 0), (154, .goto (-31), 0, 123, 0, 0), (157, .iinc 1 1, 3, 1, 0, 0), (160, .goto (-44), 0, 116, 0, 0), (163, .iconst 0, 3, 0, 0, 0), (164, .istore_n 1, 0, 0, 0, 0), (165, .iload_n 1, 0, 0, 0, 0), (166, .bipush 24, 3, 24, 0, 0), (168, .if_icmp .ge 20, 0, 188, 0, 0), (171, .aload_n 0, 0, 0, 0, 0), (172, .getfield 7, 0, 11, 0, 2), (175, .sipush 3612, 3, 3612, 0, 0), (178, .iload_n 1, 0, 0, 0, 0), (179, .iadd, 0, 0, 0, 0), (180, .iconst (-1), 3, 1, 1, 0), (181, .iastore, 0, 0, 0, 0), (182, .iinc 1 1, 3, 1, 0, 0), (185, .goto (-20), 0, 165, 0, 0), (188, .return_, 0, 0, 0, 0)]
set_option maxRecDepth 100000 in
def am_c147 : List am_I := [(0, .iload_n 0, 0, 0, 0, 0), (1, .iconst 0, 3, 0, 0, 0), (2, .iconst 3, 3, 3, 0, 0), (3, .invokestatic 53, 1, 144, 3, 99), (6, .ireturn, 0, 1, 0, 0)]
set_option maxRecDepth 100000 in
def am_c148 : List am_I := [(0, .iload_n 0, 0, 0, 0, 0), (1, .iconst 0, 3, 0, 0, 0), (2, .iconst 5, 3, 5, 0, 0), (3, .invokestatic 53, 1, 144, 3, 99), (6, .ireturn, 0, 1, 0, 0)]
set_option maxRecDepth 100000 in
def am_c149 : List am_I := [(0, .iload_n 1, 0, 0, 0, 0), (1, .invokestatic 57, 1, 147, 1, 99), (4, .ifCond .eq 21, 0, 25, 0, 0), (7, .iload_n 2, 0, 0, 0, 0), (8, .iconst 0, 3, 0, 0, 0), (9, .iconst 2, 3, 2, 0, 0), (10, .invokestatic 53, 1, 144, 3, 99), (13, .ifCond .eq 12, 0, 25, 0, 0), (16, .aload_n 0, 0, 0, 0, 0), (17, .getfield 7, 0, 11, 0, 2), (20, .iconst 1, 3, 1, 0, 0), (21, .iaload, 0, 0, 0, 0), (22, .ifCond .le 5, 0, 27, 0, 0), (25, .iconst 0, 3, 0, 0, 0), (26, .ireturn, 0, 1, 0, 0), (27, .aload_n 0, 0, 0, 0, 0), (28, .getfield 7, 0, 11, 0, 2), (31, .bipush 10, 3, 10, 0, 0), (33, .iload_n 1, 0, 0, 0, 0), (34, .iadd, 0, 0, 0, 0), (35, .iload_n 2, 0, 0, 0, 0), (36, .iastore, 0, 0, 0, 0), (37, .iconst 1, 3, 1, 0, 0), (38, .ireturn, 0, 1, 0, 0)]
set_option maxRecDepth 100000 in
def am_c150 : List am_I := [(0, .iload_n 1, 0, 0, 0, 0), (1, .iconst 0, 3, 0, 0, 0), (2, .iconst 2, 3, 2, 0, 0), (3, .invokestatic 53, 1, 144, 3, 99), (6, .ifCond .eq 26, 0, 32, 0, 0), (9, .iload_n 2, 0, 0, 0, 0), (10, .iconst 0, 3, 0, 0, 0), (11, .iconst 2, 3, 2, 0, 0), (12, .invokestatic 53, 1, 144, 3, 99), (15, .ifCond .eq 17, 0, 32, 0, 0), (18, .iload_n 1, 0, 0, 0, 0), (19, .iload_n 2, 0, 0, 0, 0), (20, .if_icmp .eq 12, 0, 32, 0, 0), (23, .iload_n 3, 0, 0, 0, 0), (24, .iconst 0, 3, 0, 0, 0), (25, .iconst 5, 3, 5, 0, 0), (26, .invokestatic 53, 1, 144, 3, 99), (29, .ifCond .ne 5, 0, 34, 0, 0), (32, .iconst 0, 3, 0, 0, 0), (33, .ireturn, 0, 1, 0, 0), (34, .aload_n 0, 0, 0, 0, 0), (35, .getfield 7, 0, 11, 0, 2), (38, .bipush 14, 3, 14, 0, 0), (40, .iconst 3, 3, 3, 0, 0), (41, .iload_n 1, 0, 0, 0, 0), (42, .imul, 0, 0, 0, 0), (43, .iadd, 0, 0, 0, 0), (44, .iload_n 2, 0, 0, 0, 0), (45, .iadd, 0, 0, 0, 0), (46, .iload_n 3, 0, 0, 0, 0), (47, .iastore, 0, 0, 0, 0), (48, .aload_n 0, 0, 0, 0, 0), (49, .getfield 7, 0, 11, 0, 2), (52, .bipush 14, 3, 14, 0, 0), (54, .iconst 3, 3, 3, 0, 0), (55, .iload_n 2, 0, 0, 0, 0), (56, .imul, 0, 0, 0, 0), (57, .iadd, 0, 0, 0, 0), (58, .iload_n 1, 0, 0, 0, 0), (59, .iadd, 0, 0, 0, 0), (60, .iload_n 3, 0, 0, 0, 0), (61, .iastore, 0, 0, 0, 0), (62, .iconst 1, 3, 1, 0, 0), (63, .ireturn, 0, 1, 0, 0)]
set_option maxRecDepth 100000 in
def am_c151 : List am_I := [(0, .iload_n 1, 0, 0, 0, 0), (1, .iconst 0, 3, 0, 0, 0), (2, .iconst 1, 3, 1, 0, 0), (3, .invokestatic 53, 1, 144, 3, 99), (6, .ifCond .eq 20, 0, 26, 0, 0), (9, .iload_n 2, 0, 0, 0, 0), (10, .aload_n 0, 0, 0, 0, 0), (11, .getfield 7, 0, 11, 0, 2), (14, .iconst 0, 3, 0, 0, 0), (15, .iaload, 0, 0, 0, 0), (16, .iconst 1, 3, 1, 0, 0), (17, .iadd, 0, 0, 0, 0), (18, .bipush 89, 3, 89, 0, 0), (20, .invokestatic 53, 1, 144, 3, 99), (23, .ifCond .ne 5, 0, 28, 0, 0), (26, .iconst 0, 3, 0, 0, 0), (27, .ireturn, 0, 1, 0, 0), (28, .aload_n 0, 0, 0, 0, 0), (29, .getfield 7, 0, 11, 0, 2), (32, .iload_n 1, 0, 0, 0, 0), (33, .ifCond .ne 8, 0, 41, 0, 0), (36, .bipush 30, 3, 30, 0, 0), (38, .goto 5, 0, 43, 0, 0), (41, .bipush 120, 3, 120, 0, 0), (43, .iload_n 2, 0, 0, 0, 0), (44, .iadd, 0, 0, 0, 0), (45, .iload_n 3, 0, 0, 0, 0), (46, .ifCond .eq 7, 0, 53, 0, 0), (49, .iconst 1, 3, 1, 0, 0), (50, .goto 4, 0, 54, 0, 0), (53, .iconst 0, 3, 0, 0, 0), (54, .iastore, 0, 0, 0, 0), (55, .iconst 1, 3, 1, 0, 0), (56, .ireturn, 0, 1, 0, 0)]
set_option maxRecDepth 100000 in
def am_c152 : List am_I := [(0, .iload_n 1, 0, 0, 0, 0), (1, .bipush 7, 3, 7, 0, 0), (3, .irem, 0, 0, 0, 0), (4, .bipush 6, 3, 6, 0, 0), (6, .if_icmp .eq 25, 0, 31, 0, 0), (9, .iload_n 1, 0, 0, 0, 0), (10, .bipush 90, 3, 90, 0, 0), (12, .if_icmp .ge 15, 0, 27, 0, 0), (15, .aload_n 0, 0, 0, 0, 0), (16, .getfield 7, 0, 11, 0, 2), (19, .bipush 30, 3, 30, 0, 0), (21, .iload_n 1, 0, 0, 0, 0), (22, .iadd, 0, 0, 0, 0), (23, .iaload, 0, 0, 0, 0), (24, .ifCond .ne 7, 0, 31, 0, 0), (27, .iconst 1, 3, 1, 0, 0), (28, .goto 4, 0, 32, 0, 0), (31, .iconst 0, 3, 0, 0, 0), (32, .ireturn, 0, 1, 0, 0)]
set_option maxRecDepth 100000 in
def am_c153 : List am_I := [(0, .iload_n 1, 0, 0, 0, 0), (1, .bipush 90, 3, 90, 0, 0), (3, .if_icmp .ge 15, 0, 18, 0, 0), (6, .aload_n 0, 0, 0, 0, 0), (7, .getfield 7, 0, 11, 0, 2), (10, .bipush 120, 3, 120, 0, 0), (12, .iload_n 1, 0, 0, 0, 0), (13, .iadd, 0, 0, 0, 0), (14, .iaload, 0, 0, 0, 0), (15, .ifCond .ne 7, 0, 22, 0, 0), (18, .iconst 1, 3, 1, 0, 0), (19, .goto 4, 0, 23, 0, 0), (22, .iconst 0, 3, 0, 0, 0), (23, .ireturn, 0, 1, 0, 0)]
set_option maxRecDepth 100000 in
def am_c154 : List am_I := [(0, .aload_n 0, 0, 0, 0, 0), (1, .getfield 7, 0, 11, 0, 2), (4, .bipush 14, 3, 14, 0, 0), (6, .iconst 3, 3, 3, 0, 0), (7, .aload_n 0, 0, 0, 0, 0), (8, .getfield 7, 0, 11, 0, 2), (11, .bipush 10, 3, 10, 0, 0), (13, .iload_n 1, 0, 0, 0, 0), (14, .iadd, 0, 0, 0, 0), (15, .iaload, 0, 0, 0, 0), (16, .imul, 0, 0, 0, 0), (17, .iadd, 0, 0, 0, 0), (18, .aload_n 0, 0, 0, 0, 0), (19, .getfield 7, 0, 11, 0, 2), (22, .bipush 10, 3, 10, 0, 0), (24, .iload_n 2, 0, 0, 0, 0), (25, .iadd, 0, 0, 0, 0), (26, .iaload, 0, 0, 0, 0), (27, .iadd, 0, 0, 0, 0), (28, .iaload, 0, 0, 0, 0), (29, .ireturn, 0, 0, 0, 0)]
set_option maxRecDepth 100000 in
def am_c155 : List am_I := [(0, .aload_n 0, 0, 0, 0, 0), (1, .getfield 61, 0, 11, 12, 0), (4, .bipush 20, 3, 20, 0, 0), (6, .iadd, 0, 0, 0, 0), (7, .sipush 400, 3, 400, 0, 0), (10, .if_icmp .le 5, 0, 15, 0, 0), (13, .iconst (-1), 3, 1, 1, 0), (14, .ireturn, 0, 0, 0, 0), (15, .iconst 0, 3, 0, 0, 0), (16, .istore 6, 0, 0, 0, 0), (18, .iload 6, 0, 0, 0, 0), (20, .bipush 20, 3, 20, 0, 0), (22, .if_icmp .ge 93, 0, 115, 0, 0), (25, .iload 6, 0, 0, 0, 0), (27, .iconst 4, 3, 4, 0, 0), (28, .if_icmp .ge 7, 0, 35, 0, 0), (31, .iload_n 1, 0, 0, 0, 0), (32, .goto 39, 0, 71, 0, 0), (35, .iload 6, 0, 0, 0, 0), (37, .bipush 8, 3, 8, 0, 0), (39, .if_icmp .ge 7, 0, 46, 0, 0), (42, .iload_n 2, 0, 0, 0, 0), (43, .goto 28, 0, 71, 0, 0), (46, .iload 6, 0, 0, 0, 0), (48, .bipush 12, 3, 12, 0, 0), (50, .if_icmp .ge 7, 0, 57, 0, 0), (53, .iload_n 3, 0, 0, 0, 0), (54, .goto 17, 0, 71, 0, 0), (57, .iload 6, 0, 0, 0, 0), (59, .bipush 16, 3, 16, 0, 0), (61, .if_icmp .ge 8, 0, 69, 0, 0), (64, .iload 4, 0, 0, 0, 0), (66, .goto 5, 0, 71, 0, 0), (69, .iload 5, 0, 0, 0, 0), (71, .istore 7, 0, 0, 0, 0), (73, .aload_n 0, 0, 0, 0, 0), (74, .getfield 25, 0, 11, 6, 2), (77, .aload_n 0, 0, 0, 0, 0), (78, .getfield 61, 0, 11, 12, 0), (81, .iload 7, 0, 0, 0, 0), (83, .bipush 24, 3, 24, 0, 0), (85, .bipush 8, 3, 8, 0, 0), (87, .iload 6, 0, 0, 0, 0), (89, .iconst 4, 3, 4, 0, 0), (90, .irem, 0, 0, 0, 0), (91, .imul, 0, 0, 0, 0), (92, .isub, 0, 0, 0, 0), (93, .ishr, 0, 0, 0, 0), (94, .sipush 255, 3, 255, 0, 0), (97, .iand, 0, 0, 0, 0), (98, .iastore, 0, 0, 0, 0), (99, .aload_n 0, 0, 0, 0, 0), (100, .dup, 0, 0, 0, 0), (101, .getfield 61, 0, 11, 12, 0), (104, .iconst 1, 3, 1, 0, 0), (105, .iadd, 0, 0, 0, 0), (106, .putfield 61, 0, 11, 12, 0), (109, .iinc 6 1, 3, 1, 0, 0), (112, .goto (-94), 0, 18, 0, 0), (115, .aload_n 0, 0, 0, 0, 0), (116, .getfield 61, 0, 11, 12, 0), (119, .ireturn, 0, 0, 0, 0)]
set_option maxRecDepth 100000 in
def am_c156 : List am_I := [(0, .iload_n 1, 0, 0, 0, 0), (1, .iconst 0, 3, 0, 0, 0), (2, .aload_n 0, 0, 0, 0, 0), (3, .getfield 61, 0, 11, 12, 0), (6, .invokestatic 53, 1, 144, 3, 99), (9, .ifCond .ne 5, 0, 14, 0, 0), (12, .iconst 0, 3, 0, 0, 0), (13, .ireturn, 0, 1, 0, 0), (14, .aload_n 0, 0, 0, 0, 0), (15, .iload_n 1, 0, 0, 0, 0), (16, .putfield 61, 0, 11, 12, 0), (19, .iconst 1, 3, 1, 0, 0), (20, .ireturn, 0, 1, 0, 0)]
set_option maxRecDepth 100000 in
def am_c157 : List am_I := [(0, .iload_n 1, 0, 0, 0, 0), (1, .aload_n 0, 0, 0, 0, 0), (2, .getfield 61, 0, 11, 12, 0), (5, .if_icmp .ge 12, 0, 17, 0, 0), (8, .aload_n 0, 0, 0, 0, 0), (9, .getfield 25, 0, 11, 6, 2), (12, .iload_n 1, 0, 0, 0, 0), (13, .iaload, 0, 0, 0, 0), (14, .goto 4, 0, 18, 0, 0), (17, .iconst (-1), 3, 1, 1, 0), (18, .ireturn, 0, 0, 0, 0)]
set_option maxRecDepth 100000 in
def am_c158 : List am_I := [(0, .iload_n 0, 0, 0, 0, 0), (1, .bipush 97, 3, 97, 0, 0), (3, .bipush 122, 3, 122, 0, 0), (5, .invokestatic 53, 1, 144, 3, 99), (8, .ifCond .ne 14, 0, 22, 0, 0), (11, .iload_n 0, 0, 0, 0, 0), (12, .bipush 65, 3, 65, 0, 0), (14, .bipush 90, 3, 90, 0, 0), (16, .invokestatic 53, 1, 144, 3, 99), (19, .ifCond .eq 7, 0, 26, 0, 0), (22, .iconst 1, 3, 1, 0, 0), (23, .goto 4, 0, 27, 0, 0), (26, .iconst 0, 3, 0, 0, 0), (27, .ireturn, 0, 1, 0, 0)]
set_option maxRecDepth 100000 in
def am_c159 : List am_I := [(0, .iload_n 0, 0, 0, 0, 0), (1, .bipush 48, 3, 48, 0, 0), (3, .bipush 57, 3, 57, 0, 0), (5, .invokestatic 53, 1, 144, 3, 99), (8, .ireturn, 0, 1, 0, 0)]
set_option maxRecDepth 100000 in
def am_c160 : List am_I := [(0, .aload_n 0, 0, 0, 0, 0), (1, .getfield 64, 0, 11, 13, 0), (4, .aload_n 0, 0, 0, 0, 0), (5, .getfield 67, 0, 11, 15, 0), (8, .isub, 0, 0, 0, 0), (9, .aload_n 1, 0, 0, 0, 0), (10, .invokevirtual 70, 1, 241, 0, 20), (13, .if_icmp .ne 7, 0, 20, 0, 0), (16, .iconst 1, 3, 1, 0, 0), (17, .goto 4, 0, 21, 0, 0), (20, .iconst 0, 3, 0, 0, 0), (21, .istore_n 2, 0, 0, 0, 0), (22, .iconst 0, 3, 0, 0, 0), (23, .istore_n 3, 0, 0, 0, 0), (24, .iload_n 3, 0, 0, 0, 0), (25, .aload_n 1, 0, 0, 0, 0), (26, .invokevirtual 70, 1, 241, 0, 20), (29, .if_icmp .ge 38, 0, 67, 0, 0), (32, .iload_n 2, 0, 0, 0, 0), (33, .ifCond .eq 34, 0, 67, 0, 0), (36, .aload_n 0, 0, 0, 0, 0), (37, .getfield 25, 0, 11, 6, 2), (40, .aload_n 0, 0, 0, 0, 0), (41, .getfield 67, 0, 11, 15, 0), (44, .iload_n 3, 0, 0, 0, 0), (45, .iadd, 0, 0, 0, 0), (46, .iaload, 0, 0, 0, 0), (47, .aload_n 1, 0, 0, 0, 0), (48, .iload_n 3, 0, 0, 0, 0), (49, .invokevirtual 76, 1, 242, 1, 20), (52, .if_icmp .ne 7, 0, 59, 0, 0), (55, .iconst 1, 3, 1, 0, 0), (56, .goto 4, 0, 60, 0, 0), (59, .iconst 0, 3, 0, 0, 0), (60, .istore_n 2, 0, 0, 0, 0), (61, .iinc 3 1, 3, 1, 0, 0), (64, .goto (-40), 0, 24, 0, 0), (67, .iload_n 2, 0, 0, 0, 0), (68, .ireturn, 0, 1, 0, 0)]
set_option maxRecDepth 100000 in
def am_c161 : List am_I := [(0, .aload_n 0, 0, 0, 0, 0), (1, .ldc 80, 4, 0, 0, 0), (3, .invokevirtual 82, 1, 160, 1, 11), (6, .ifCond .eq 6, 0, 12, 0, 0), (9, .bipush 20, 3, 20, 0, 0), (11, .ireturn, 0, 0, 0, 0), (12, .aload_n 0, 0, 0, 0, 0), (13, .ldc 86, 4, 1, 0, 0), (15, .invokevirtual 82, 1, 160, 1, 11), (18, .ifCond .eq 6, 0, 24, 0, 0), (21, .bipush 21, 3, 21, 0, 0), (23, .ireturn, 0, 0, 0, 0), (24, .aload_n 0, 0, 0, 0, 0), (25, .ldc 88, 4, 2, 0, 0), (27, .invokevirtual 82, 1, 160, 1, 11), (30, .ifCond .eq 6, 0, 36, 0, 0), (33, .bipush 22, 3, 22, 0, 0), (35, .ireturn, 0, 0, 0, 0), (36, .aload_n 0, 0, 0, 0, 0), (37, .ldc 90, 4, 7, 0, 0), (39, .invokevirtual 82, 1, 160, 1, 11), (42, .ifCond .eq 6, 0, 48, 0, 0), (45, .bipush 41, 3, 41, 0, 0), (47, .ireturn, 0, 0, 0, 0), (48, .aload_n 0, 0, 0, 0, 0), (49, .ldc 92, 4, 9, 0, 0), (51, .invokevirtual 82, 1, 160, 1, 11), (54, .ifCond .eq 6, 0, 60, 0, 0), (57, .bipush 43, 3, 43, 0, 0), (59, .ireturn, 0, 0, 0, 0), (60, .aload_n 0, 0, 0, 0, 0), (61, .ldc 94, 4, 10, 0, 0), (63, .invokevirtual 82, 1, 160, 1, 11), (66, .ifCond .eq 6, 0, 72, 0, 0), (69, .bipush 44, 3, 44, 0, 0), (71, .ireturn, 0, 0, 0, 0), (72, .aload_n 0, 0, 0, 0, 0), (73, .ldc 96, 4, 11, 0, 0), (75, .invokevirtual 82, 1, 160, 1, 11), (78, .ifCond .eq 8, 0, 86, 0, 0), (81, .bipush 45, 3, 45, 0, 0), (83, .goto 4, 0, 87, 0, 0), (86, .iconst 1, 3, 1, 0, 0), (87, .ireturn, 0, 0, 0, 0)]
set_option maxRecDepth 100000 in
def am_c162 : List am_I := [(0, .aload_n 0, 0, 0, 0, 0), (1, .ldc 98, 4, 14, 0, 0), (3, .invokevirtual 82, 1, 160, 1, 11), (6, .ifCond .eq 6, 0, 12, 0, 0), (9, .bipush 23, 3, 23, 0, 0), (11, .ireturn, 0, 0, 0, 0), (12, .aload_n 0, 0, 0, 0, 0), (13, .ldc 100, 4, 15, 0, 0), (15, .invokevirtual 82, 1, 160, 1, 11), (18, .ifCond .eq 6, 0, 24, 0, 0), (21, .bipush 48, 3, 48, 0, 0), (23, .ireturn, 0, 0, 0, 0), (24, .aload_n 0, 0, 0, 0, 0), (25, .ldc 102, 4, 16, 0, 0), (27, .invokevirtual 82, 1, 160, 1, 11), (30, .ifCond .eq 6, 0, 36, 0, 0), (33, .bipush 49, 3, 49, 0, 0), (35, .ireturn, 0, 0, 0, 0), (36, .aload_n 0, 0, 0, 0, 0), (37, .ldc 104, 4, 17, 0, 0), (39, .invokevirtual 82, 1, 160, 1, 11), (42, .ifCond .eq 6, 0, 48, 0, 0), (45, .bipush 50, 3, 50, 0, 0), (47, .ireturn, 0, 0, 0, 0), (48, .aload_n 0, 0, 0, 0, 0), (49, .ldc 106, 4, 18, 0, 0), (51, .invokevirtual 82, 1, 160, 1, 11), (54, .ifCond .eq 8, 0, 62, 0, 0), (57, .bipush 51, 3, 51, 0, 0), (59, .goto 4, 0, 63, 0, 0), (62, .iconst 1, 3, 1, 0, 0), (63, .ireturn, 0, 0, 0, 0)]
set_option maxRecDepth 100000 in
def am_c163 : List am_I := [(0, .aload_n 0, 0, 0, 0, 0), (1, .ldc 108, 4, 3, 0, 0), (3, .invokevirtual 82, 1, 160, 1, 11), (6, .ifCond .eq 5, 0, 11, 0, 0), (9, .iconst 3, 3, 3, 0, 0), (10, .ireturn, 0, 0, 0, 0), (11, .aload_n 0, 0, 0, 0, 0), (12, .ldc 110, 4, 4, 0, 0), (14, .invokevirtual 82, 1, 160, 1, 11), (17, .ifCond .eq 5, 0, 22, 0, 0), (20, .iconst 4, 3, 4, 0, 0), (21, .ireturn, 0, 0, 0, 0), (22, .aload_n 0, 0, 0, 0, 0), (23, .ldc 112, 4, 5, 0, 0), (25, .invokevirtual 82, 1, 160, 1, 11), (28, .ifCond .eq 5, 0, 33, 0, 0), (31, .iconst 5, 3, 5, 0, 0), (32, .ireturn, 0, 0, 0, 0), (33, .aload_n 0, 0, 0, 0, 0), (34, .ldc 114, 4, 6, 0, 0), (36, .invokevirtual 82, 1, 160, 1, 11), (39, .ifCond .eq 6, 0, 45, 0, 0), (42, .bipush 6, 3, 6, 0, 0), (44, .ireturn, 0, 0, 0, 0), (45, .aload_n 0, 0, 0, 0, 0), (46, .ldc 116, 4, 8, 0, 0), (48, .invokevirtual 82, 1, 160, 1, 11), (51, .ifCond .eq 6, 0, 57, 0, 0), (54, .bipush 42, 3, 42, 0, 0), (56, .ireturn, 0, 0, 0, 0), (57, .aload_n 0, 0, 0, 0, 0), (58, .ldc 118, 4, 12, 0, 0), (60, .invokevirtual 82, 1, 160, 1, 11), (63, .ifCond .eq 6, 0, 69, 0, 0), (66, .bipush 46, 3, 46, 0, 0), (68, .ireturn, 0, 0, 0, 0), (69, .aload_n 0, 0, 0, 0, 0), (70, .ldc 120, 4, 13, 0, 0), (72, .invokevirtual 82, 1, 160, 1, 11), (75, .ifCond .eq 6, 0, 81, 0, 0), (78, .bipush 47, 3, 47, 0, 0), (80, .ireturn, 0, 0, 0, 0), (81, .aload_n 0, 0, 0, 0, 0), (82, .getfield 122, 0, 11, 9, 0), (85, .iconst 4, 3, 4, 0, 0), (86, .if_icmp .ge 10, 0, 96, 0, 0), (89, .aload_n 0, 0, 0, 0, 0), (90, .invokevirtual 125, 1, 161, 0, 11), (93, .goto 7, 0, 100, 0, 0), (96, .aload_n 0, 0, 0, 0, 0), (97, .invokevirtual 128, 1, 162, 0, 11), (100, .ireturn, 0, 0, 0, 0)]
set_option maxRecDepth 100000 in
def am_c164 : List am_I := [(0, .aload_n 0, 0, 0, 0, 0), (1, .aload_n 0, 0, 0, 0, 0), (2, .getfield 64, 0, 11, 13, 0), (5, .invokevirtual 131, 1, 157, 1, 11), (8, .bipush 32, 3, 32, 0, 0), (10, .if_icmp .eq 16, 0, 26, 0, 0), (13, .aload_n 0, 0, 0, 0, 0), (14, .aload_n 0, 0, 0, 0, 0), (15, .getfield 64, 0, 11, 13, 0), (18, .invokevirtual 131, 1, 157, 1, 11), (21, .bipush 10, 3, 10, 0, 0), (23, .if_icmp .ne 16, 0, 39, 0, 0), (26, .aload_n 0, 0, 0, 0, 0), (27, .dup, 0, 0, 0, 0), (28, .getfield 64, 0, 11, 13, 0), (31, .iconst 1, 3, 1, 0, 0), (32, .iadd, 0, 0, 0, 0), (33, .putfield 64, 0, 11, 13, 0), (36, .goto (-36), 0, 0, 0, 0), (39, .aload_n 0, 0, 0, 0, 0), (40, .aload_n 0, 0, 0, 0, 0), (41, .getfield 64, 0, 11, 13, 0), (44, .putfield 67, 0, 11, 15, 0), (47, .aload_n 0, 0, 0, 0, 0), (48, .aload_n 0, 0, 0, 0, 0), (49, .getfield 64, 0, 11, 13, 0), (52, .invokevirtual 131, 1, 157, 1, 11), (55, .istore_n 1, 0, 0, 0, 0), (56, .iload_n 1, 0, 0, 0, 0), (57, .iconst (-1), 3, 1, 1, 0), (58, .if_icmp .ne 11, 0, 69, 0, 0), (61, .aload_n 0, 0, 0, 0, 0), (62, .iconst 0, 3, 0, 0, 0), (63, .putfield 135, 0, 11, 14, 0), (66, .goto 241, 0, 307, 0, 0), (69, .iload_n 1, 0, 0, 0, 0), (70, .invokestatic 138, 1, 158, 1, 99), (73, .ifCond .eq 41, 0, 114, 0, 0), (76, .aload_n 0, 0, 0, 0, 0), (77, .aload_n 0, 0, 0, 0, 0), (78, .getfield 64, 0, 11, 13, 0), (81, .invokevirtual 131, 1, 157, 1, 11), (84, .invokestatic 138, 1, 158, 1, 99), (87, .ifCond .eq 16, 0, 103, 0, 0), (90, .aload_n 0, 0, 0, 0, 0), (91, .dup, 0, 0, 0, 0), (92, .getfield 64, 0, 11, 13, 0), (95, .iconst 1, 3, 1, 0, 0), (96, .iadd, 0, 0, 0, 0), (97, .putfield 64, 0, 11, 13, 0), (100, .goto (-24), 0, 76, 0, 0), (103, .aload_n 0, 0, 0, 0, 0), (104, .aload_n 0, 0, 0, 0, 0), (105, .invokevirtual 141, 1, 163, 0, 11), (108, .putfield 135, 0, 11, 14, 0), (111, .goto 196, 0, 307, 0, 0), (114, .iload_n 1, 0, 0, 0, 0), (115, .invokestatic 144, 1, 159, 1, 99), (118, .ifCond .eq 97, 0, 215, 0, 0), (121, .aload_n 0, 0, 0, 0, 0), (122, .iconst 0, 3, 0, 0, 0), (123, .putfield 147, 0, 11, 16, 0), (126, .aload_n 0, 0, 0, 0, 0), (127, .aload_n 0, 0, 0, 0, 0), (128, .getfield 64, 0, 11, 13, 0), (131, .invokevirtual 131, 1, 157, 1, 11), (134, .invokestatic 144, 1, 159, 1, 99), (137, .ifCond .eq 52, 0, 189, 0, 0), (140, .aload_n 0, 0, 0, 0, 0), (141, .getfield 64, 0, 11, 13, 0), (144, .aload_n 0, 0, 0, 0, 0), (145, .getfield 67, 0, 11, 15, 0), (148, .iconst 5, 3, 5, 0, 0), (149, .iadd, 0, 0, 0, 0), (150, .if_icmp .ge 26, 0, 176, 0, 0), (153, .aload_n 0, 0, 0, 0, 0), (154, .bipush 10, 3, 10, 0, 0), (156, .aload_n 0, 0, 0, 0, 0), (157, .getfield 147, 0, 11, 16, 0), (160, .imul, 0, 0, 0, 0), (161, .aload_n 0, 0, 0, 0, 0), (162, .aload_n 0, 0, 0, 0, 0), (163, .getfield 64, 0, 11, 13, 0), (166, .invokevirtual 131, 1, 157, 1, 11), (169, .iadd, 0, 0, 0, 0), (170, .bipush 48, 3, 48, 0, 0), (172, .isub, 0, 0, 0, 0), (173, .putfield 147, 0, 11, 16, 0), (176, .aload_n 0, 0, 0, 0, 0), (177, .dup, 0, 0, 0, 0), (178, .getfield 64, 0, 11, 13, 0), (181, .iconst 1, 3, 1, 0, 0), (182, .iadd, 0, 0, 0, 0), (183, .putfield 64, 0, 11, 13, 0), (186, .goto (-60), 0, 126, 0, 0), (189, .aload_n 0, 0, 0, 0, 0), (190, .aload_n 0, 0, 0, 0, 0), (191, .getfield 64, 0, 11, 13, 0), (194, .aload_n 0, 0, 0, 0, 0), (195, .getfield 67, 0, 11, 15, 0), (198, .isub, 0, 0, 0, 0), (199, .bipush 6, 3, 6, 0, 0), (201, .if_icmp .ge 7, 0, 208, 0, 0), (204, .iconst 2, 3, 2, 0, 0), (205, .goto 4, 0, 209, 0, 0), (208, .iconst 1, 3, 1, 0, 0), (209, .putfield 135, 0, 11, 14, 0), (212, .goto 95, 0, 307, 0, 0), (215, .aload_n 0, 0, 0, 0, 0), (216, .dup, 0, 0, 0, 0), (217, .getfield 64, 0, 11, 13, 0), (220, .iconst 1, 3, 1, 0, 0), (221, .iadd, 0, 0, 0, 0), (222, .putfield 64, 0, 11, 13, 0), (225, .iload_n 1, 0, 0, 0, 0), (226, .bipush 59, 3, 59, 0, 0), (228, .if_icmp .eq 57, 0, 285, 0, 0), (231, .iload_n 1, 0, 0, 0, 0), (232, .bipush 43, 3, 43, 0, 0), (234, .if_icmp .eq 51, 0, 285, 0, 0), (237, .iload_n 1, 0, 0, 0, 0), (238, .bipush 45, 3, 45, 0, 0), (240, .if_icmp .eq 45, 0, 285, 0, 0), (243, .iload_n 1, 0, 0, 0, 0), (244, .bipush 42, 3, 42, 0, 0), (246, .if_icmp .eq 39, 0, 285, 0, 0), (249, .iload_n 1, 0, 0, 0, 0), (250, .bipush 47, 3, 47, 0, 0), (252, .if_icmp .eq 33, 0, 285, 0, 0), (255, .iload_n 1, 0, 0, 0, 0), (256, .bipush 40, 3, 40, 0, 0), (258, .if_icmp .eq 27, 0, 285, 0, 0), (261, .iload_n 1, 0, 0, 0, 0), (262, .bipush 41, 3, 41, 0, 0), (264, .if_icmp .eq 21, 0, 285, 0, 0), (267, .iload_n 1, 0, 0, 0, 0), (268, .bipush 60, 3, 60, 0, 0), (270, .if_icmp .eq 15, 0, 285, 0, 0), (273, .iload_n 1, 0, 0, 0, 0), (274, .bipush 61, 3, 61, 0, 0), (276, .if_icmp .eq 9, 0, 285, 0, 0), (279, .iload_n 1, 0, 0, 0, 0), (280, .bipush 62, 3, 62, 0, 0), (282, .if_icmp .ne 7, 0, 289, 0, 0), (285, .iconst 1, 3, 1, 0, 0), (286, .goto 4, 0, 290, 0, 0), (289, .iconst 0, 3, 0, 0, 0), (290, .istore_n 2, 0, 0, 0, 0), (291, .aload_n 0, 0, 0, 0, 0), (292, .iload_n 2, 0, 0, 0, 0), (293, .ifCond .eq 10, 0, 303, 0, 0), (296, .bipush 100, 3, 100, 0, 0), (298, .iload_n 1, 0, 0, 0, 0), (299, .iadd, 0, 0, 0, 0), (300, .goto 4, 0, 304, 0, 0), (303, .iconst 1, 3, 1, 0, 0), (304, .putfield 135, 0, 11, 14, 0), (307, .return_, 0, 0, 0, 0)]
set_option maxRecDepth 100000 in
def am_c165 : List am_I := [(0, .aload_n 0, 0, 0, 0, 0), (1, .iload_n 1, 0, 0, 0, 0), (2, .putfield 150, 0, 11, 17, 0), (5, .aload_n 0, 0, 0, 0, 0), (6, .aload_n 0, 0, 0, 0, 0), (7, .getfield 67, 0, 11, 15, 0), (10, .putfield 153, 0, 11, 18, 0), (13, .iconst 0, 3, 0, 0, 0), (14, .ireturn, 0, 1, 0, 0)]
set_option maxRecDepth 100000 in
def am_c166 : List am_I := [(0, .aload_n 0, 0, 0, 0, 0), (1, .getfield 135, 0, 11, 14, 0), (4, .iload_n 1, 0, 0, 0, 0), (5, .if_icmp .eq 9, 0, 14, 0, 0), (8, .aload_n 0, 0, 0, 0, 0), (9, .iconst 1, 3, 1, 0, 0), (10, .invokevirtual 156, 1, 165, 1, 11), (13, .ireturn, 0, 1, 0, 0), (14, .aload_n 0, 0, 0, 0, 0), (15, .invokevirtual 159, 1, 164, 0, 11), (18, .iconst 1, 3, 1, 0, 0), (19, .ireturn, 0, 1, 0, 0)]
set_option maxRecDepth 100000 in
def am_c167 : List am_I := [(0, .aload_n 0, 0, 0, 0, 0), (1, .getfield 22, 0, 11, 5, 2), (4, .iconst 2, 3, 2, 0, 0), (5, .aload_n 0, 0, 0, 0, 0), (6, .getfield 162, 0, 11, 11, 0), (9, .imul, 0, 0, 0, 0), (10, .iload_n 1, 0, 0, 0, 0), (11, .iastore, 0, 0, 0, 0), (12, .aload_n 0, 0, 0, 0, 0), (13, .getfield 22, 0, 11, 5, 2), (16, .iconst 2, 3, 2, 0, 0), (17, .aload_n 0, 0, 0, 0, 0), (18, .getfield 162, 0, 11, 11, 0), (21, .imul, 0, 0, 0, 0), (22, .iconst 1, 3, 1, 0, 0), (23, .iadd, 0, 0, 0, 0), (24, .iload_n 2, 0, 0, 0, 0), (25, .iastore, 0, 0, 0, 0), (26, .aload_n 0, 0, 0, 0, 0), (27, .dup, 0, 0, 0, 0), (28, .getfield 162, 0, 11, 11, 0), (31, .iconst 1, 3, 1, 0, 0), (32, .iadd, 0, 0, 0, 0), (33, .putfield 162, 0, 11, 11, 0), (36, .return_, 0, 0, 0, 0)]
set_option maxRecDepth 100000 in
def am_c168 : List am_I := [(0, .aload_n 0, 0, 0, 0, 0), (1, .getfield 165, 0, 11, 20, 0), (4, .bipush 8, 3, 8, 0, 0), (6, .if_icmp .ne 9, 0, 15, 0, 0), (9, .aload_n 0, 0, 0, 0, 0), (10, .iconst 3, 3, 3, 0, 0), (11, .invokevirtual 156, 1, 165, 1, 11), (14, .ireturn, 0, 1, 0, 0), (15, .aload_n 0, 0, 0, 0, 0), (16, .dup, 0, 0, 0, 0), (17, .getfield 165, 0, 11, 20, 0), (20, .iconst 1, 3, 1, 0, 0), (21, .iadd, 0, 0, 0, 0), (22, .putfield 165, 0, 11, 20, 0), (25, .aload_n 0, 0, 0, 0, 0), (26, .invokevirtual 159, 1, 164, 0, 11), (29, .iconst 1, 3, 1, 0, 0), (30, .ireturn, 0, 1, 0, 0)]
set_option maxRecDepth 100000 in
def am_c169 : List am_I := [(0, .aload_n 0, 0, 0, 0, 0), (1, .invokevirtual 168, 1, 170, 0, 11), (4, .ifCond .ne 5, 0, 9, 0, 0), (7, .iconst 0, 3, 0, 0, 0), (8, .ireturn, 0, 1, 0, 0), (9, .aload_n 0, 0, 0, 0, 0), (10, .getfield 135, 0, 11, 14, 0), (13, .sipush 143, 3, 143, 0, 0), (16, .if_icmp .eq 13, 0, 29, 0, 0), (19, .aload_n 0, 0, 0, 0, 0), (20, .getfield 135, 0, 11, 14, 0), (23, .sipush 145, 3, 145, 0, 0), (26, .if_icmp .ne 43, 0, 69, 0, 0), (29, .aload_n 0, 0, 0, 0, 0), (30, .getfield 135, 0, 11, 14, 0), (33, .sipush 143, 3, 143, 0, 0), (36, .if_icmp .ne 8, 0, 44, 0, 0), (39, .bipush 12, 3, 12, 0, 0), (41, .goto 5, 0, 46, 0, 0), (44, .bipush 13, 3, 13, 0, 0), (46, .istore_n 1, 0, 0, 0, 0), (47, .aload_n 0, 0, 0, 0, 0), (48, .invokevirtual 159, 1, 164, 0, 11), (51, .aload_n 0, 0, 0, 0, 0), (52, .invokevirtual 168, 1, 170, 0, 11), (55, .ifCond .ne 5, 0, 60, 0, 0), (58, .iconst 0, 3, 0, 0, 0), (59, .ireturn, 0, 1, 0, 0), (60, .aload_n 0, 0, 0, 0, 0), (61, .iload_n 1, 0, 0, 0, 0), (62, .iconst 0, 3, 0, 0, 0), (63, .invokevirtual 172, 1, 167, 2, 11), (66, .goto (-57), 0, 9, 0, 0), (69, .iconst 1, 3, 1, 0, 0), (70, .ireturn, 0, 1, 0, 0)]
set_option maxRecDepth 100000 in
def am_c170 : List am_I := [(0, .aload_n 0, 0, 0, 0, 0), (1, .invokevirtual 176, 1, 171, 0, 11), (4, .ifCond .ne 5, 0, 9, 0, 0), (7, .iconst 0, 3, 0, 0, 0), (8, .ireturn, 0, 1, 0, 0), (9, .aload_n 0, 0, 0, 0, 0), (10, .getfield 135, 0, 11, 14, 0), (13, .sipush 142, 3, 142, 0, 0), (16, .if_icmp .eq 13, 0, 29, 0, 0), (19, .aload_n 0, 0, 0, 0, 0), (20, .getfield 135, 0, 11, 14, 0), (23, .sipush 147, 3, 147, 0, 0), (26, .if_icmp .ne 90, 0, 116, 0, 0), (29, .aload_n 0, 0, 0, 0, 0), (30, .getfield 135, 0, 11, 14, 0), (33, .sipush 147, 3, 147, 0, 0), (36, .if_icmp .ne 7, 0, 43, 0, 0), (39, .iconst 1, 3, 1, 0, 0), (40, .goto 4, 0, 44, 0, 0), (43, .iconst 0, 3, 0, 0, 0), (44, .istore_n 1, 0, 0, 0, 0), (45, .aload_n 0, 0, 0, 0, 0), (46, .invokevirtual 159, 1, 164, 0, 11), (49, .iload_n 1, 0, 0, 0, 0), (50, .ifCond .eq 47, 0, 97, 0, 0), (53, .aload_n 0, 0, 0, 0, 0), (54, .getfield 135, 0, 11, 14, 0), (57, .iconst 2, 3, 2, 0, 0), (58, .if_icmp .eq 9, 0, 67, 0, 0), (61, .aload_n 0, 0, 0, 0, 0), (62, .iconst 1, 3, 1, 0, 0), (63, .invokevirtual 156, 1, 165, 1, 11), (66, .ireturn, 0, 1, 0, 0), (67, .aload_n 0, 0, 0, 0, 0), (68, .getfield 147, 0, 11, 16, 0), (71, .ifCond .ne 9, 0, 80, 0, 0), (74, .aload_n 0, 0, 0, 0, 0), (75, .iconst 2, 3, 2, 0, 0), (76, .invokevirtual 156, 1, 165, 1, 11), (79, .ireturn, 0, 1, 0, 0), (80, .aload_n 0, 0, 0, 0, 0), (81, .bipush 15, 3, 15, 0, 0), (83, .aload_n 0, 0, 0, 0, 0), (84, .getfield 147, 0, 11, 16, 0), (87, .invokevirtual 172, 1, 167, 2, 11), (90, .aload_n 0, 0, 0, 0, 0), (91, .invokevirtual 159, 1, 164, 0, 11), (94, .goto 19, 0, 113, 0, 0), (97, .aload_n 0, 0, 0, 0, 0), (98, .invokevirtual 176, 1, 171, 0, 11), (101, .ifCond .ne 5, 0, 106, 0, 0), (104, .iconst 0, 3, 0, 0, 0), (105, .ireturn, 0, 1, 0, 0), (106, .aload_n 0, 0, 0, 0, 0), (107, .bipush 14, 3, 14, 0, 0), (109, .iconst 0, 3, 0, 0, 0), (110, .invokevirtual 172, 1, 167, 2, 11), (113, .goto (-104), 0, 9, 0, 0), (116, .iconst 1, 3, 1, 0, 0), (117, .ireturn, 0, 1, 0, 0)]
set_option maxRecDepth 100000 in
def am_c171 : List am_I := [(0, .aload_n 0, 0, 0, 0, 0), (1, .getfield 135, 0, 11, 14, 0), (4, .bipush 41, 3, 41, 0, 0), (6, .bipush 51, 3, 51, 0, 0), (8, .invokestatic 53, 1, 144, 3, 99), (11, .istore_n 1, 0, 0, 0, 0), (12, .aload_n 0, 0, 0, 0, 0), (13, .getfield 135, 0, 11, 14, 0), (16, .iconst 2, 3, 2, 0, 0), (17, .if_icmp .eq 13, 0, 30, 0, 0), (20, .iload_n 1, 0, 0, 0, 0), (21, .ifCond .ne 9, 0, 30, 0, 0), (24, .aload_n 0, 0, 0, 0, 0), (25, .iconst 1, 3, 1, 0, 0), (26, .invokevirtual 156, 1, 165, 1, 11), (29, .ireturn, 0, 1, 0, 0), (30, .aload_n 0, 0, 0, 0, 0), (31, .iload_n 1, 0, 0, 0, 0), (32, .ifCond .eq 13, 0, 45, 0, 0), (35, .aload_n 0, 0, 0, 0, 0), (36, .getfield 135, 0, 11, 14, 0), (39, .bipush 40, 3, 40, 0, 0), (41, .isub, 0, 0, 0, 0), (42, .goto 4, 0, 46, 0, 0), (45, .iconst 0, 3, 0, 0, 0), (46, .aload_n 0, 0, 0, 0, 0), (47, .getfield 147, 0, 11, 16, 0), (50, .invokevirtual 172, 1, 167, 2, 11), (53, .aload_n 0, 0, 0, 0, 0), (54, .invokevirtual 159, 1, 164, 0, 11), (57, .iconst 1, 3, 1, 0, 0), (58, .ireturn, 0, 1, 0, 0)]
set_option maxRecDepth 100000 in
def am_c172 : List am_I := [(0, .aload_n 0, 0, 0, 0, 0), (1, .invokevirtual 179, 1, 173, 0, 11), (4, .ifCond .ne 5, 0, 9, 0, 0), (7, .iconst 0, 3, 0, 0, 0), (8, .ireturn, 0, 1, 0, 0), (9, .aload_n 0, 0, 0, 0, 0), (10, .getfield 135, 0, 11, 14, 0), (13, .iconst 4, 3, 4, 0, 0), (14, .if_icmp .ne 26, 0, 40, 0, 0), (17, .aload_n 0, 0, 0, 0, 0), (18, .invokevirtual 159, 1, 164, 0, 11), (21, .aload_n 0, 0, 0, 0, 0), (22, .invokevirtual 179, 1, 173, 0, 11), (25, .ifCond .ne 5, 0, 30, 0, 0), (28, .iconst 0, 3, 0, 0, 0), (29, .ireturn, 0, 1, 0, 0), (30, .aload_n 0, 0, 0, 0, 0), (31, .bipush 21, 3, 21, 0, 0), (33, .iconst 0, 3, 0, 0, 0), (34, .invokevirtual 172, 1, 167, 2, 11), (37, .goto (-28), 0, 9, 0, 0), (40, .iconst 1, 3, 1, 0, 0), (41, .ireturn, 0, 1, 0, 0)]
set_option maxRecDepth 100000 in
def am_c173 : List am_I := [(0, .aload_n 0, 0, 0, 0, 0), (1, .invokevirtual 182, 1, 174, 0, 11), (4, .ifCond .ne 5, 0, 9, 0, 0), (7, .iconst 0, 3, 0, 0, 0), (8, .ireturn, 0, 1, 0, 0), (9, .aload_n 0, 0, 0, 0, 0), (10, .getfield 135, 0, 11, 14, 0), (13, .iconst 5, 3, 5, 0, 0), (14, .if_icmp .ne 26, 0, 40, 0, 0), (17, .aload_n 0, 0, 0, 0, 0), (18, .invokevirtual 159, 1, 164, 0, 11), (21, .aload_n 0, 0, 0, 0, 0), (22, .invokevirtual 182, 1, 174, 0, 11), (25, .ifCond .ne 5, 0, 30, 0, 0), (28, .iconst 0, 3, 0, 0, 0), (29, .ireturn, 0, 1, 0, 0), (30, .aload_n 0, 0, 0, 0, 0), (31, .bipush 20, 3, 20, 0, 0), (33, .iconst 0, 3, 0, 0, 0), (34, .invokevirtual 172, 1, 167, 2, 11), (37, .goto (-28), 0, 9, 0, 0), (40, .iconst 1, 3, 1, 0, 0), (41, .ireturn, 0, 1, 0, 0)]
set_option maxRecDepth 100000 in
def am_c174 : List am_I := [(0, .aload_n 0, 0, 0, 0, 0), (1, .getfield 135, 0, 11, 14, 0), (4, .bipush 6, 3, 6, 0, 0), (6, .if_icmp .ne 38, 0, 44, 0, 0), (9, .aload_n 0, 0, 0, 0, 0), (10, .invokevirtual 185, 1, 168, 0, 11), (13, .ifCond .eq 10, 0, 23, 0, 0), (16, .aload_n 0, 0, 0, 0, 0), (17, .invokevirtual 182, 1, 174, 0, 11), (20, .ifCond .ne 5, 0, 25, 0, 0), (23, .iconst 0, 3, 0, 0, 0), (24, .ireturn, 0, 1, 0, 0), (25, .aload_n 0, 0, 0, 0, 0), (26, .dup, 0, 0, 0, 0), (27, .getfield 165, 0, 11, 20, 0), (30, .iconst 1, 3, 1, 0, 0), (31, .isub, 0, 0, 0, 0), (32, .putfield 165, 0, 11, 20, 0), (35, .aload_n 0, 0, 0, 0, 0), (36, .bipush 19, 3, 19, 0, 0), (38, .iconst 0, 3, 0, 0, 0), (39, .invokevirtual 172, 1, 167, 2, 11), (42, .iconst 1, 3, 1, 0, 0), (43, .ireturn, 0, 1, 0, 0), (44, .aload_n 0, 0, 0, 0, 0), (45, .getfield 135, 0, 11, 14, 0), (48, .sipush 140, 3, 140, 0, 0), (51, .if_icmp .ne 41, 0, 92, 0, 0), (54, .aload_n 0, 0, 0, 0, 0), (55, .invokevirtual 185, 1, 168, 0, 11), (58, .ifCond .eq 20, 0, 78, 0, 0), (61, .aload_n 0, 0, 0, 0, 0), (62, .invokevirtual 188, 1, 172, 0, 11), (65, .ifCond .eq 13, 0, 78, 0, 0), (68, .aload_n 0, 0, 0, 0, 0), (69, .sipush 141, 3, 141, 0, 0), (72, .invokevirtual 191, 1, 166, 1, 11), (75, .ifCond .ne 5, 0, 80, 0, 0), (78, .iconst 0, 3, 0, 0, 0), (79, .ireturn, 0, 1, 0, 0), (80, .aload_n 0, 0, 0, 0, 0), (81, .dup, 0, 0, 0, 0), (82, .getfield 165, 0, 11, 20, 0), (85, .iconst 1, 3, 1, 0, 0), (86, .isub, 0, 0, 0, 0), (87, .putfield 165, 0, 11, 20, 0), (90, .iconst 1, 3, 1, 0, 0), (91, .ireturn, 0, 1, 0, 0), (92, .aload_n 0, 0, 0, 0, 0), (93, .invokevirtual 194, 1, 169, 0, 11), (96, .ifCond .ne 5, 0, 101, 0, 0), (99, .iconst 0, 3, 0, 0, 0), (100, .ireturn, 0, 1, 0, 0), (101, .aload_n 0, 0, 0, 0, 0), (102, .getfield 135, 0, 11, 14, 0), (105, .sipush 160, 3, 160, 0, 0), (108, .if_icmp .ne 8, 0, 116, 0, 0), (111, .bipush 16, 3, 16, 0, 0), (113, .goto 34, 0, 147, 0, 0), (116, .aload_n 0, 0, 0, 0, 0), (117, .getfield 135, 0, 11, 14, 0), (120, .sipush 161, 3, 161, 0, 0), (123, .if_icmp .ne 8, 0, 131, 0, 0), (126, .bipush 17, 3, 17, 0, 0), (128, .goto 19, 0, 147, 0, 0), (131, .aload_n 0, 0, 0, 0, 0), (132, .getfield 135, 0, 11, 14, 0), (135, .sipush 162, 3, 162, 0, 0), (138, .if_icmp .ne 8, 0, 146, 0, 0), (141, .bipush 18, 3, 18, 0, 0), (143, .goto 4, 0, 147, 0, 0), (146, .iconst (-1), 3, 1, 1, 0), (147, .istore_n 1, 0, 0, 0, 0), (148, .iload_n 1, 0, 0, 0, 0), (149, .iconst (-1), 3, 1, 1, 0), (150, .if_icmp .ne 9, 0, 159, 0, 0), (153, .aload_n 0, 0, 0, 0, 0), (154, .iconst 1, 3, 1, 0, 0), (155, .invokevirtual 156, 1, 165, 1, 11), (158, .ireturn, 0, 1, 0, 0), (159, .aload_n 0, 0, 0, 0, 0), (160, .invokevirtual 159, 1, 164, 0, 11), (163, .aload_n 0, 0, 0, 0, 0), (164, .invokevirtual 194, 1, 169, 0, 11), (167, .ifCond .ne 5, 0, 172, 0, 0), (170, .iconst 0, 3, 0, 0, 0), (171, .ireturn, 0, 1, 0, 0), (172, .aload_n 0, 0, 0, 0, 0), (173, .iload_n 1, 0, 0, 0, 0), (174, .iconst 0, 3, 0, 0, 0), (175, .invokevirtual 172, 1, 167, 2, 11), (178, .iconst 1, 3, 1, 0, 0), (179, .ireturn, 0, 1, 0, 0)]
set_option maxRecDepth 100000 in
def am_c175 : List am_I := [(0, .aload_n 0, 0, 0, 0, 0), (1, .getfield 122, 0, 11, 9, 0), (4, .iconst 4, 3, 4, 0, 0), (5, .if_icmp .ne 7, 0, 12, 0, 0), (8, .iconst 1, 3, 1, 0, 0), (9, .goto 4, 0, 13, 0, 0), (12, .iconst 0, 3, 0, 0, 0), (13, .istore_n 1, 0, 0, 0, 0), (14, .iload_n 1, 0, 0, 0, 0), (15, .ifCond .eq 15, 0, 30, 0, 0), (18, .aload_n 0, 0, 0, 0, 0), (19, .getfield 135, 0, 11, 14, 0), (22, .bipush 23, 3, 23, 0, 0), (24, .if_icmp .eq 26, 0, 50, 0, 0), (27, .goto 17, 0, 44, 0, 0), (30, .aload_n 0, 0, 0, 0, 0), (31, .getfield 135, 0, 11, 14, 0), (34, .bipush 20, 3, 20, 0, 0), (36, .bipush 22, 3, 22, 0, 0), (38, .invokestatic 53, 1, 144, 3, 99), (41, .ifCond .ne 9, 0, 50, 0, 0), (44, .aload_n 0, 0, 0, 0, 0), (45, .iconst 1, 3, 1, 0, 0), (46, .invokevirtual 156, 1, 165, 1, 11), (49, .ireturn, 0, 1, 0, 0), (50, .aload_n 0, 0, 0, 0, 0), (51, .getfield 197, 0, 11, 10, 0), (54, .bipush 12, 3, 12, 0, 0), (56, .if_icmp .ne 9, 0, 65, 0, 0), (59, .aload_n 0, 0, 0, 0, 0), (60, .iconst 3, 3, 3, 0, 0), (61, .invokevirtual 156, 1, 165, 1, 11), (64, .ireturn, 0, 1, 0, 0), (65, .aload_n 0, 0, 0, 0, 0), (66, .iconst 0, 3, 0, 0, 0), (67, .putfield 165, 0, 11, 20, 0), (70, .aload_n 0, 0, 0, 0, 0), (71, .getfield 19, 0, 11, 4, 2), (74, .iconst 4, 3, 4, 0, 0), (75, .aload_n 0, 0, 0, 0, 0), (76, .getfield 197, 0, 11, 10, 0), (79, .imul, 0, 0, 0, 0), (80, .aload_n 0, 0, 0, 0, 0), (81, .getfield 135, 0, 11, 14, 0), (84, .bipush 20, 3, 20, 0, 0), (86, .isub, 0, 0, 0, 0), (87, .iastore, 0, 0, 0, 0), (88, .aload_n 0, 0, 0, 0, 0), (89, .getfield 19, 0, 11, 4, 2), (92, .iconst 4, 3, 4, 0, 0), (93, .aload_n 0, 0, 0, 0, 0), (94, .getfield 197, 0, 11, 10, 0), (97, .imul, 0, 0, 0, 0), (98, .iconst 1, 3, 1, 0, 0), (99, .iadd, 0, 0, 0, 0), (100, .aload_n 0, 0, 0, 0, 0), (101, .getfield 162, 0, 11, 11, 0), (104, .iastore, 0, 0, 0, 0), (105, .aload_n 0, 0, 0, 0, 0), (106, .invokevirtual 159, 1, 164, 0, 11), (109, .iload_n 1, 0, 0, 0, 0), (110, .ifCond .ne 12, 0, 122, 0, 0), (113, .aload_n 0, 0, 0, 0, 0), (114, .invokevirtual 194, 1, 169, 0, 11), (117, .ifCond .ne 5, 0, 122, 0, 0), (120, .iconst 0, 3, 0, 0, 0), (121, .ireturn, 0, 1, 0, 0), (122, .aload_n 0, 0, 0, 0, 0), (123, .getfield 19, 0, 11, 4, 2), (126, .iconst 4, 3, 4, 0, 0), (127, .aload_n 0, 0, 0, 0, 0), (128, .getfield 197, 0, 11, 10, 0), (131, .imul, 0, 0, 0, 0), (132, .iconst 2, 3, 2, 0, 0), (133, .iadd, 0, 0, 0, 0), (134, .aload_n 0, 0, 0, 0, 0), (135, .getfield 162, 0, 11, 11, 0), (138, .iastore, 0, 0, 0, 0), (139, .iload_n 1, 0, 0, 0, 0), (140, .ifCond .ne 11, 0, 151, 0, 0), (143, .aload_n 0, 0, 0, 0, 0), (144, .getfield 135, 0, 11, 14, 0), (147, .iconst 3, 3, 3, 0, 0), (148, .if_icmp .ne 20, 0, 168, 0, 0), (151, .aload_n 0, 0, 0, 0, 0), (152, .iconst 3, 3, 3, 0, 0), (153, .invokevirtual 191, 1, 166, 1, 11), (156, .ifCond .eq 10, 0, 166, 0, 0), (159, .aload_n 0, 0, 0, 0, 0), (160, .invokevirtual 188, 1, 172, 0, 11), (163, .ifCond .ne 5, 0, 168, 0, 0), (166, .iconst 0, 3, 0, 0, 0), (167, .ireturn, 0, 1, 0, 0), (168, .aload_n 0, 0, 0, 0, 0), (169, .getfield 19, 0, 11, 4, 2), (172, .iconst 4, 3, 4, 0, 0), (173, .aload_n 0, 0, 0, 0, 0), (174, .getfield 197, 0, 11, 10, 0), (177, .imul, 0, 0, 0, 0), (178, .iconst 3, 3, 3, 0, 0), (179, .iadd, 0, 0, 0, 0), (180, .aload_n 0, 0, 0, 0, 0), (181, .getfield 162, 0, 11, 11, 0), (184, .iastore, 0, 0, 0, 0), (185, .aload_n 0, 0, 0, 0, 0), (186, .sipush 159, 3, 159, 0, 0), (189, .invokevirtual 191, 1, 166, 1, 11), (192, .ireturn, 0, 1, 0, 0)]
set_option maxRecDepth 100000 in
def am_c176 : List am_I := [(0, .aload_n 0, 0, 0, 0, 0), (1, .iconst 0, 3, 0, 0, 0), (2, .putfield 150, 0, 11, 17, 0), (5, .iload_n 1, 0, 0, 0, 0), (6, .iconst 0, 3, 0, 0, 0), (7, .iconst 4, 3, 4, 0, 0), (8, .invokestatic 53, 1, 144, 3, 99), (11, .ifCond .ne 20, 0, 31, 0, 0), (14, .aload_n 0, 0, 0, 0, 0), (15, .iconst 0, 3, 0, 0, 0), (16, .putfield 61, 0, 11, 12, 0), (19, .aload_n 0, 0, 0, 0, 0), (20, .iconst 0, 3, 0, 0, 0), (21, .putfield 200, 0, 11, 19, 0), (24, .aload_n 0, 0, 0, 0, 0), (25, .iconst (-1), 3, 1, 1, 0), (26, .putfield 34, 0, 11, 21, 0), (29, .iconst (-1), 3, 1, 1, 0), (30, .ireturn, 0, 0, 0, 0), (31, .aload_n 0, 0, 0, 0, 0), (32, .iload_n 1, 0, 0, 0, 0), (33, .putfield 122, 0, 11, 9, 0), (36, .aload_n 0, 0, 0, 0, 0), (37, .iconst 0, 3, 0, 0, 0), (38, .putfield 64, 0, 11, 13, 0), (41, .aload_n 0, 0, 0, 0, 0), (42, .iconst 0, 3, 0, 0, 0), (43, .putfield 197, 0, 11, 10, 0), (46, .aload_n 0, 0, 0, 0, 0), (47, .iconst 0, 3, 0, 0, 0), (48, .putfield 162, 0, 11, 11, 0), (51, .aload_n 0, 0, 0, 0, 0), (52, .invokevirtual 159, 1, 164, 0, 11), (55, .iconst 1, 3, 1, 0, 0), (56, .istore_n 2, 0, 0, 0, 0), (57, .iload_n 2, 0, 0, 0, 0), (58, .ifCond .eq 36, 0, 94, 0, 0), (61, .aload_n 0, 0, 0, 0, 0), (62, .getfield 135, 0, 11, 14, 0), (65, .ifCond .eq 29, 0, 94, 0, 0), (68, .aload_n 0, 0, 0, 0, 0), (69, .invokevirtual 203, 1, 175, 0, 11), (72, .istore_n 2, 0, 0, 0, 0), (73, .aload_n 0, 0, 0, 0, 0), (74, .dup, 0, 0, 0, 0), (75, .getfield 197, 0, 11, 10, 0), (78, .iload_n 2, 0, 0, 0, 0), (79, .ifCond .eq 7, 0, 86, 0, 0), (82, .iconst 1, 3, 1, 0, 0), (83, .goto 4, 0, 87, 0, 0), (86, .iconst 0, 3, 0, 0, 0), (87, .iadd, 0, 0, 0, 0), (88, .putfield 197, 0, 11, 10, 0), (91, .goto (-34), 0, 57, 0, 0), (94, .aload_n 0, 0, 0, 0, 0), (95, .iconst 0, 3, 0, 0, 0), (96, .putfield 61, 0, 11, 12, 0), (99, .aload_n 0, 0, 0, 0, 0), (100, .aload_n 0, 0, 0, 0, 0), (101, .getfield 150, 0, 11, 17, 0), (104, .putfield 200, 0, 11, 19, 0), (107, .aload_n 0, 0, 0, 0, 0), (108, .iload_n 2, 0, 0, 0, 0), (109, .ifCond .eq 7, 0, 116, 0, 0), (112, .iconst (-1), 3, 1, 1, 0), (113, .goto 7, 0, 120, 0, 0), (116, .aload_n 0, 0, 0, 0, 0), (117, .getfield 153, 0, 11, 18, 0), (120, .putfield 34, 0, 11, 21, 0), (123, .iload_n 2, 0, 0, 0, 0), (124, .ifCond .ne 5, 0, 129, 0, 0), (127, .iconst (-1), 3, 1, 1, 0), (128, .ireturn, 0, 0, 0, 0), (129, .aload_n 0, 0, 0, 0, 0), (130, .getfield 7, 0, 11, 0, 2), (133, .sipush 5460, 3, 5460, 0, 0), (136, .iload_n 1, 0, 0, 0, 0), (137, .iadd, 0, 0, 0, 0), (138, .aload_n 0, 0, 0, 0, 0), (139, .getfield 197, 0, 11, 10, 0), (142, .iastore, 0, 0, 0, 0), (143, .iconst 0, 3, 0, 0, 0), (144, .istore_n 3, 0, 0, 0, 0), (145, .iload_n 3, 0, 0, 0, 0), (146, .aload_n 0, 0, 0, 0, 0), (147, .getfield 197, 0, 11, 10, 0), (150, .if_icmp .ge 107, 0, 257, 0, 0), (153, .aload_n 0, 0, 0, 0, 0), (154, .getfield 7, 0, 11, 0, 2), (157, .sipush 5470, 3, 5470, 0, 0), (160, .bipush 12, 3, 12, 0, 0), (162, .iload_n 1, 0, 0, 0, 0), (163, .imul, 0, 0, 0, 0), (164, .iadd, 0, 0, 0, 0), (165, .iload_n 3, 0, 0, 0, 0), (166, .iadd, 0, 0, 0, 0), (167, .aload_n 0, 0, 0, 0, 0), (168, .getfield 19, 0, 11, 4, 2), (171, .iconst 4, 3, 4, 0, 0), (172, .iload_n 3, 0, 0, 0, 0), (173, .imul, 0, 0, 0, 0), (174, .iaload, 0, 0, 0, 0), (175, .iastore, 0, 0, 0, 0), (176, .aload_n 0, 0, 0, 0, 0), (177, .getfield 7, 0, 11, 0, 2), (180, .sipush 5530, 3, 5530, 0, 0), (183, .bipush 12, 3, 12, 0, 0), (185, .iload_n 1, 0, 0, 0, 0), (186, .imul, 0, 0, 0, 0), (187, .iadd, 0, 0, 0, 0), (188, .iload_n 3, 0, 0, 0, 0), (189, .iadd, 0, 0, 0, 0), (190, .aload_n 0, 0, 0, 0, 0), (191, .getfield 19, 0, 11, 4, 2), (194, .iconst 4, 3, 4, 0, 0), (195, .iload_n 3, 0, 0, 0, 0), (196, .imul, 0, 0, 0, 0), (197, .iconst 1, 3, 1, 0, 0), (198, .iadd, 0, 0, 0, 0), (199, .iaload, 0, 0, 0, 0), (200, .iastore, 0, 0, 0, 0), (201, .aload_n 0, 0, 0, 0, 0), (202, .getfield 7, 0, 11, 0, 2), (205, .sipush 5590, 3, 5590, 0, 0), (208, .bipush 12, 3, 12, 0, 0), (210, .iload_n 1, 0, 0, 0, 0), (211, .imul, 0, 0, 0, 0), (212, .iadd, 0, 0, 0, 0), (213, .iload_n 3, 0, 0, 0, 0), (214, .iadd, 0, 0, 0, 0), (215, .aload_n 0, 0, 0, 0, 0), (216, .getfield 19, 0, 11, 4, 2), (219, .iconst 4, 3, 4, 0, 0), (220, .iload_n 3, 0, 0, 0, 0), (221, .imul, 0, 0, 0, 0), (222, .iconst 2, 3, 2, 0, 0), (223, .iadd, 0, 0, 0, 0), (224, .iaload, 0, 0, 0, 0), (225, .iastore, 0, 0, 0, 0), (226, .aload_n 0, 0, 0, 0, 0), (227, .getfield 7, 0, 11, 0, 2), (230, .sipush 5650, 3, 5650, 0, 0), (233, .bipush 12, 3, 12, 0, 0), (235, .iload_n 1, 0, 0, 0, 0), (236, .imul, 0, 0, 0, 0), (237, .iadd, 0, 0, 0, 0), (238, .iload_n 3, 0, 0, 0, 0), (239, .iadd, 0, 0, 0, 0), (240, .aload_n 0, 0, 0, 0, 0), (241, .getfield 19, 0, 11, 4, 2), (244, .iconst 4, 3, 4, 0, 0), (245, .iload_n 3, 0, 0, 0, 0), (246, .imul, 0, 0, 0, 0), (247, .iconst 3, 3, 3, 0, 0), (248, .iadd, 0, 0, 0, 0), (249, .iaload, 0, 0, 0, 0), (250, .iastore, 0, 0, 0, 0), (251, .iinc 3 1, 3, 1, 0, 0), (254, .goto (-109), 0, 145, 0, 0), (257, .iconst 0, 3, 0, 0, 0), (258, .istore_n 3, 0, 0, 0, 0), (259, .iload_n 3, 0, 0, 0, 0), (260, .iconst 2, 3, 2, 0, 0), (261, .aload_n 0, 0, 0, 0, 0), (262, .getfield 162, 0, 11, 11, 0), (265, .imul, 0, 0, 0, 0), (266, .if_icmp .ge 31, 0, 297, 0, 0), (269, .aload_n 0, 0, 0, 0, 0), (270, .getfield 7, 0, 11, 0, 2), (273, .sipush 5710, 3, 5710, 0, 0), (276, .sipush 820, 3, 820, 0, 0), (279, .iload_n 1, 0, 0, 0, 0), (280, .imul, 0, 0, 0, 0), (281, .iadd, 0, 0, 0, 0), (282, .iload_n 3, 0, 0, 0, 0), (283, .iadd, 0, 0, 0, 0), (284, .aload_n 0, 0, 0, 0, 0), (285, .getfield 22, 0, 11, 5, 2), (288, .iload_n 3, 0, 0, 0, 0), (289, .iaload, 0, 0, 0, 0), (290, .iastore, 0, 0, 0, 0), (291, .iinc 3 1, 3, 1, 0, 0), (294, .goto (-35), 0, 259, 0, 0), (297, .aload_n 0, 0, 0, 0, 0), (298, .getfield 197, 0, 11, 10, 0), (301, .ireturn, 0, 0, 0, 0)]
set_option maxRecDepth 100000 in
def am_c177 : List am_I := [(0, .iload_n 1, 0, 0, 0, 0), (1, .ifCond .ne 10, 0, 11, 0, 0), (4, .aload_n 0, 0, 0, 0, 0), (5, .getfield 200, 0, 11, 19, 0), (8, .goto 16, 0, 24, 0, 0), (11, .iload_n 1, 0, 0, 0, 0), (12, .iconst 1, 3, 1, 0, 0), (13, .if_icmp .ne 10, 0, 23, 0, 0), (16, .aload_n 0, 0, 0, 0, 0), (17, .getfield 34, 0, 11, 21, 0), (20, .goto 4, 0, 24, 0, 0), (23, .iconst (-1), 3, 1, 1, 0), (24, .ireturn, 0, 0, 0, 0)]
set_option maxRecDepth 100000 in
def am_c178 : List am_I := [(0, .iload_n 0, 0, 0, 0, 0), (1, .tableswitch 100 12 20 #[51, 55, 59, 100, 63, 74, 85, 100, 96], 0, 0, 0, 0), (52, .iload_n 1, 0, 0, 0, 0), (53, .iload_n 2, 0, 0, 0, 0), (54, .iadd, 0, 0, 0, 0), (55, .ireturn, 0, 0, 0, 0), (56, .iload_n 1, 0, 0, 0, 0), (57, .iload_n 2, 0, 0, 0, 0), (58, .isub, 0, 0, 0, 0), (59, .ireturn, 0, 0, 0, 0), (60, .iload_n 1, 0, 0, 0, 0), (61, .iload_n 2, 0, 0, 0, 0), (62, .imul, 0, 0, 0, 0), (63, .ireturn, 0, 0, 0, 0), (64, .iload_n 1, 0, 0, 0, 0), (65, .iload_n 2, 0, 0, 0, 0), (66, .if_icmp .ge 7, 0, 73, 0, 0), (69, .iconst 1, 3, 1, 0, 0), (70, .goto 4, 0, 74, 0, 0), (73, .iconst 0, 3, 0, 0, 0), (74, .ireturn, 0, 0, 0, 0), (75, .iload_n 1, 0, 0, 0, 0), (76, .iload_n 2, 0, 0, 0, 0), (77, .if_icmp .ne 7, 0, 84, 0, 0), (80, .iconst 1, 3, 1, 0, 0), (81, .goto 4, 0, 85, 0, 0), (84, .iconst 0, 3, 0, 0, 0), (85, .ireturn, 0, 0, 0, 0), (86, .iload_n 1, 0, 0, 0, 0), (87, .iload_n 2, 0, 0, 0, 0), (88, .if_icmp .le 7, 0, 95, 0, 0), (91, .iconst 1, 3, 1, 0, 0), (92, .goto 4, 0, 96, 0, 0), (95, .iconst 0, 3, 0, 0, 0), (96, .ireturn, 0, 0, 0, 0), (97, .iload_n 1, 0, 0, 0, 0), (98, .iload_n 2, 0, 0, 0, 0), (99, .iand, 0, 0, 0, 0), (100, .ireturn, 0, 0, 0, 0), (101, .iload_n 1, 0, 0, 0, 0), (102, .iload_n 2, 0, 0, 0, 0), (103, .ior, 0, 0, 0, 0), (104, .ireturn, 0, 0, 0, 0)]
set_option maxRecDepth 100000 in
def am_c179 : List am_I := [(0, .iconst 0, 3, 0, 0, 0), (1, .istore 4, 0, 0, 0, 0), (3, .iload_n 2, 0, 0, 0, 0), (4, .istore 5, 0, 0, 0, 0), (6, .iload 5, 0, 0, 0, 0), (8, .iload_n 3, 0, 0, 0, 0), (9, .if_icmp .ge 177, 0, 186, 0, 0), (12, .aload_n 0, 0, 0, 0, 0), (13, .getfield 7, 0, 11, 0, 2), (16, .sipush 5710, 3, 5710, 0, 0), (19, .sipush 820, 3, 820, 0, 0), (22, .iload_n 1, 0, 0, 0, 0), (23, .imul, 0, 0, 0, 0), (24, .iadd, 0, 0, 0, 0), (25, .iconst 2, 3, 2, 0, 0), (26, .iload 5, 0, 0, 0, 0), (28, .imul, 0, 0, 0, 0), (29, .iadd, 0, 0, 0, 0), (30, .iaload, 0, 0, 0, 0), (31, .istore 6, 0, 0, 0, 0), (33, .aload_n 0, 0, 0, 0, 0), (34, .getfield 7, 0, 11, 0, 2), (37, .sipush 5710, 3, 5710, 0, 0), (40, .sipush 820, 3, 820, 0, 0), (43, .iload_n 1, 0, 0, 0, 0), (44, .imul, 0, 0, 0, 0), (45, .iadd, 0, 0, 0, 0), (46, .iconst 2, 3, 2, 0, 0), (47, .iload 5, 0, 0, 0, 0), (49, .imul, 0, 0, 0, 0), (50, .iadd, 0, 0, 0, 0), (51, .iconst 1, 3, 1, 0, 0), (52, .iadd, 0, 0, 0, 0), (53, .iaload, 0, 0, 0, 0), (54, .istore 7, 0, 0, 0, 0), (56, .iload 6, 0, 0, 0, 0), (58, .bipush 12, 3, 12, 0, 0), (60, .if_icmp .ge 33, 0, 93, 0, 0), (63, .aload_n 0, 0, 0, 0, 0), (64, .getfield 28, 0, 11, 7, 2), (67, .iload 4, 0, 0, 0, 0), (69, .iload 6, 0, 0, 0, 0), (71, .ifCond .ne 8, 0, 79, 0, 0), (74, .iload 7, 0, 0, 0, 0), (76, .goto 10, 0, 86, 0, 0), (79, .aload_n 0, 0, 0, 0, 0), (80, .getfield 31, 0, 11, 8, 2), (83, .iload 6, 0, 0, 0, 0), (85, .iaload, 0, 0, 0, 0), (86, .iastore, 0, 0, 0, 0), (87, .iinc 4 1, 3, 1, 0, 0), (90, .goto 90, 0, 180, 0, 0), (93, .iload 6, 0, 0, 0, 0), (95, .bipush 15, 3, 15, 0, 0), (97, .if_icmp .ne 20, 0, 117, 0, 0), (100, .aload_n 0, 0, 0, 0, 0), (101, .getfield 28, 0, 11, 7, 2), (104, .iload 4, 0, 0, 0, 0), (106, .iconst 1, 3, 1, 0, 0), (107, .isub, 0, 0, 0, 0), (108, .dup2, 0, 0, 0, 0), (109, .iaload, 0, 0, 0, 0), (110, .iload 7, 0, 0, 0, 0), (112, .idiv, 0, 0, 0, 0), (113, .iastore, 0, 0, 0, 0), (114, .goto 66, 0, 180, 0, 0), (117, .iload 6, 0, 0, 0, 0), (119, .bipush 19, 3, 19, 0, 0), (121, .if_icmp .ne 26, 0, 147, 0, 0), (124, .aload_n 0, 0, 0, 0, 0), (125, .getfield 28, 0, 11, 7, 2), (128, .iload 4, 0, 0, 0, 0), (130, .iconst 1, 3, 1, 0, 0), (131, .isub, 0, 0, 0, 0), (132, .iconst 1, 3, 1, 0, 0), (133, .aload_n 0, 0, 0, 0, 0), (134, .getfield 28, 0, 11, 7, 2), (137, .iload 4, 0, 0, 0, 0), (139, .iconst 1, 3, 1, 0, 0), (140, .isub, 0, 0, 0, 0), (141, .iaload, 0, 0, 0, 0), (142, .isub, 0, 0, 0, 0), (143, .iastore, 0, 0, 0, 0), (144, .goto 36, 0, 180, 0, 0), (147, .iinc 4 (-1), 3, 1, 1, 0), (150, .aload_n 0, 0, 0, 0, 0), (151, .getfield 28, 0, 11, 7, 2), (154, .iload 4, 0, 0, 0, 0), (156, .iconst 1, 3, 1, 0, 0), (157, .isub, 0, 0, 0, 0), (158, .iload 6, 0, 0, 0, 0), (160, .aload_n 0, 0, 0, 0, 0), (161, .getfield 28, 0, 11, 7, 2), (164, .iload 4, 0, 0, 0, 0), (166, .iconst 1, 3, 1, 0, 0), (167, .isub, 0, 0, 0, 0), (168, .iaload, 0, 0, 0, 0), (169, .aload_n 0, 0, 0, 0, 0), (170, .getfield 28, 0, 11, 7, 2), (173, .iload 4, 0, 0, 0, 0), (175, .iaload, 0, 0, 0, 0), (176, .invokestatic 206, 1, 178, 3, 99), (179, .iastore, 0, 0, 0, 0), (180, .iinc 5 1, 3, 1, 0, 0), (183, .goto (-177), 0, 6, 0, 0), (186, .aload_n 0, 0, 0, 0, 0), (187, .getfield 28, 0, 11, 7, 2), (190, .iconst 0, 3, 0, 0, 0), (191, .iaload, 0, 0, 0, 0), (192, .ireturn, 0, 0, 0, 0)]
set_option maxRecDepth 100000 in
def am_c180 : List am_I := [(0, .iload_n 2, 0, 0, 0, 0), (1, .ifCond .ne 8, 0, 9, 0, 0), (4, .bipush 20, 3, 20, 0, 0), (6, .goto 16, 0, 22, 0, 0), (9, .iload_n 2, 0, 0, 0, 0), (10, .iconst 1, 3, 1, 0, 0), (11, .if_icmp .ne 8, 0, 19, 0, 0), (14, .ldc 210, 3, 999999, 0, 0), (16, .goto 6, 0, 22, 0, 0), (19, .sipush 9999, 3, 9999, 0, 0), (22, .istore_n 3, 0, 0, 0, 0), (23, .iconst 0, 3, 0, 0, 0), (24, .istore 4, 0, 0, 0, 0), (26, .iload 4, 0, 0, 0, 0), (28, .aload_n 0, 0, 0, 0, 0), (29, .getfield 7, 0, 11, 0, 2), (32, .sipush 5460, 3, 5460, 0, 0), (35, .iload_n 1, 0, 0, 0, 0), (36, .iadd, 0, 0, 0, 0), (37, .iaload, 0, 0, 0, 0), (38, .if_icmp .ge 146, 0, 184, 0, 0), (41, .bipush 12, 3, 12, 0, 0), (43, .iload_n 1, 0, 0, 0, 0), (44, .imul, 0, 0, 0, 0), (45, .iload 4, 0, 0, 0, 0), (47, .iadd, 0, 0, 0, 0), (48, .istore 5, 0, 0, 0, 0), (50, .aload_n 0, 0, 0, 0, 0), (51, .getfield 7, 0, 11, 0, 2), (54, .sipush 5470, 3, 5470, 0, 0), (57, .iload 5, 0, 0, 0, 0), (59, .iadd, 0, 0, 0, 0), (60, .iaload, 0, 0, 0, 0), (61, .iload_n 2, 0, 0, 0, 0), (62, .if_icmp .eq 6, 0, 68, 0, 0), (65, .goto 113, 0, 178, 0, 0), (68, .aload_n 0, 0, 0, 0, 0), (69, .getfield 7, 0, 11, 0, 2), (72, .sipush 5650, 3, 5650, 0, 0), (75, .iload 5, 0, 0, 0, 0), (77, .iadd, 0, 0, 0, 0), (78, .iaload, 0, 0, 0, 0), (79, .aload_n 0, 0, 0, 0, 0), (80, .getfield 7, 0, 11, 0, 2), (83, .sipush 5590, 3, 5590, 0, 0), (86, .iload 5, 0, 0, 0, 0), (88, .iadd, 0, 0, 0, 0), (89, .iaload, 0, 0, 0, 0), (90, .if_icmp .le 37, 0, 127, 0, 0), (93, .aload_n 0, 0, 0, 0, 0), (94, .iload_n 1, 0, 0, 0, 0), (95, .aload_n 0, 0, 0, 0, 0), (96, .getfield 7, 0, 11, 0, 2), (99, .sipush 5590, 3, 5590, 0, 0), (102, .iload 5, 0, 0, 0, 0), (104, .iadd, 0, 0, 0, 0), (105, .iaload, 0, 0, 0, 0), (106, .aload_n 0, 0, 0, 0, 0), (107, .getfield 7, 0, 11, 0, 2), (110, .sipush 5650, 3, 5650, 0, 0), (113, .iload 5, 0, 0, 0, 0), (115, .iadd, 0, 0, 0, 0), (116, .iaload, 0, 0, 0, 0), (117, .invokevirtual 211, 1, 179, 3, 11), (120, .iconst 1, 3, 1, 0, 0), (121, .if_icmp .eq 6, 0, 127, 0, 0), (124, .goto 54, 0, 178, 0, 0), (127, .aload_n 0, 0, 0, 0, 0), (128, .iload_n 1, 0, 0, 0, 0), (129, .aload_n 0, 0, 0, 0, 0), (130, .getfield 7, 0, 11, 0, 2), (133, .sipush 5530, 3, 5530, 0, 0), (136, .iload 5, 0, 0, 0, 0), (138, .iadd, 0, 0, 0, 0), (139, .iaload, 0, 0, 0, 0), (140, .aload_n 0, 0, 0, 0, 0), (141, .getfield 7, 0, 11, 0, 2), (144, .sipush 5590, 3, 5590, 0, 0), (147, .iload 5, 0, 0, 0, 0), (149, .iadd, 0, 0, 0, 0), (150, .iaload, 0, 0, 0, 0), (151, .invokevirtual 211, 1, 179, 3, 11), (154, .istore 6, 0, 0, 0, 0), (156, .iload 6, 0, 0, 0, 0), (158, .ifCond .ge 7, 0, 165, 0, 0), (161, .iconst 0, 3, 0, 0, 0), (162, .goto 15, 0, 177, 0, 0), (165, .iload 6, 0, 0, 0, 0), (167, .iload_n 3, 0, 0, 0, 0), (168, .if_icmp .le 7, 0, 175, 0, 0), (171, .iload_n 3, 0, 0, 0, 0), (172, .goto 5, 0, 177, 0, 0), (175, .iload 6, 0, 0, 0, 0), (177, .ireturn, 0, 0, 0, 0), (178, .iinc 4 1, 3, 1, 0, 0), (181, .goto (-155), 0, 26, 0, 0), (184, .iconst 0, 3, 0, 0, 0), (185, .ireturn, 0, 0, 0, 0)]
set_option maxRecDepth 100000 in
def am_c181 : List am_I := [(0, .aload_n 0, 0, 0, 0, 0), (1, .getfield 7, 0, 11, 0, 2), (4, .sipush 3640, 3, 3640, 0, 0), (7, .bipush 12, 3, 12, 0, 0), (9, .iload_n 1, 0, 0, 0, 0), (10, .imul, 0, 0, 0, 0), (11, .iadd, 0, 0, 0, 0), (12, .iload_n 2, 0, 0, 0, 0), (13, .iadd, 0, 0, 0, 0), (14, .iaload, 0, 0, 0, 0), (15, .ireturn, 0, 0, 0, 0)]
set_option maxRecDepth 100000 in
def am_c182 : List am_I := [(0, .iconst 0, 3, 0, 0, 0), (1, .istore_n 3, 0, 0, 0, 0), (2, .iconst 0, 3, 0, 0, 0), (3, .istore 4, 0, 0, 0, 0), (5, .iload 4, 0, 0, 0, 0), (7, .aload_n 0, 0, 0, 0, 0), (8, .getfield 7, 0, 11, 0, 2), (11, .iconst 1, 3, 1, 0, 0), (12, .iaload, 0, 0, 0, 0), (13, .if_icmp .ge 58, 0, 71, 0, 0), (16, .iload_n 3, 0, 0, 0, 0), (17, .aload_n 0, 0, 0, 0, 0), (18, .iload 4, 0, 0, 0, 0), (20, .iconst 2, 3, 2, 0, 0), (21, .invokevirtual 214, 1, 181, 2, 11), (24, .iload_n 1, 0, 0, 0, 0), (25, .if_icmp .ne 37, 0, 62, 0, 0), (28, .aload_n 0, 0, 0, 0, 0), (29, .iload 4, 0, 0, 0, 0), (31, .iconst 3, 3, 3, 0, 0), (32, .invokevirtual 214, 1, 181, 2, 11), (35, .iload_n 2, 0, 0, 0, 0), (36, .if_icmp .ne 26, 0, 62, 0, 0), (39, .aload_n 0, 0, 0, 0, 0), (40, .iload 4, 0, 0, 0, 0), (42, .iconst 5, 3, 5, 0, 0), (43, .invokevirtual 214, 1, 181, 2, 11), (46, .aload_n 0, 0, 0, 0, 0), (47, .getfield 7, 0, 11, 0, 2), (50, .iconst 0, 3, 0, 0, 0), (51, .iaload, 0, 0, 0, 0), (52, .bipush 7, 3, 7, 0, 0), (54, .isub, 0, 0, 0, 0), (55, .if_icmp .le 7, 0, 62, 0, 0), (58, .iconst 1, 3, 1, 0, 0), (59, .goto 4, 0, 63, 0, 0), (62, .iconst 0, 3, 0, 0, 0), (63, .iadd, 0, 0, 0, 0), (64, .istore_n 3, 0, 0, 0, 0), (65, .iinc 4 1, 3, 1, 0, 0), (68, .goto (-63), 0, 5, 0, 0), (71, .iload_n 3, 0, 0, 0, 0), (72, .ireturn, 0, 0, 0, 0)]
set_option maxRecDepth 100000 in
def am_c183 : List am_I := [(0, .aload_n 0, 0, 0, 0, 0), (1, .getfield 31, 0, 11, 8, 2), (4, .iconst 1, 3, 1, 0, 0), (5, .iload_n 3, 0, 0, 0, 0), (6, .iastore, 0, 0, 0, 0), (7, .aload_n 0, 0, 0, 0, 0), (8, .getfield 31, 0, 11, 8, 2), (11, .iconst 3, 3, 3, 0, 0), (12, .iload 4, 0, 0, 0, 0), (14, .iastore, 0, 0, 0, 0), (15, .aload_n 0, 0, 0, 0, 0), (16, .getfield 31, 0, 11, 8, 2), (19, .iconst 2, 3, 2, 0, 0), (20, .iload 5, 0, 0, 0, 0), (22, .ifCond .eq 7, 0, 29, 0, 0), (25, .iconst 1, 3, 1, 0, 0), (26, .goto 4, 0, 30, 0, 0), (29, .iconst 0, 3, 0, 0, 0), (30, .iastore, 0, 0, 0, 0), (31, .aload_n 0, 0, 0, 0, 0), (32, .getfield 31, 0, 11, 8, 2), (35, .iconst 4, 3, 4, 0, 0), (36, .iload_n 1, 0, 0, 0, 0), (37, .iastore, 0, 0, 0, 0), (38, .aload_n 0, 0, 0, 0, 0), (39, .getfield 31, 0, 11, 8, 2), (42, .iconst 5, 3, 5, 0, 0), (43, .iload 6, 0, 0, 0, 0), (45, .bipush 7, 3, 7, 0, 0), (47, .irem, 0, 0, 0, 0), (48, .iastore, 0, 0, 0, 0), (49, .aload_n 0, 0, 0, 0, 0), (50, .getfield 31, 0, 11, 8, 2), (53, .bipush 6, 3, 6, 0, 0), (55, .aload_n 0, 0, 0, 0, 0), (56, .getfield 7, 0, 11, 0, 2), (59, .sipush 210, 3, 210, 0, 0), (62, .iconst 4, 3, 4, 0, 0), (63, .iload_n 1, 0, 0, 0, 0), (64, .imul, 0, 0, 0, 0), (65, .iadd, 0, 0, 0, 0), (66, .iload_n 2, 0, 0, 0, 0), (67, .iadd, 0, 0, 0, 0), (68, .iaload, 0, 0, 0, 0), (69, .iastore, 0, 0, 0, 0), (70, .aload_n 0, 0, 0, 0, 0), (71, .getfield 31, 0, 11, 8, 2), (74, .bipush 7, 3, 7, 0, 0), (76, .aload_n 0, 0, 0, 0, 0), (77, .iload_n 1, 0, 0, 0, 0), (78, .iload_n 2, 0, 0, 0, 0), (79, .invokevirtual 218, 1, 182, 2, 11), (82, .iastore, 0, 0, 0, 0), (83, .return_, 0, 0, 0, 0)]
set_option maxRecDepth 100000 in
def am_c184 : List am_I := [(0, .aload_n 0, 0, 0, 0, 0), (1, .getfield 7, 0, 11, 0, 2), (4, .bipush 10, 3, 10, 0, 0), (6, .iload_n 1, 0, 0, 0, 0), (7, .iadd, 0, 0, 0, 0), (8, .iaload, 0, 0, 0, 0), (9, .aload_n 0, 0, 0, 0, 0), (10, .getfield 7, 0, 11, 0, 2), (13, .bipush 10, 3, 10, 0, 0), (15, .iload_n 2, 0, 0, 0, 0), (16, .iadd, 0, 0, 0, 0), (17, .iaload, 0, 0, 0, 0), (18, .if_icmp .eq 7, 0, 25, 0, 0), (21, .iconst 1, 3, 1, 0, 0), (22, .goto 4, 0, 26, 0, 0), (25, .iconst 0, 3, 0, 0, 0), (26, .ireturn, 0, 1, 0, 0)]
set_option maxRecDepth 100000 in
def am_c185 : List am_I := [(0, .aload_n 0, 0, 0, 0, 0), (1, .iload_n 2, 0, 0, 0, 0), (2, .iload_n 3, 0, 0, 0, 0), (3, .aload_n 0, 0, 0, 0, 0), (4, .iload_n 1, 0, 0, 0, 0), (5, .iconst 4, 3, 4, 0, 0), (6, .invokevirtual 214, 1, 181, 2, 11), (9, .aload_n 0, 0, 0, 0, 0), (10, .aload_n 0, 0, 0, 0, 0), (11, .iload_n 1, 0, 0, 0, 0), (12, .iconst 3, 3, 3, 0, 0), (13, .invokevirtual 214, 1, 181, 2, 11), (16, .aload_n 0, 0, 0, 0, 0), (17, .iload_n 1, 0, 0, 0, 0), (18, .iconst 1, 3, 1, 0, 0), (19, .invokevirtual 214, 1, 181, 2, 11), (22, .invokevirtual 221, 1, 154, 2, 11), (25, .aload_n 0, 0, 0, 0, 0), (26, .aload_n 0, 0, 0, 0, 0), (27, .iload_n 1, 0, 0, 0, 0), (28, .iconst 3, 3, 3, 0, 0), (29, .invokevirtual 214, 1, 181, 2, 11), (32, .aload_n 0, 0, 0, 0, 0), (33, .iload_n 1, 0, 0, 0, 0), (34, .iconst 1, 3, 1, 0, 0), (35, .invokevirtual 214, 1, 181, 2, 11), (38, .invokevirtual 224, 1, 184, 2, 11), (41, .aload_n 0, 0, 0, 0, 0), (42, .getfield 7, 0, 11, 0, 2), (45, .iconst 0, 3, 0, 0, 0), (46, .iaload, 0, 0, 0, 0), (47, .invokevirtual 228, 1, 183, 6, 11), (50, .return_, 0, 0, 0, 0)]
set_option maxRecDepth 100000 in
def am_c186 : List am_I := [(0, .iconst 0, 3, 0, 0, 0), (1, .istore_n 3, 0, 0, 0, 0), (2, .iconst 0, 3, 0, 0, 0), (3, .istore 4, 0, 0, 0, 0), (5, .iload 4, 0, 0, 0, 0), (7, .aload_n 0, 0, 0, 0, 0), (8, .getfield 7, 0, 11, 0, 2), (11, .iconst 1, 3, 1, 0, 0), (12, .iaload, 0, 0, 0, 0), (13, .if_icmp .ge 82, 0, 95, 0, 0), (16, .iload_n 3, 0, 0, 0, 0), (17, .aload_n 0, 0, 0, 0, 0), (18, .iload 4, 0, 0, 0, 0), (20, .iconst 2, 3, 2, 0, 0), (21, .invokevirtual 214, 1, 181, 2, 11), (24, .iload_n 1, 0, 0, 0, 0), (25, .if_icmp .ne 61, 0, 86, 0, 0), (28, .aload_n 0, 0, 0, 0, 0), (29, .iload 4, 0, 0, 0, 0), (31, .iconst 3, 3, 3, 0, 0), (32, .invokevirtual 214, 1, 181, 2, 11), (35, .iload_n 2, 0, 0, 0, 0), (36, .if_icmp .ne 50, 0, 86, 0, 0), (39, .aload_n 0, 0, 0, 0, 0), (40, .iload 4, 0, 0, 0, 0), (42, .bipush 6, 3, 6, 0, 0), (44, .invokevirtual 214, 1, 181, 2, 11), (47, .iconst 3, 3, 3, 0, 0), (48, .if_icmp .eq 38, 0, 86, 0, 0), (51, .aload_n 0, 0, 0, 0, 0), (52, .getfield 7, 0, 11, 0, 2), (55, .iconst 0, 3, 0, 0, 0), (56, .iaload, 0, 0, 0, 0), (57, .aload_n 0, 0, 0, 0, 0), (58, .iload 4, 0, 0, 0, 0), (60, .iconst 5, 3, 5, 0, 0), (61, .invokevirtual 214, 1, 181, 2, 11), (64, .aload_n 0, 0, 0, 0, 0), (65, .iload 4, 0, 0, 0, 0), (67, .bipush 8, 3, 8, 0, 0), (69, .invokevirtual 214, 1, 181, 2, 11), (72, .iadd, 0, 0, 0, 0), (73, .if_icmp .ge 13, 0, 86, 0, 0), (76, .aload_n 0, 0, 0, 0, 0), (77, .iload 4, 0, 0, 0, 0), (79, .iconst 4, 3, 4, 0, 0), (80, .invokevirtual 214, 1, 181, 2, 11), (83, .goto 4, 0, 87, 0, 0), (86, .iconst 0, 3, 0, 0, 0), (87, .iadd, 0, 0, 0, 0), (88, .istore_n 3, 0, 0, 0, 0), (89, .iinc 4 1, 3, 1, 0, 0), (92, .goto (-87), 0, 5, 0, 0), (95, .iload_n 3, 0, 0, 0, 0), (96, .ireturn, 0, 0, 0, 0)]
set_option maxRecDepth 100000 in
def am_c187 : List am_I := [(0, .aload_n 0, 0, 0, 0, 0), (1, .getfield 7, 0, 11, 0, 2), (4, .sipush 210, 3, 210, 0, 0), (7, .iconst 4, 3, 4, 0, 0), (8, .iload_n 1, 0, 0, 0, 0), (9, .imul, 0, 0, 0, 0), (10, .iadd, 0, 0, 0, 0), (11, .iload_n 2, 0, 0, 0, 0), (12, .iadd, 0, 0, 0, 0), (13, .iaload, 0, 0, 0, 0), (14, .aload_n 0, 0, 0, 0, 0), (15, .iload_n 1, 0, 0, 0, 0), (16, .iload_n 2, 0, 0, 0, 0), (17, .invokevirtual 232, 1, 186, 2, 11), (20, .isub, 0, 0, 0, 0), (21, .ireturn, 0, 0, 0, 0)]
set_option maxRecDepth 100000 in
def am_c188 : List am_I := [(0, .iload 5, 0, 0, 0, 0), (2, .ifCond .ne 4, 0, 6, 0, 0), (5, .return_, 0, 0, 0, 0), (6, .aload_n 0, 0, 0, 0, 0), (7, .getfield 7, 0, 11, 0, 2), (10, .sipush 210, 3, 210, 0, 0), (13, .iconst 4, 3, 4, 0, 0), (14, .iload_n 1, 0, 0, 0, 0), (15, .imul, 0, 0, 0, 0), (16, .iadd, 0, 0, 0, 0), (17, .iload_n 2, 0, 0, 0, 0), (18, .iadd, 0, 0, 0, 0), (19, .dup2, 0, 0, 0, 0), (20, .iaload, 0, 0, 0, 0), (21, .iload 5, 0, 0, 0, 0), (23, .iadd, 0, 0, 0, 0), (24, .iastore, 0, 0, 0, 0), (25, .aload_n 0, 0, 0, 0, 0), (26, .getfield 7, 0, 11, 0, 2), (29, .sipush 9810, 3, 9810, 0, 0), (32, .iaload, 0, 0, 0, 0), (33, .sipush 900, 3, 900, 0, 0), (36, .if_icmp .ne 4, 0, 40, 0, 0), (39, .return_, 0, 0, 0, 0), (40, .sipush 9820, 3, 9820, 0, 0), (43, .bipush 7, 3, 7, 0, 0), (45, .aload_n 0, 0, 0, 0, 0), (46, .getfield 7, 0, 11, 0, 2), (49, .sipush 9810, 3, 9810, 0, 0), (52, .iaload, 0, 0, 0, 0), (53, .imul, 0, 0, 0, 0), (54, .iadd, 0, 0, 0, 0), (55, .istore 6, 0, 0, 0, 0), (57, .aload_n 0, 0, 0, 0, 0), (58, .getfield 7, 0, 11, 0, 2), (61, .iload 6, 0, 0, 0, 0), (63, .aload_n 0, 0, 0, 0, 0), (64, .getfield 7, 0, 11, 0, 2), (67, .iconst 0, 3, 0, 0, 0), (68, .iaload, 0, 0, 0, 0), (69, .iastore, 0, 0, 0, 0), (70, .aload_n 0, 0, 0, 0, 0), (71, .getfield 7, 0, 11, 0, 2), (74, .iload 6, 0, 0, 0, 0), (76, .iconst 1, 3, 1, 0, 0), (77, .iadd, 0, 0, 0, 0), (78, .iload_n 1, 0, 0, 0, 0), (79, .iastore, 0, 0, 0, 0), (80, .aload_n 0, 0, 0, 0, 0), (81, .getfield 7, 0, 11, 0, 2), (84, .iload 6, 0, 0, 0, 0), (86, .iconst 2, 3, 2, 0, 0), (87, .iadd, 0, 0, 0, 0), (88, .iload_n 2, 0, 0, 0, 0), (89, .iastore, 0, 0, 0, 0), (90, .aload_n 0, 0, 0, 0, 0), (91, .getfield 7, 0, 11, 0, 2), (94, .iload 6, 0, 0, 0, 0), (96, .iconst 3, 3, 3, 0, 0), (97, .iadd, 0, 0, 0, 0), (98, .iload_n 3, 0, 0, 0, 0), (99, .iastore, 0, 0, 0, 0), (100, .aload_n 0, 0, 0, 0, 0), (101, .getfield 7, 0, 11, 0, 2), (104, .iload 6, 0, 0, 0, 0), (106, .iconst 4, 3, 4, 0, 0), (107, .iadd, 0, 0, 0, 0), (108, .iload 4, 0, 0, 0, 0), (110, .iastore, 0, 0, 0, 0), (111, .aload_n 0, 0, 0, 0, 0), (112, .getfield 7, 0, 11, 0, 2), (115, .iload 6, 0, 0, 0, 0), (117, .iconst 5, 3, 5, 0, 0), (118, .iadd, 0, 0, 0, 0), (119, .iload 5, 0, 0, 0, 0), (121, .iastore, 0, 0, 0, 0), (122, .aload_n 0, 0, 0, 0, 0), (123, .getfield 7, 0, 11, 0, 2), (126, .iload 6, 0, 0, 0, 0), (128, .bipush 6, 3, 6, 0, 0), (130, .iadd, 0, 0, 0, 0), (131, .aload_n 0, 0, 0, 0, 0), (132, .getfield 7, 0, 11, 0, 2), (135, .sipush 210, 3, 210, 0, 0), (138, .iconst 4, 3, 4, 0, 0), (139, .iload_n 1, 0, 0, 0, 0), (140, .imul, 0, 0, 0, 0), (141, .iadd, 0, 0, 0, 0), (142, .iload_n 2, 0, 0, 0, 0), (143, .iadd, 0, 0, 0, 0), (144, .iaload, 0, 0, 0, 0), (145, .iastore, 0, 0, 0, 0), (146, .aload_n 0, 0, 0, 0, 0), (147, .getfield 7, 0, 11, 0, 2), (150, .sipush 9810, 3, 9810, 0, 0), (153, .dup2, 0, 0, 0, 0), (154, .iaload, 0, 0, 0, 0), (155, .iconst 1, 3, 1, 0, 0), (156, .iadd, 0, 0, 0, 0), (157, .iastore, 0, 0, 0, 0), (158, .return_, 0, 0, 0, 0)]
set_option maxRecDepth 100000 in
def am_c189 : List am_I := [(0, .iload_n 1, 0, 0, 0, 0), (1, .iconst 0, 3, 0, 0, 0), (2, .aload_n 0, 0, 0, 0, 0), (3, .getfield 7, 0, 11, 0, 2), (6, .sipush 9810, 3, 9810, 0, 0), (9, .iaload, 0, 0, 0, 0), (10, .iconst 1, 3, 1, 0, 0), (11, .isub, 0, 0, 0, 0), (12, .invokestatic 53, 1, 144, 3, 99), (15, .ifCond .eq 31, 0, 46, 0, 0), (18, .iload_n 2, 0, 0, 0, 0), (19, .iconst 0, 3, 0, 0, 0), (20, .bipush 6, 3, 6, 0, 0), (22, .invokestatic 53, 1, 144, 3, 99), (25, .ifCond .eq 21, 0, 46, 0, 0), (28, .aload_n 0, 0, 0, 0, 0), (29, .getfield 7, 0, 11, 0, 2), (32, .sipush 9820, 3, 9820, 0, 0), (35, .bipush 7, 3, 7, 0, 0), (37, .iload_n 1, 0, 0, 0, 0), (38, .imul, 0, 0, 0, 0), (39, .iadd, 0, 0, 0, 0), (40, .iload_n 2, 0, 0, 0, 0), (41, .iadd, 0, 0, 0, 0), (42, .iaload, 0, 0, 0, 0), (43, .goto 5, 0, 48, 0, 0), (46, .ldc 235, 3, 100000000, 1, 0), (48, .ireturn, 0, 0, 0, 0)]
set_option maxRecDepth 100000 in
def am_c190 : List am_I := [(0, .iload_n 1, 0, 0, 0, 0), (1, .invokestatic 236, 1, 148, 1, 99), (4, .ifCond .eq 38, 0, 42, 0, 0), (7, .iload_n 2, 0, 0, 0, 0), (8, .invokestatic 57, 1, 147, 1, 99), (11, .ifCond .eq 31, 0, 42, 0, 0), (14, .iload_n 3, 0, 0, 0, 0), (15, .ifCond .eq 27, 0, 42, 0, 0), (18, .iload_n 3, 0, 0, 0, 0), (19, .ldc 239, 3, 999999, 1, 0), (21, .ldc 210, 3, 999999, 0, 0), (23, .invokestatic 53, 1, 144, 3, 99), (26, .ifCond .eq 16, 0, 42, 0, 0), (29, .aload_n 0, 0, 0, 0, 0), (30, .aload_n 0, 0, 0, 0, 0), (31, .getfield 7, 0, 11, 0, 2), (34, .iconst 0, 3, 0, 0, 0), (35, .iaload, 0, 0, 0, 0), (36, .invokevirtual 240, 1, 152, 1, 11), (39, .ifCond .ne 5, 0, 44, 0, 0), (42, .iconst 0, 3, 0, 0, 0), (43, .ireturn, 0, 1, 0, 0), (44, .iload_n 3, 0, 0, 0, 0), (45, .ifCond .ge 39, 0, 84, 0, 0), (48, .aload_n 0, 0, 0, 0, 0), (49, .iload_n 1, 0, 0, 0, 0), (50, .iload_n 2, 0, 0, 0, 0), (51, .iload_n 3, 0, 0, 0, 0), (52, .ineg, 0, 0, 0, 0), (53, .iconst 0, 3, 0, 0, 0), (54, .iconst 0, 3, 0, 0, 0), (55, .aload_n 0, 0, 0, 0, 0), (56, .getfield 7, 0, 11, 0, 2), (59, .iconst 0, 3, 0, 0, 0), (60, .iaload, 0, 0, 0, 0), (61, .invokevirtual 228, 1, 183, 6, 11), (64, .aload_n 0, 0, 0, 0, 0), (65, .iload_n 1, 0, 0, 0, 0), (66, .iload_n 2, 0, 0, 0, 0), (67, .invokevirtual 243, 1, 187, 2, 11), (70, .aload_n 0, 0, 0, 0, 0), (71, .iload_n 2, 0, 0, 0, 0), (72, .iconst 1, 3, 1, 0, 0), (73, .invokevirtual 246, 1, 180, 2, 11), (76, .iadd, 0, 0, 0, 0), (77, .iload_n 3, 0, 0, 0, 0), (78, .ineg, 0, 0, 0, 0), (79, .if_icmp .ge 5, 0, 84, 0, 0), (82, .iconst 0, 3, 0, 0, 0), (83, .ireturn, 0, 1, 0, 0), (84, .aload_n 0, 0, 0, 0, 0), (85, .iload_n 1, 0, 0, 0, 0), (86, .iload_n 2, 0, 0, 0, 0), (87, .iconst 0, 3, 0, 0, 0), (88, .iconst (-1), 3, 1, 1, 0), (89, .iload_n 3, 0, 0, 0, 0), (90, .invokevirtual 249, 1, 188, 5, 11), (93, .aload_n 0, 0, 0, 0, 0), (94, .getfield 7, 0, 11, 0, 2), (97, .sipush 234, 3, 234, 0, 0), (100, .iconst 4, 3, 4, 0, 0), (101, .iload_n 1, 0, 0, 0, 0), (102, .imul, 0, 0, 0, 0), (103, .iadd, 0, 0, 0, 0), (104, .iload_n 2, 0, 0, 0, 0), (105, .iadd, 0, 0, 0, 0), (106, .dup2, 0, 0, 0, 0), (107, .iaload, 0, 0, 0, 0), (108, .iload_n 3, 0, 0, 0, 0), (109, .iadd, 0, 0, 0, 0), (110, .iastore, 0, 0, 0, 0), (111, .aload_n 0, 0, 0, 0, 0), (112, .getfield 7, 0, 11, 0, 2), (115, .iconst 5, 3, 5, 0, 0), (116, .dup2, 0, 0, 0, 0), (117, .iaload, 0, 0, 0, 0), (118, .iload_n 3, 0, 0, 0, 0), (119, .iadd, 0, 0, 0, 0), (120, .iastore, 0, 0, 0, 0), (121, .iconst 1, 3, 1, 0, 0), (122, .ireturn, 0, 1, 0, 0)]
set_option maxRecDepth 100000 in
def am_c191 : List am_I := [(0, .iload_n 1, 0, 0, 0, 0), (1, .invokestatic 236, 1, 148, 1, 99), (4, .ifCond .eq 61, 0, 65, 0, 0), (7, .iload_n 2, 0, 0, 0, 0), (8, .invokestatic 57, 1, 147, 1, 99), (11, .ifCond .eq 54, 0, 65, 0, 0), (14, .iload_n 3, 0, 0, 0, 0), (15, .invokestatic 236, 1, 148, 1, 99), (18, .ifCond .eq 47, 0, 65, 0, 0), (21, .iload 4, 0, 0, 0, 0), (23, .invokestatic 57, 1, 147, 1, 99), (26, .ifCond .eq 39, 0, 65, 0, 0), (29, .iload 5, 0, 0, 0, 0), (31, .iconst 1, 3, 1, 0, 0), (32, .ldc 253, 3, 99999, 0, 0), (34, .invokestatic 53, 1, 144, 3, 99), (37, .ifCond .eq 28, 0, 65, 0, 0), (40, .aload_n 0, 0, 0, 0, 0), (41, .aload_n 0, 0, 0, 0, 0), (42, .getfield 7, 0, 11, 0, 2), (45, .iconst 0, 3, 0, 0, 0), (46, .iaload, 0, 0, 0, 0), (47, .invokevirtual 240, 1, 152, 1, 11), (50, .ifCond .eq 15, 0, 65, 0, 0), (53, .aload_n 0, 0, 0, 0, 0), (54, .getfield 7, 0, 11, 0, 2), (57, .iconst 1, 3, 1, 0, 0), (58, .iaload, 0, 0, 0, 0), (59, .sipush 150, 3, 150, 0, 0), (62, .if_icmp .ne 5, 0, 67, 0, 0), (65, .iconst (-1), 3, 1, 1, 0), (66, .ireturn, 0, 0, 0, 0), (67, .aload_n 0, 0, 0, 0, 0), (68, .getfield 7, 0, 11, 0, 2), (71, .iconst 1, 3, 1, 0, 0), (72, .iaload, 0, 0, 0, 0), (73, .istore 6, 0, 0, 0, 0), (75, .aload_n 0, 0, 0, 0, 0), (76, .iload_n 3, 0, 0, 0, 0), (77, .iload 4, 0, 0, 0, 0), (79, .iload 5, 0, 0, 0, 0), (81, .aload_n 0, 0, 0, 0, 0), (82, .iload 4, 0, 0, 0, 0), (84, .iload_n 2, 0, 0, 0, 0), (85, .invokevirtual 221, 1, 154, 2, 11), (88, .aload_n 0, 0, 0, 0, 0), (89, .iload 4, 0, 0, 0, 0), (91, .iload_n 2, 0, 0, 0, 0), (92, .invokevirtual 224, 1, 184, 2, 11), (95, .aload_n 0, 0, 0, 0, 0), (96, .getfield 7, 0, 11, 0, 2), (99, .iconst 0, 3, 0, 0, 0), (100, .iaload, 0, 0, 0, 0), (101, .invokevirtual 228, 1, 183, 6, 11), (104, .aload_n 0, 0, 0, 0, 0), (105, .iload 4, 0, 0, 0, 0), (107, .iconst 0, 3, 0, 0, 0), (108, .invokevirtual 246, 1, 180, 2, 11), (111, .istore 7, 0, 0, 0, 0), (113, .sipush 3640, 3, 3640, 0, 0), (116, .bipush 12, 3, 12, 0, 0), (118, .iload 6, 0, 0, 0, 0), (120, .imul, 0, 0, 0, 0), (121, .iadd, 0, 0, 0, 0), (122, .istore 8, 0, 0, 0, 0), (124, .aload_n 0, 0, 0, 0, 0), (125, .getfield 7, 0, 11, 0, 2), (128, .iload 8, 0, 0, 0, 0), (130, .iconst 0, 3, 0, 0, 0), (131, .iadd, 0, 0, 0, 0), (132, .iload_n 1, 0, 0, 0, 0), (133, .iastore, 0, 0, 0, 0), (134, .aload_n 0, 0, 0, 0, 0), (135, .getfield 7, 0, 11, 0, 2), (138, .iload 8, 0, 0, 0, 0), (140, .iconst 1, 3, 1, 0, 0), (141, .iadd, 0, 0, 0, 0), (142, .iload_n 2, 0, 0, 0, 0), (143, .iastore, 0, 0, 0, 0), (144, .aload_n 0, 0, 0, 0, 0), (145, .getfield 7, 0, 11, 0, 2), (148, .iload 8, 0, 0, 0, 0), (150, .iconst 2, 3, 2, 0, 0), (151, .iadd, 0, 0, 0, 0), (152, .iload_n 3, 0, 0, 0, 0), (153, .iastore, 0, 0, 0, 0), (154, .aload_n 0, 0, 0, 0, 0), (155, .getfield 7, 0, 11, 0, 2), (158, .iload 8, 0, 0, 0, 0), (160, .iconst 3, 3, 3, 0, 0), (161, .iadd, 0, 0, 0, 0), (162, .iload 4, 0, 0, 0, 0), (164, .iastore, 0, 0, 0, 0), (165, .aload_n 0, 0, 0, 0, 0), (166, .getfield 7, 0, 11, 0, 2), (169, .iload 8, 0, 0, 0, 0), (171, .iconst 4, 3, 4, 0, 0), (172, .iadd, 0, 0, 0, 0), (173, .iload 5, 0, 0, 0, 0), (175, .iastore, 0, 0, 0, 0), (176, .aload_n 0, 0, 0, 0, 0), (177, .getfield 7, 0, 11, 0, 2), (180, .iload 8, 0, 0, 0, 0), (182, .iconst 5, 3, 5, 0, 0), (183, .iadd, 0, 0, 0, 0), (184, .aload_n 0, 0, 0, 0, 0), (185, .getfield 7, 0, 11, 0, 2), (188, .iconst 0, 3, 0, 0, 0), (189, .iaload, 0, 0, 0, 0), (190, .iastore, 0, 0, 0, 0), (191, .aload_n 0, 0, 0, 0, 0), (192, .getfield 7, 0, 11, 0, 2), (195, .iload 8, 0, 0, 0, 0), (197, .bipush 6, 3, 6, 0, 0), (199, .iadd, 0, 0, 0, 0), (200, .iconst 0, 3, 0, 0, 0), (201, .iastore, 0, 0, 0, 0), (202, .aload_n 0, 0, 0, 0, 0), (203, .getfield 7, 0, 11, 0, 2), (206, .iload 8, 0, 0, 0, 0), (208, .bipush 7, 3, 7, 0, 0), (210, .iadd, 0, 0, 0, 0), (211, .aload_n 0, 0, 0, 0, 0), (212, .iload 4, 0, 0, 0, 0), (214, .iload_n 2, 0, 0, 0, 0), (215, .invokevirtual 221, 1, 154, 2, 11), (218, .iastore, 0, 0, 0, 0), (219, .aload_n 0, 0, 0, 0, 0), (220, .getfield 7, 0, 11, 0, 2), (223, .iload 8, 0, 0, 0, 0), (225, .bipush 8, 3, 8, 0, 0), (227, .iadd, 0, 0, 0, 0), (228, .iload 7, 0, 0, 0, 0), (230, .iastore, 0, 0, 0, 0), (231, .aload_n 0, 0, 0, 0, 0), (232, .getfield 7, 0, 11, 0, 2), (235, .iload 8, 0, 0, 0, 0), (237, .bipush 9, 3, 9, 0, 0), (239, .iadd, 0, 0, 0, 0), (240, .iconst (-1), 3, 1, 1, 0), (241, .iastore, 0, 0, 0, 0), (242, .aload_n 0, 0, 0, 0, 0), (243, .iload_n 3, 0, 0, 0, 0), (244, .iload 4, 0, 0, 0, 0), (246, .iconst 1, 3, 1, 0, 0), (247, .iload 6, 0, 0, 0, 0), (249, .iload 5, 0, 0, 0, 0), (251, .invokevirtual 249, 1, 188, 5, 11), (254, .aload_n 0, 0, 0, 0, 0), (255, .getfield 7, 0, 11, 0, 2), (258, .iconst 1, 3, 1, 0, 0), (259, .dup2, 0, 0, 0, 0), (260, .iaload, 0, 0, 0, 0), (261, .iconst 1, 3, 1, 0, 0), (262, .iadd, 0, 0, 0, 0), (263, .iastore, 0, 0, 0, 0), (264, .iload 6, 0, 0, 0, 0), (266, .ireturn, 0, 0, 0, 0)]
set_option maxRecDepth 100000 in
def am_c192 : List am_I := [(0, .iload_n 1, 0, 0, 0, 0), (1, .invokestatic 236, 1, 148, 1, 99), (4, .ifCond .eq 10, 0, 14, 0, 0), (7, .iload_n 2, 0, 0, 0, 0), (8, .invokestatic 57, 1, 147, 1, 99), (11, .ifCond .ne 6, 0, 17, 0, 0), (14, .ldc 235, 3, 100000000, 1, 0), (16, .ireturn, 0, 0, 0, 0), (17, .iload_n 3, 0, 0, 0, 0), (18, .tableswitch 66 0 3 #[30, 45, 52, 59], 0, 0, 0, 0), (48, .aload_n 0, 0, 0, 0, 0), (49, .getfield 7, 0, 11, 0, 2), (52, .sipush 210, 3, 210, 0, 0), (55, .iconst 4, 3, 4, 0, 0), (56, .iload_n 1, 0, 0, 0, 0), (57, .imul, 0, 0, 0, 0), (58, .iadd, 0, 0, 0, 0), (59, .iload_n 2, 0, 0, 0, 0), (60, .iadd, 0, 0, 0, 0), (61, .iaload, 0, 0, 0, 0), (62, .ireturn, 0, 0, 0, 0), (63, .aload_n 0, 0, 0, 0, 0), (64, .iload_n 1, 0, 0, 0, 0), (65, .iload_n 2, 0, 0, 0, 0), (66, .invokevirtual 243, 1, 187, 2, 11), (69, .ireturn, 0, 0, 0, 0), (70, .aload_n 0, 0, 0, 0, 0), (71, .iload_n 1, 0, 0, 0, 0), (72, .iload_n 2, 0, 0, 0, 0), (73, .invokevirtual 232, 1, 186, 2, 11), (76, .ireturn, 0, 0, 0, 0), (77, .aload_n 0, 0, 0, 0, 0), (78, .iload_n 1, 0, 0, 0, 0), (79, .iload_n 2, 0, 0, 0, 0), (80, .invokevirtual 218, 1, 182, 2, 11), (83, .ireturn, 0, 0, 0, 0), (84, .ldc 235, 3, 100000000, 1, 0), (86, .ireturn, 0, 0, 0, 0)]
set_option maxRecDepth 100000 in
def am_c193 : List am_I := [(0, .iload_n 1, 0, 0, 0, 0), (1, .iconst 0, 3, 0, 0, 0), (2, .aload_n 0, 0, 0, 0, 0), (3, .getfield 7, 0, 11, 0, 2), (6, .iconst 1, 3, 1, 0, 0), (7, .iaload, 0, 0, 0, 0), (8, .iconst 1, 3, 1, 0, 0), (9, .isub, 0, 0, 0, 0), (10, .invokestatic 53, 1, 144, 3, 99), (13, .ifCond .eq 22, 0, 35, 0, 0), (16, .iload_n 2, 0, 0, 0, 0), (17, .iconst 0, 3, 0, 0, 0), (18, .bipush 9, 3, 9, 0, 0), (20, .invokestatic 53, 1, 144, 3, 99), (23, .ifCond .eq 12, 0, 35, 0, 0), (26, .aload_n 0, 0, 0, 0, 0), (27, .iload_n 1, 0, 0, 0, 0), (28, .iload_n 2, 0, 0, 0, 0), (29, .invokevirtual 214, 1, 181, 2, 11), (32, .goto 5, 0, 37, 0, 0), (35, .bipush (-2), 3, 2, 1, 0), (37, .ireturn, 0, 0, 0, 0)]
set_option maxRecDepth 100000 in
def am_c194 : List am_I := [(0, .iload_n 1, 0, 0, 0, 0), (1, .iconst 1, 3, 1, 0, 0), (2, .isub, 0, 0, 0, 0), (3, .istore_n 2, 0, 0, 0, 0), (4, .iload_n 2, 0, 0, 0, 0), (5, .ifCond .lt 52, 0, 57, 0, 0), (8, .aload_n 0, 0, 0, 0, 0), (9, .iload_n 2, 0, 0, 0, 0), (10, .iconst 2, 3, 2, 0, 0), (11, .invokevirtual 214, 1, 181, 2, 11), (14, .aload_n 0, 0, 0, 0, 0), (15, .iload_n 1, 0, 0, 0, 0), (16, .iconst 0, 3, 0, 0, 0), (17, .invokevirtual 214, 1, 181, 2, 11), (20, .if_icmp .ne 31, 0, 51, 0, 0), (23, .aload_n 0, 0, 0, 0, 0), (24, .iload_n 2, 0, 0, 0, 0), (25, .iconst 3, 3, 3, 0, 0), (26, .invokevirtual 214, 1, 181, 2, 11), (29, .aload_n 0, 0, 0, 0, 0), (30, .iload_n 1, 0, 0, 0, 0), (31, .iconst 1, 3, 1, 0, 0), (32, .invokevirtual 214, 1, 181, 2, 11), (35, .if_icmp .ne 16, 0, 51, 0, 0), (38, .aload_n 0, 0, 0, 0, 0), (39, .iload_n 2, 0, 0, 0, 0), (40, .bipush 6, 3, 6, 0, 0), (42, .invokevirtual 214, 1, 181, 2, 11), (45, .iconst 3, 3, 3, 0, 0), (46, .if_icmp .eq 5, 0, 51, 0, 0), (49, .iload_n 2, 0, 0, 0, 0), (50, .ireturn, 0, 0, 0, 0), (51, .iinc 2 (-1), 3, 1, 1, 0), (54, .goto (-50), 0, 4, 0, 0), (57, .iconst (-1), 3, 1, 1, 0), (58, .ireturn, 0, 0, 0, 0)]
set_option maxRecDepth 100000 in
def am_c195 : List am_I := [(0, .iload_n 1, 0, 0, 0, 0), (1, .iconst 0, 3, 0, 0, 0), (2, .aload_n 0, 0, 0, 0, 0), (3, .getfield 7, 0, 11, 0, 2), (6, .iconst 1, 3, 1, 0, 0), (7, .iaload, 0, 0, 0, 0), (8, .iconst 1, 3, 1, 0, 0), (9, .isub, 0, 0, 0, 0), (10, .invokestatic 53, 1, 144, 3, 99), (13, .ifCond .eq 12, 0, 25, 0, 0), (16, .iload_n 2, 0, 0, 0, 0), (17, .iconst 0, 3, 0, 0, 0), (18, .iconst 3, 3, 3, 0, 0), (19, .invokestatic 53, 1, 144, 3, 99), (22, .ifCond .ne 6, 0, 28, 0, 0), (25, .bipush (-2), 3, 2, 1, 0), (27, .ireturn, 0, 0, 0, 0), (28, .iload_n 2, 0, 0, 0, 0), (29, .ifCond .ne 9, 0, 38, 0, 0), (32, .aload_n 0, 0, 0, 0, 0), (33, .iload_n 1, 0, 0, 0, 0), (34, .invokevirtual 254, 1, 194, 1, 11), (37, .ireturn, 0, 0, 0, 0), (38, .iload_n 1, 0, 0, 0, 0), (39, .istore_n 3, 0, 0, 0, 0), (40, .iconst 1, 3, 1, 0, 0), (41, .istore 4, 0, 0, 0, 0), (43, .aload_n 0, 0, 0, 0, 0), (44, .iload_n 1, 0, 0, 0, 0), (45, .invokevirtual 254, 1, 194, 1, 11), (48, .istore 5, 0, 0, 0, 0), (50, .iload 5, 0, 0, 0, 0), (52, .iconst (-1), 3, 1, 1, 0), (53, .if_icmp .eq 20, 0, 73, 0, 0), (56, .iload 5, 0, 0, 0, 0), (58, .istore_n 3, 0, 0, 0, 0), (59, .iinc 4 1, 3, 1, 0, 0), (62, .aload_n 0, 0, 0, 0, 0), (63, .iload 5, 0, 0, 0, 0), (65, .invokevirtual 254, 1, 194, 1, 11), (68, .istore 5, 0, 0, 0, 0), (70, .goto (-20), 0, 50, 0, 0), (73, .iload_n 2, 0, 0, 0, 0), (74, .iconst 1, 3, 1, 0, 0), (75, .if_icmp .ne 8, 0, 83, 0, 0), (78, .iload 4, 0, 0, 0, 0), (80, .goto 25, 0, 105, 0, 0), (83, .iload_n 2, 0, 0, 0, 0), (84, .iconst 2, 3, 2, 0, 0), (85, .if_icmp .ne 7, 0, 92, 0, 0), (88, .iload_n 3, 0, 0, 0, 0), (89, .goto 16, 0, 105, 0, 0), (92, .aload_n 0, 0, 0, 0, 0), (93, .iload_n 1, 0, 0, 0, 0), (94, .iconst 5, 3, 5, 0, 0), (95, .invokevirtual 214, 1, 181, 2, 11), (98, .aload_n 0, 0, 0, 0, 0), (99, .iload_n 3, 0, 0, 0, 0), (100, .iconst 5, 3, 5, 0, 0), (101, .invokevirtual 214, 1, 181, 2, 11), (104, .isub, 0, 0, 0, 0), (105, .ireturn, 0, 0, 0, 0)]
set_option maxRecDepth 100000 in
def am_c196 : List am_I := [(0, .iconst 0, 3, 0, 0, 0), (1, .istore_n 2, 0, 0, 0, 0), (2, .iconst 0, 3, 0, 0, 0), (3, .istore_n 3, 0, 0, 0, 0), (4, .iload_n 3, 0, 0, 0, 0), (5, .iconst 4, 3, 4, 0, 0), (6, .if_icmp .ge 26, 0, 32, 0, 0), (9, .iload_n 2, 0, 0, 0, 0), (10, .aload_n 0, 0, 0, 0, 0), (11, .getfield 7, 0, 11, 0, 2), (14, .sipush 210, 3, 210, 0, 0), (17, .iconst 4, 3, 4, 0, 0), (18, .iload_n 1, 0, 0, 0, 0), (19, .imul, 0, 0, 0, 0), (20, .iadd, 0, 0, 0, 0), (21, .iload_n 3, 0, 0, 0, 0), (22, .iadd, 0, 0, 0, 0), (23, .iaload, 0, 0, 0, 0), (24, .iadd, 0, 0, 0, 0), (25, .istore_n 2, 0, 0, 0, 0), (26, .iinc 3 1, 3, 1, 0, 0), (29, .goto (-25), 0, 4, 0, 0), (32, .iload_n 2, 0, 0, 0, 0), (33, .ireturn, 0, 0, 0, 0)]
set_option maxRecDepth 100000 in
def am_c197 : List am_I := [(0, .iconst 0, 3, 0, 0, 0), (1, .istore_n 2, 0, 0, 0, 0), (2, .iconst 0, 3, 0, 0, 0), (3, .istore_n 3, 0, 0, 0, 0), (4, .iload_n 3, 0, 0, 0, 0), (5, .aload_n 0, 0, 0, 0, 0), (6, .getfield 7, 0, 11, 0, 2), (9, .iconst 1, 3, 1, 0, 0), (10, .iaload, 0, 0, 0, 0), (11, .if_icmp .ge 63, 0, 74, 0, 0), (14, .iload_n 2, 0, 0, 0, 0), (15, .aload_n 0, 0, 0, 0, 0), (16, .iload_n 3, 0, 0, 0, 0), (17, .bipush 6, 3, 6, 0, 0), (19, .invokevirtual 214, 1, 181, 2, 11), (22, .ifCond .ne 13, 0, 35, 0, 0), (25, .aload_n 0, 0, 0, 0, 0), (26, .iload_n 3, 0, 0, 0, 0), (27, .iconst 0, 3, 0, 0, 0), (28, .invokevirtual 214, 1, 181, 2, 11), (31, .iload_n 1, 0, 0, 0, 0), (32, .if_icmp .eq 24, 0, 56, 0, 0), (35, .aload_n 0, 0, 0, 0, 0), (36, .iload_n 3, 0, 0, 0, 0), (37, .bipush 6, 3, 6, 0, 0), (39, .invokevirtual 214, 1, 181, 2, 11), (42, .iconst 2, 3, 2, 0, 0), (43, .if_icmp .ne 22, 0, 65, 0, 0), (46, .aload_n 0, 0, 0, 0, 0), (47, .iload_n 3, 0, 0, 0, 0), (48, .iconst 2, 3, 2, 0, 0), (49, .invokevirtual 214, 1, 181, 2, 11), (52, .iload_n 1, 0, 0, 0, 0), (53, .if_icmp .ne 12, 0, 65, 0, 0), (56, .aload_n 0, 0, 0, 0, 0), (57, .iload_n 3, 0, 0, 0, 0), (58, .iconst 4, 3, 4, 0, 0), (59, .invokevirtual 214, 1, 181, 2, 11), (62, .goto 4, 0, 66, 0, 0), (65, .iconst 0, 3, 0, 0, 0), (66, .iadd, 0, 0, 0, 0), (67, .istore_n 2, 0, 0, 0, 0), (68, .iinc 3 1, 3, 1, 0, 0), (71, .goto (-67), 0, 4, 0, 0), (74, .iload_n 2, 0, 0, 0, 0), (75, .ireturn, 0, 0, 0, 0)]
set_option maxRecDepth 100000 in
def am_c198 : List am_I := [(0, .iload_n 1, 0, 0, 0, 0), (1, .invokestatic 236, 1, 148, 1, 99), (4, .ifCond .eq 12, 0, 16, 0, 0), (7, .iload_n 2, 0, 0, 0, 0), (8, .iconst 0, 3, 0, 0, 0), (9, .iconst 2, 3, 2, 0, 0), (10, .invokestatic 53, 1, 144, 3, 99), (13, .ifCond .ne 6, 0, 19, 0, 0), (16, .ldc 235, 3, 100000000, 1, 0), (18, .ireturn, 0, 0, 0, 0), (19, .iload_n 2, 0, 0, 0, 0), (20, .ifCond .ne 11, 0, 31, 0, 0), (23, .aload_n 0, 0, 0, 0, 0), (24, .iload_n 1, 0, 0, 0, 0), (25, .invokevirtual 257, 1, 196, 1, 11), (28, .goto 27, 0, 55, 0, 0), (31, .iload_n 2, 0, 0, 0, 0), (32, .iconst 1, 3, 1, 0, 0), (33, .if_icmp .ne 17, 0, 50, 0, 0), (36, .aload_n 0, 0, 0, 0, 0), (37, .iload_n 1, 0, 0, 0, 0), (38, .invokevirtual 257, 1, 196, 1, 11), (41, .aload_n 0, 0, 0, 0, 0), (42, .iload_n 1, 0, 0, 0, 0), (43, .invokevirtual 260, 1, 197, 1, 11), (46, .isub, 0, 0, 0, 0), (47, .goto 8, 0, 55, 0, 0), (50, .aload_n 0, 0, 0, 0, 0), (51, .iload_n 1, 0, 0, 0, 0), (52, .invokevirtual 260, 1, 197, 1, 11), (55, .ireturn, 0, 0, 0, 0)]
set_option maxRecDepth 100000 in
def am_c199 : List am_I := [(0, .iload_n 1, 0, 0, 0, 0), (1, .iconst 0, 3, 0, 0, 0), (2, .bipush 89, 3, 89, 0, 0), (4, .invokestatic 53, 1, 144, 3, 99), (7, .ifCond .eq 56, 0, 63, 0, 0), (10, .aload_n 0, 0, 0, 0, 0), (11, .getfield 7, 0, 11, 0, 2), (14, .sipush 282, 3, 282, 0, 0), (17, .iload_n 1, 0, 0, 0, 0), (18, .iadd, 0, 0, 0, 0), (19, .iaload, 0, 0, 0, 0), (20, .iconst 1, 3, 1, 0, 0), (21, .if_icmp .ne 42, 0, 63, 0, 0), (24, .iload_n 2, 0, 0, 0, 0), (25, .invokestatic 236, 1, 148, 1, 99), (28, .ifCond .eq 35, 0, 63, 0, 0), (31, .iload_n 3, 0, 0, 0, 0), (32, .iconst 0, 3, 0, 0, 0), (33, .iconst 5, 3, 5, 0, 0), (34, .invokestatic 53, 1, 144, 3, 99), (37, .ifCond .eq 26, 0, 63, 0, 0), (40, .aload_n 0, 0, 0, 0, 0), (41, .getfield 7, 0, 11, 0, 2), (44, .sipush 372, 3, 372, 0, 0), (47, .bipush 36, 3, 36, 0, 0), (49, .iload_n 1, 0, 0, 0, 0), (50, .imul, 0, 0, 0, 0), (51, .iadd, 0, 0, 0, 0), (52, .bipush 6, 3, 6, 0, 0), (54, .iload_n 2, 0, 0, 0, 0), (55, .imul, 0, 0, 0, 0), (56, .iadd, 0, 0, 0, 0), (57, .iload_n 3, 0, 0, 0, 0), (58, .iadd, 0, 0, 0, 0), (59, .iaload, 0, 0, 0, 0), (60, .goto 5, 0, 65, 0, 0), (63, .ldc 235, 3, 100000000, 1, 0), (65, .ireturn, 0, 0, 0, 0)]
set_option maxRecDepth 100000 in
def am_c200 : List am_I := [(0, .aload_n 0, 0, 0, 0, 0), (1, .iload_n 1, 0, 0, 0, 0), (2, .bipush 6, 3, 6, 0, 0), (4, .invokevirtual 214, 1, 181, 2, 11), (7, .ifCond .eq 14, 0, 21, 0, 0), (10, .aload_n 0, 0, 0, 0, 0), (11, .iload_n 1, 0, 0, 0, 0), (12, .bipush 6, 3, 6, 0, 0), (14, .invokevirtual 214, 1, 181, 2, 11), (17, .iconst 2, 3, 2, 0, 0), (18, .if_icmp .ne 7, 0, 25, 0, 0), (21, .iconst 1, 3, 1, 0, 0), (22, .goto 4, 0, 26, 0, 0), (25, .iconst 0, 3, 0, 0, 0), (26, .ireturn, 0, 1, 0, 0)]
set_option maxRecDepth 100000 in
def am_c201 : List am_I := [(0, .iconst 0, 3, 0, 0, 0), (1, .istore_n 2, 0, 0, 0, 0), (2, .iconst 0, 3, 0, 0, 0), (3, .istore_n 3, 0, 0, 0, 0), (4, .iload_n 3, 0, 0, 0, 0), (5, .aload_n 0, 0, 0, 0, 0), (6, .getfield 7, 0, 11, 0, 2), (9, .iconst 1, 3, 1, 0, 0), (10, .iaload, 0, 0, 0, 0), (11, .if_icmp .ge 38, 0, 49, 0, 0), (14, .iload_n 2, 0, 0, 0, 0), (15, .aload_n 0, 0, 0, 0, 0), (16, .iload_n 3, 0, 0, 0, 0), (17, .invokevirtual 263, 1, 200, 1, 11), (20, .ifCond .eq 20, 0, 40, 0, 0), (23, .iload_n 1, 0, 0, 0, 0), (24, .ifCond .eq 12, 0, 36, 0, 0), (27, .aload_n 0, 0, 0, 0, 0), (28, .iload_n 3, 0, 0, 0, 0), (29, .iconst 4, 3, 4, 0, 0), (30, .invokevirtual 214, 1, 181, 2, 11), (33, .goto 8, 0, 41, 0, 0), (36, .iconst 1, 3, 1, 0, 0), (37, .goto 4, 0, 41, 0, 0), (40, .iconst 0, 3, 0, 0, 0), (41, .iadd, 0, 0, 0, 0), (42, .istore_n 2, 0, 0, 0, 0), (43, .iinc 3 1, 3, 1, 0, 0), (46, .goto (-42), 0, 4, 0, 0), (49, .iload_n 2, 0, 0, 0, 0), (50, .ireturn, 0, 0, 0, 0)]
set_option maxRecDepth 100000 in
def am_c202 : List am_I := [(0, .iconst 0, 3, 0, 0, 0), (1, .istore_n 2, 0, 0, 0, 0), (2, .iload_n 1, 0, 0, 0, 0), (3, .tableswitch 83 0 4 #[33, 57, 63, 70, 77], 0, 0, 0, 0), (36, .iconst 0, 3, 0, 0, 0), (37, .istore_n 3, 0, 0, 0, 0), (38, .iload_n 3, 0, 0, 0, 0), (39, .bipush 6, 3, 6, 0, 0), (41, .if_icmp .ge 17, 0, 58, 0, 0), (44, .iload_n 2, 0, 0, 0, 0), (45, .aload_n 0, 0, 0, 0, 0), (46, .iload_n 3, 0, 0, 0, 0), (47, .invokevirtual 257, 1, 196, 1, 11), (50, .iadd, 0, 0, 0, 0), (51, .istore_n 2, 0, 0, 0, 0), (52, .iinc 3 1, 3, 1, 0, 0), (55, .goto (-17), 0, 38, 0, 0), (58, .iload_n 2, 0, 0, 0, 0), (59, .ireturn, 0, 0, 0, 0), (60, .aload_n 0, 0, 0, 0, 0), (61, .iconst 1, 3, 1, 0, 0), (62, .invokevirtual 266, 1, 201, 1, 11), (65, .ireturn, 0, 0, 0, 0), (66, .aload_n 0, 0, 0, 0, 0), (67, .getfield 7, 0, 11, 0, 2), (70, .iconst 5, 3, 5, 0, 0), (71, .iaload, 0, 0, 0, 0), (72, .ireturn, 0, 0, 0, 0), (73, .aload_n 0, 0, 0, 0, 0), (74, .getfield 7, 0, 11, 0, 2), (77, .iconst 4, 3, 4, 0, 0), (78, .iaload, 0, 0, 0, 0), (79, .ireturn, 0, 0, 0, 0), (80, .aload_n 0, 0, 0, 0, 0), (81, .iconst 0, 3, 0, 0, 0), (82, .invokevirtual 266, 1, 201, 1, 11), (85, .ireturn, 0, 0, 0, 0), (86, .iconst (-1), 3, 1, 1, 0), (87, .ireturn, 0, 0, 0, 0)]
set_option maxRecDepth 100000 in
def am_c203 : List am_I := [(0, .aload_n 0, 0, 0, 0, 0), (1, .iload_n 1, 0, 0, 0, 0), (2, .bipush 6, 3, 6, 0, 0), (4, .invokevirtual 214, 1, 181, 2, 11), (7, .iload_n 2, 0, 0, 0, 0), (8, .if_icmp .ne 47, 0, 55, 0, 0), (11, .aload_n 0, 0, 0, 0, 0), (12, .iload_n 1, 0, 0, 0, 0), (13, .bipush 7, 3, 7, 0, 0), (15, .invokevirtual 214, 1, 181, 2, 11), (18, .ifCond .ne 37, 0, 55, 0, 0), (21, .iload_n 2, 0, 0, 0, 0), (22, .iconst 2, 3, 2, 0, 0), (23, .if_icmp .ne 13, 0, 36, 0, 0), (26, .aload_n 0, 0, 0, 0, 0), (27, .iload_n 1, 0, 0, 0, 0), (28, .bipush 9, 3, 9, 0, 0), (30, .invokevirtual 214, 1, 181, 2, 11), (33, .goto 9, 0, 42, 0, 0), (36, .aload_n 0, 0, 0, 0, 0), (37, .iload_n 1, 0, 0, 0, 0), (38, .iconst 5, 3, 5, 0, 0), (39, .invokevirtual 214, 1, 181, 2, 11), (42, .aload_n 0, 0, 0, 0, 0), (43, .getfield 7, 0, 11, 0, 2), (46, .iconst 0, 3, 0, 0, 0), (47, .iaload, 0, 0, 0, 0), (48, .if_icmp .ge 7, 0, 55, 0, 0), (51, .iconst 1, 3, 1, 0, 0), (52, .goto 4, 0, 56, 0, 0), (55, .iconst 0, 3, 0, 0, 0), (56, .ireturn, 0, 1, 0, 0)]
set_option maxRecDepth 100000 in
def am_c204 : List am_I := [(0, .iload_n 3, 0, 0, 0, 0), (1, .tableswitch 90 1 3 #[27, 48, 69], 0, 0, 0, 0), (28, .aload_n 0, 0, 0, 0, 0), (29, .iload_n 1, 0, 0, 0, 0), (30, .iconst 4, 3, 4, 0, 0), (31, .invokevirtual 214, 1, 181, 2, 11), (34, .aload_n 0, 0, 0, 0, 0), (35, .iload_n 2, 0, 0, 0, 0), (36, .iconst 4, 3, 4, 0, 0), (37, .invokevirtual 214, 1, 181, 2, 11), (40, .if_icmp .ge 7, 0, 47, 0, 0), (43, .iconst 1, 3, 1, 0, 0), (44, .goto 4, 0, 48, 0, 0), (47, .iconst 0, 3, 0, 0, 0), (48, .ireturn, 0, 1, 0, 0), (49, .aload_n 0, 0, 0, 0, 0), (50, .iload_n 1, 0, 0, 0, 0), (51, .iconst 4, 3, 4, 0, 0), (52, .invokevirtual 214, 1, 181, 2, 11), (55, .aload_n 0, 0, 0, 0, 0), (56, .iload_n 2, 0, 0, 0, 0), (57, .iconst 4, 3, 4, 0, 0), (58, .invokevirtual 214, 1, 181, 2, 11), (61, .if_icmp .le 7, 0, 68, 0, 0), (64, .iconst 1, 3, 1, 0, 0), (65, .goto 4, 0, 69, 0, 0), (68, .iconst 0, 3, 0, 0, 0), (69, .ireturn, 0, 1, 0, 0), (70, .aload_n 0, 0, 0, 0, 0), (71, .iload_n 1, 0, 0, 0, 0), (72, .iconst 0, 3, 0, 0, 0), (73, .invokevirtual 214, 1, 181, 2, 11), (76, .aload_n 0, 0, 0, 0, 0), (77, .iload_n 2, 0, 0, 0, 0), (78, .iconst 0, 3, 0, 0, 0), (79, .invokevirtual 214, 1, 181, 2, 11), (82, .if_icmp .le 7, 0, 89, 0, 0), (85, .iconst 1, 3, 1, 0, 0), (86, .goto 4, 0, 90, 0, 0), (89, .iconst 0, 3, 0, 0, 0), (90, .ireturn, 0, 1, 0, 0), (91, .iconst 0, 3, 0, 0, 0), (92, .ireturn, 0, 1, 0, 0)]
set_option maxRecDepth 100000 in
def am_c205 : List am_I := [(0, .aload_n 0, 0, 0, 0, 0), (1, .iconst 0, 3, 0, 0, 0), (2, .putfield 270, 0, 11, 23, 0), (5, .iconst 0, 3, 0, 0, 0), (6, .istore_n 3, 0, 0, 0, 0), (7, .iload_n 3, 0, 0, 0, 0), (8, .aload_n 0, 0, 0, 0, 0), (9, .getfield 7, 0, 11, 0, 2), (12, .iconst 1, 3, 1, 0, 0), (13, .iaload, 0, 0, 0, 0), (14, .if_icmp .ge 100, 0, 114, 0, 0), (17, .aload_n 0, 0, 0, 0, 0), (18, .iload_n 3, 0, 0, 0, 0), (19, .iconst 1, 3, 1, 0, 0), (20, .invokevirtual 214, 1, 181, 2, 11), (23, .iload_n 1, 0, 0, 0, 0), (24, .if_icmp .ne 84, 0, 108, 0, 0), (27, .aload_n 0, 0, 0, 0, 0), (28, .iload_n 3, 0, 0, 0, 0), (29, .iconst 0, 3, 0, 0, 0), (30, .invokevirtual 273, 1, 203, 2, 11), (33, .ifCond .ne 6, 0, 39, 0, 0), (36, .goto 72, 0, 108, 0, 0), (39, .aload_n 0, 0, 0, 0, 0), (40, .getfield 270, 0, 11, 23, 0), (43, .istore 4, 0, 0, 0, 0), (45, .iload 4, 0, 0, 0, 0), (47, .ifCond .le 43, 0, 90, 0, 0), (50, .aload_n 0, 0, 0, 0, 0), (51, .aload_n 0, 0, 0, 0, 0), (52, .getfield 38, 0, 11, 22, 2), (55, .iload 4, 0, 0, 0, 0), (57, .iconst 1, 3, 1, 0, 0), (58, .isub, 0, 0, 0, 0), (59, .iaload, 0, 0, 0, 0), (60, .iload_n 3, 0, 0, 0, 0), (61, .iload_n 2, 0, 0, 0, 0), (62, .invokevirtual 276, 1, 204, 3, 11), (65, .ifCond .eq 25, 0, 90, 0, 0), (68, .aload_n 0, 0, 0, 0, 0), (69, .getfield 38, 0, 11, 22, 2), (72, .iload 4, 0, 0, 0, 0), (74, .aload_n 0, 0, 0, 0, 0), (75, .getfield 38, 0, 11, 22, 2), (78, .iload 4, 0, 0, 0, 0), (80, .iconst 1, 3, 1, 0, 0), (81, .isub, 0, 0, 0, 0), (82, .iaload, 0, 0, 0, 0), (83, .iastore, 0, 0, 0, 0), (84, .iinc 4 (-1), 3, 1, 1, 0), (87, .goto (-42), 0, 45, 0, 0), (90, .aload_n 0, 0, 0, 0, 0), (91, .getfield 38, 0, 11, 22, 2), (94, .iload 4, 0, 0, 0, 0), (96, .iload_n 3, 0, 0, 0, 0), (97, .iastore, 0, 0, 0, 0), (98, .aload_n 0, 0, 0, 0, 0), (99, .dup, 0, 0, 0, 0), (100, .getfield 270, 0, 11, 23, 0), (103, .iconst 1, 3, 1, 0, 0), (104, .iadd, 0, 0, 0, 0), (105, .putfield 270, 0, 11, 23, 0), (108, .iinc 3 1, 3, 1, 0, 0), (111, .goto (-104), 0, 7, 0, 0), (114, .return_, 0, 0, 0, 0)]
set_option maxRecDepth 100000 in
def am_c206 : List am_I := [(0, .aload_n 0, 0, 0, 0, 0), (1, .iload_n 1, 0, 0, 0, 0), (2, .iconst 0, 3, 0, 0, 0), (3, .invokevirtual 214, 1, 181, 2, 11), (6, .istore_n 2, 0, 0, 0, 0), (7, .aload_n 0, 0, 0, 0, 0), (8, .iload_n 1, 0, 0, 0, 0), (9, .iconst 1, 3, 1, 0, 0), (10, .invokevirtual 214, 1, 181, 2, 11), (13, .istore_n 3, 0, 0, 0, 0), (14, .aload_n 0, 0, 0, 0, 0), (15, .iload_n 1, 0, 0, 0, 0), (16, .iload_n 2, 0, 0, 0, 0), (17, .iload_n 3, 0, 0, 0, 0), (18, .invokevirtual 279, 1, 185, 3, 11), (21, .aload_n 0, 0, 0, 0, 0), (22, .iload_n 2, 0, 0, 0, 0), (23, .iload_n 3, 0, 0, 0, 0), (24, .invokevirtual 243, 1, 187, 2, 11), (27, .aload_n 0, 0, 0, 0, 0), (28, .iload_n 3, 0, 0, 0, 0), (29, .iconst 1, 3, 1, 0, 0), (30, .invokevirtual 246, 1, 180, 2, 11), (33, .iadd, 0, 0, 0, 0), (34, .aload_n 0, 0, 0, 0, 0), (35, .iload_n 1, 0, 0, 0, 0), (36, .iconst 4, 3, 4, 0, 0), (37, .invokevirtual 214, 1, 181, 2, 11), (40, .if_icmp .lt 7, 0, 47, 0, 0), (43, .iconst 1, 3, 1, 0, 0), (44, .goto 4, 0, 48, 0, 0), (47, .iconst 0, 3, 0, 0, 0), (48, .istore 4, 0, 0, 0, 0), (50, .iload 4, 0, 0, 0, 0), (52, .ifCond .eq 7, 0, 59, 0, 0), (55, .iconst 0, 3, 0, 0, 0), (56, .goto 9, 0, 65, 0, 0), (59, .aload_n 0, 0, 0, 0, 0), (60, .iload_n 3, 0, 0, 0, 0), (61, .iconst 2, 3, 2, 0, 0), (62, .invokevirtual 246, 1, 180, 2, 11), (65, .istore 5, 0, 0, 0, 0), (67, .aload_n 0, 0, 0, 0, 0), (68, .iload_n 2, 0, 0, 0, 0), (69, .iload_n 3, 0, 0, 0, 0), (70, .iload 4, 0, 0, 0, 0), (72, .ifCond .eq 7, 0, 79, 0, 0), (75, .iconst 2, 3, 2, 0, 0), (76, .goto 4, 0, 80, 0, 0), (79, .iconst 3, 3, 3, 0, 0), (80, .iload_n 1, 0, 0, 0, 0), (81, .iload 4, 0, 0, 0, 0), (83, .ifCond .eq 13, 0, 96, 0, 0), (86, .aload_n 0, 0, 0, 0, 0), (87, .iload_n 1, 0, 0, 0, 0), (88, .iconst 4, 3, 4, 0, 0), (89, .invokevirtual 214, 1, 181, 2, 11), (92, .ineg, 0, 0, 0, 0), (93, .goto 6, 0, 99, 0, 0), (96, .iload 5, 0, 0, 0, 0), (98, .ineg, 0, 0, 0, 0), (99, .invokevirtual 249, 1, 188, 5, 11), (102, .aload_n 0, 0, 0, 0, 0), (103, .getfield 7, 0, 11, 0, 2), (106, .sipush 258, 3, 258, 0, 0), (109, .iconst 4, 3, 4, 0, 0), (110, .iload_n 2, 0, 0, 0, 0), (111, .imul, 0, 0, 0, 0), (112, .iadd, 0, 0, 0, 0), (113, .iload_n 3, 0, 0, 0, 0), (114, .iadd, 0, 0, 0, 0), (115, .dup2, 0, 0, 0, 0), (116, .iaload, 0, 0, 0, 0), (117, .iload 5, 0, 0, 0, 0), (119, .iadd, 0, 0, 0, 0), (120, .iastore, 0, 0, 0, 0), (121, .aload_n 0, 0, 0, 0, 0), (122, .getfield 7, 0, 11, 0, 2), (125, .iconst 4, 3, 4, 0, 0), (126, .dup2, 0, 0, 0, 0), (127, .iaload, 0, 0, 0, 0), (128, .iload 5, 0, 0, 0, 0), (130, .iadd, 0, 0, 0, 0), (131, .iastore, 0, 0, 0, 0), (132, .aload_n 0, 0, 0, 0, 0), (133, .getfield 7, 0, 11, 0, 2), (136, .sipush 3640, 3, 3640, 0, 0), (139, .bipush 12, 3, 12, 0, 0), (141, .iload_n 1, 0, 0, 0, 0), (142, .imul, 0, 0, 0, 0), (143, .iadd, 0, 0, 0, 0), (144, .bipush 6, 3, 6, 0, 0), (146, .iadd, 0, 0, 0, 0), (147, .iload 4, 0, 0, 0, 0), (149, .ifCond .eq 7, 0, 156, 0, 0), (152, .iconst 1, 3, 1, 0, 0), (153, .goto 4, 0, 157, 0, 0), (156, .iconst 2, 3, 2, 0, 0), (157, .iastore, 0, 0, 0, 0), (158, .aload_n 0, 0, 0, 0, 0), (159, .getfield 7, 0, 11, 0, 2), (162, .sipush 3640, 3, 3640, 0, 0), (165, .bipush 12, 3, 12, 0, 0), (167, .iload_n 1, 0, 0, 0, 0), (168, .imul, 0, 0, 0, 0), (169, .iadd, 0, 0, 0, 0), (170, .bipush 9, 3, 9, 0, 0), (172, .iadd, 0, 0, 0, 0), (173, .aload_n 0, 0, 0, 0, 0), (174, .getfield 7, 0, 11, 0, 2), (177, .iconst 0, 3, 0, 0, 0), (178, .iaload, 0, 0, 0, 0), (179, .iastore, 0, 0, 0, 0), (180, .aload_n 0, 0, 0, 0, 0), (181, .getfield 7, 0, 11, 0, 2), (184, .sipush 3640, 3, 3640, 0, 0), (187, .bipush 12, 3, 12, 0, 0), (189, .iload_n 1, 0, 0, 0, 0), (190, .imul, 0, 0, 0, 0), (191, .iadd, 0, 0, 0, 0), (192, .bipush 7, 3, 7, 0, 0), (194, .iadd, 0, 0, 0, 0), (195, .iload 4, 0, 0, 0, 0), (197, .ifCond .eq 7, 0, 204, 0, 0), (200, .iconst 0, 3, 0, 0, 0), (201, .goto 14, 0, 215, 0, 0), (204, .aload_n 0, 0, 0, 0, 0), (205, .aload_n 0, 0, 0, 0, 0), (206, .iload_n 1, 0, 0, 0, 0), (207, .iconst 3, 3, 3, 0, 0), (208, .invokevirtual 214, 1, 181, 2, 11), (211, .iload_n 3, 0, 0, 0, 0), (212, .invokevirtual 221, 1, 154, 2, 11), (215, .iastore, 0, 0, 0, 0), (216, .iload 4, 0, 0, 0, 0), (218, .ifCond .ne 7, 0, 225, 0, 0), (221, .iconst 1, 3, 1, 0, 0), (222, .goto 4, 0, 226, 0, 0), (225, .iconst 0, 3, 0, 0, 0), (226, .ireturn, 0, 1, 0, 0)]
set_option maxRecDepth 100000 in
def am_c207 : List am_I := [(0, .aload_n 0, 0, 0, 0, 0), (1, .getfield 7, 0, 11, 0, 2), (4, .iconst 0, 3, 0, 0, 0), (5, .dup2, 0, 0, 0, 0), (6, .iaload, 0, 0, 0, 0), (7, .iconst 1, 3, 1, 0, 0), (8, .iadd, 0, 0, 0, 0), (9, .iastore, 0, 0, 0, 0), (10, .iconst 0, 3, 0, 0, 0), (11, .istore_n 2, 0, 0, 0, 0), (12, .iload_n 2, 0, 0, 0, 0), (13, .aload_n 0, 0, 0, 0, 0), (14, .getfield 7, 0, 11, 0, 2), (17, .iconst 1, 3, 1, 0, 0), (18, .iaload, 0, 0, 0, 0), (19, .if_icmp .ge 60, 0, 79, 0, 0), (22, .aload_n 0, 0, 0, 0, 0), (23, .aload_n 0, 0, 0, 0, 0), (24, .getfield 7, 0, 11, 0, 2), (27, .iconst 0, 3, 0, 0, 0), (28, .iaload, 0, 0, 0, 0), (29, .invokevirtual 283, 1, 153, 1, 11), (32, .ifCond .eq 47, 0, 79, 0, 0), (35, .aload_n 0, 0, 0, 0, 0), (36, .iload_n 2, 0, 0, 0, 0), (37, .invokevirtual 263, 1, 200, 1, 11), (40, .ifCond .eq 33, 0, 73, 0, 0), (43, .aload_n 0, 0, 0, 0, 0), (44, .iload_n 2, 0, 0, 0, 0), (45, .bipush 7, 3, 7, 0, 0), (47, .invokevirtual 214, 1, 181, 2, 11), (50, .ifCond .le 23, 0, 73, 0, 0), (53, .aload_n 0, 0, 0, 0, 0), (54, .getfield 7, 0, 11, 0, 2), (57, .sipush 3640, 3, 3640, 0, 0), (60, .bipush 12, 3, 12, 0, 0), (62, .iload_n 2, 0, 0, 0, 0), (63, .imul, 0, 0, 0, 0), (64, .iadd, 0, 0, 0, 0), (65, .bipush 7, 3, 7, 0, 0), (67, .iadd, 0, 0, 0, 0), (68, .dup2, 0, 0, 0, 0), (69, .iaload, 0, 0, 0, 0), (70, .iconst 1, 3, 1, 0, 0), (71, .isub, 0, 0, 0, 0), (72, .iastore, 0, 0, 0, 0), (73, .iinc 2 1, 3, 1, 0, 0), (76, .goto (-64), 0, 12, 0, 0), (79, .aload_n 0, 0, 0, 0, 0), (80, .aload_n 0, 0, 0, 0, 0), (81, .getfield 7, 0, 11, 0, 2), (84, .iconst 0, 3, 0, 0, 0), (85, .iaload, 0, 0, 0, 0), (86, .invokevirtual 240, 1, 152, 1, 11), (89, .ifCond .ne 5, 0, 94, 0, 0), (92, .iconst 0, 3, 0, 0, 0), (93, .ireturn, 0, 0, 0, 0), (94, .iconst 0, 3, 0, 0, 0), (95, .istore_n 2, 0, 0, 0, 0), (96, .iload_n 2, 0, 0, 0, 0), (97, .aload_n 0, 0, 0, 0, 0), (98, .getfield 7, 0, 11, 0, 2), (101, .iconst 1, 3, 1, 0, 0), (102, .iaload, 0, 0, 0, 0), (103, .if_icmp .ge 63, 0, 166, 0, 0), (106, .aload_n 0, 0, 0, 0, 0), (107, .iload_n 2, 0, 0, 0, 0), (108, .iconst 2, 3, 2, 0, 0), (109, .invokevirtual 273, 1, 203, 2, 11), (112, .ifCond .ne 6, 0, 118, 0, 0), (115, .goto 45, 0, 160, 0, 0), (118, .aload_n 0, 0, 0, 0, 0), (119, .getfield 7, 0, 11, 0, 2), (122, .sipush 3640, 3, 3640, 0, 0), (125, .bipush 12, 3, 12, 0, 0), (127, .iload_n 2, 0, 0, 0, 0), (128, .imul, 0, 0, 0, 0), (129, .iadd, 0, 0, 0, 0), (130, .bipush 6, 3, 6, 0, 0), (132, .iadd, 0, 0, 0, 0), (133, .iconst 3, 3, 3, 0, 0), (134, .iastore, 0, 0, 0, 0), (135, .aload_n 0, 0, 0, 0, 0), (136, .aload_n 0, 0, 0, 0, 0), (137, .iload_n 2, 0, 0, 0, 0), (138, .iconst 2, 3, 2, 0, 0), (139, .invokevirtual 214, 1, 181, 2, 11), (142, .aload_n 0, 0, 0, 0, 0), (143, .iload_n 2, 0, 0, 0, 0), (144, .iconst 3, 3, 3, 0, 0), (145, .invokevirtual 214, 1, 181, 2, 11), (148, .iconst 4, 3, 4, 0, 0), (149, .iload_n 2, 0, 0, 0, 0), (150, .aload_n 0, 0, 0, 0, 0), (151, .iload_n 2, 0, 0, 0, 0), (152, .iconst 4, 3, 4, 0, 0), (153, .invokevirtual 214, 1, 181, 2, 11), (156, .ineg, 0, 0, 0, 0), (157, .invokevirtual 249, 1, 188, 5, 11), (160, .iinc 2 1, 3, 1, 0, 0), (163, .goto (-67), 0, 96, 0, 0), (166, .iconst 0, 3, 0, 0, 0), (167, .istore_n 2, 0, 0, 0, 0), (168, .iconst 0, 3, 0, 0, 0), (169, .istore_n 3, 0, 0, 0, 0), (170, .iload_n 3, 0, 0, 0, 0), (171, .iconst 4, 3, 4, 0, 0), (172, .if_icmp .ge 55, 0, 227, 0, 0), (175, .aload_n 0, 0, 0, 0, 0), (176, .iload_n 3, 0, 0, 0, 0), (177, .iload_n 1, 0, 0, 0, 0), (178, .invokevirtual 286, 1, 205, 2, 11), (181, .iconst 0, 3, 0, 0, 0), (182, .istore 4, 0, 0, 0, 0), (184, .iload 4, 0, 0, 0, 0), (186, .aload_n 0, 0, 0, 0, 0), (187, .getfield 270, 0, 11, 23, 0), (190, .if_icmp .ge 31, 0, 221, 0, 0), (193, .iload_n 2, 0, 0, 0, 0), (194, .aload_n 0, 0, 0, 0, 0), (195, .aload_n 0, 0, 0, 0, 0), (196, .getfield 38, 0, 11, 22, 2), (199, .iload 4, 0, 0, 0, 0), (201, .iaload, 0, 0, 0, 0), (202, .invokevirtual 289, 1, 206, 1, 11), (205, .ifCond .eq 7, 0, 212, 0, 0), (208, .iconst 1, 3, 1, 0, 0), (209, .goto 4, 0, 213, 0, 0), (212, .iconst 0, 3, 0, 0, 0), (213, .iadd, 0, 0, 0, 0), (214, .istore_n 2, 0, 0, 0, 0), (215, .iinc 4 1, 3, 1, 0, 0), (218, .goto (-34), 0, 184, 0, 0), (221, .iinc 3 1, 3, 1, 0, 0), (224, .goto (-54), 0, 170, 0, 0), (227, .iload_n 2, 0, 0, 0, 0), (228, .ireturn, 0, 0, 0, 0)]
set_option maxRecDepth 100000 in
def am_c208 : List am_I := [(0, .aload_n 0, 0, 0, 0, 0), (1, .getfield 7, 0, 11, 0, 2), (4, .iconst 0, 3, 0, 0, 0), (5, .iaload, 0, 0, 0, 0), (6, .bipush 89, 3, 89, 0, 0), (8, .if_icmp .ne 5, 0, 13, 0, 0), (11, .iconst (-1), 3, 1, 1, 0), (12, .ireturn, 0, 0, 0, 0), (13, .aload_n 0, 0, 0, 0, 0), (14, .iconst 0, 3, 0, 0, 0), (15, .invokevirtual 292, 1, 207, 1, 11), (18, .istore_n 1, 0, 0, 0, 0), (19, .aload_n 0, 0, 0, 0, 0), (20, .getfield 7, 0, 11, 0, 2), (23, .iconst 0, 3, 0, 0, 0), (24, .iaload, 0, 0, 0, 0), (25, .istore_n 2, 0, 0, 0, 0), (26, .aload_n 0, 0, 0, 0, 0), (27, .getfield 7, 0, 11, 0, 2), (30, .sipush 282, 3, 282, 0, 0), (33, .iload_n 2, 0, 0, 0, 0), (34, .iadd, 0, 0, 0, 0), (35, .iconst 1, 3, 1, 0, 0), (36, .iastore, 0, 0, 0, 0), (37, .iconst 0, 3, 0, 0, 0), (38, .istore_n 3, 0, 0, 0, 0), (39, .iload_n 3, 0, 0, 0, 0), (40, .bipush 6, 3, 6, 0, 0), (42, .if_icmp .ge 98, 0, 140, 0, 0), (45, .sipush 372, 3, 372, 0, 0), (48, .bipush 36, 3, 36, 0, 0), (50, .iload_n 2, 0, 0, 0, 0), (51, .imul, 0, 0, 0, 0), (52, .iadd, 0, 0, 0, 0), (53, .bipush 6, 3, 6, 0, 0), (55, .iload_n 3, 0, 0, 0, 0), (56, .imul, 0, 0, 0, 0), (57, .iadd, 0, 0, 0, 0), (58, .istore 4, 0, 0, 0, 0), (60, .aload_n 0, 0, 0, 0, 0), (61, .getfield 7, 0, 11, 0, 2), (64, .iload 4, 0, 0, 0, 0), (66, .aload_n 0, 0, 0, 0, 0), (67, .iload_n 3, 0, 0, 0, 0), (68, .invokevirtual 257, 1, 196, 1, 11), (71, .iastore, 0, 0, 0, 0), (72, .aload_n 0, 0, 0, 0, 0), (73, .getfield 7, 0, 11, 0, 2), (76, .iload 4, 0, 0, 0, 0), (78, .iconst 1, 3, 1, 0, 0), (79, .iadd, 0, 0, 0, 0), (80, .aload_n 0, 0, 0, 0, 0), (81, .iload_n 3, 0, 0, 0, 0), (82, .invokevirtual 257, 1, 196, 1, 11), (85, .aload_n 0, 0, 0, 0, 0), (86, .iload_n 3, 0, 0, 0, 0), (87, .invokevirtual 260, 1, 197, 1, 11), (90, .isub, 0, 0, 0, 0), (91, .iastore, 0, 0, 0, 0), (92, .iconst 0, 3, 0, 0, 0), (93, .istore 5, 0, 0, 0, 0), (95, .iload 5, 0, 0, 0, 0), (97, .iconst 4, 3, 4, 0, 0), (98, .if_icmp .ge 36, 0, 134, 0, 0), (101, .aload_n 0, 0, 0, 0, 0), (102, .getfield 7, 0, 11, 0, 2), (105, .iload 4, 0, 0, 0, 0), (107, .iconst 2, 3, 2, 0, 0), (108, .iadd, 0, 0, 0, 0), (109, .iload 5, 0, 0, 0, 0), (111, .iadd, 0, 0, 0, 0), (112, .aload_n 0, 0, 0, 0, 0), (113, .getfield 7, 0, 11, 0, 2), (116, .sipush 210, 3, 210, 0, 0), (119, .iconst 4, 3, 4, 0, 0), (120, .iload_n 3, 0, 0, 0, 0), (121, .imul, 0, 0, 0, 0), (122, .iadd, 0, 0, 0, 0), (123, .iload 5, 0, 0, 0, 0), (125, .iadd, 0, 0, 0, 0), (126, .iaload, 0, 0, 0, 0), (127, .iastore, 0, 0, 0, 0), (128, .iinc 5 1, 3, 1, 0, 0), (131, .goto (-36), 0, 95, 0, 0), (134, .iinc 3 1, 3, 1, 0, 0), (137, .goto (-98), 0, 39, 0, 0), (140, .iconst 0, 3, 0, 0, 0), (141, .istore_n 3, 0, 0, 0, 0), (142, .iload_n 3, 0, 0, 0, 0), (143, .bipush 6, 3, 6, 0, 0), (145, .if_icmp .ge 71, 0, 216, 0, 0), (148, .iconst 0, 3, 0, 0, 0), (149, .istore 4, 0, 0, 0, 0), (151, .iload 4, 0, 0, 0, 0), (153, .iconst 4, 3, 4, 0, 0), (154, .if_icmp .ge 56, 0, 210, 0, 0), (157, .aload_n 0, 0, 0, 0, 0), (158, .getfield 7, 0, 11, 0, 2), (161, .sipush 3612, 3, 3612, 0, 0), (164, .iconst 4, 3, 4, 0, 0), (165, .iload_n 3, 0, 0, 0, 0), (166, .imul, 0, 0, 0, 0), (167, .iadd, 0, 0, 0, 0), (168, .iload 4, 0, 0, 0, 0), (170, .iadd, 0, 0, 0, 0), (171, .iaload, 0, 0, 0, 0), (172, .iconst (-1), 3, 1, 1, 0), (173, .if_icmp .ne 31, 0, 204, 0, 0), (176, .aload_n 0, 0, 0, 0, 0), (177, .iload_n 3, 0, 0, 0, 0), (178, .iconst 1, 3, 1, 0, 0), (179, .iload 4, 0, 0, 0, 0), (181, .ishl, 0, 0, 0, 0), (182, .invokevirtual 295, 1, 220, 2, 11), (185, .ifCond .eq 19, 0, 204, 0, 0), (188, .aload_n 0, 0, 0, 0, 0), (189, .getfield 7, 0, 11, 0, 2), (192, .sipush 3612, 3, 3612, 0, 0), (195, .iconst 4, 3, 4, 0, 0), (196, .iload_n 3, 0, 0, 0, 0), (197, .imul, 0, 0, 0, 0), (198, .iadd, 0, 0, 0, 0), (199, .iload 4, 0, 0, 0, 0), (201, .iadd, 0, 0, 0, 0), (202, .iload_n 2, 0, 0, 0, 0), (203, .iastore, 0, 0, 0, 0), (204, .iinc 4 1, 3, 1, 0, 0), (207, .goto (-56), 0, 151, 0, 0), (210, .iinc 3 1, 3, 1, 0, 0), (213, .goto (-71), 0, 142, 0, 0), (216, .iload_n 1, 0, 0, 0, 0), (217, .ireturn, 0, 0, 0, 0)]
set_option maxRecDepth 100000 in
def am_c209 : List am_I := [(0, .aload_n 0, 0, 0, 0, 0), (1, .iload_n 1, 0, 0, 0, 0), (2, .iload_n 2, 0, 0, 0, 0), (3, .invokevirtual 221, 1, 154, 2, 11), (6, .istore 4, 0, 0, 0, 0), (8, .iload_n 3, 0, 0, 0, 0), (9, .istore 5, 0, 0, 0, 0), (11, .iload 5, 0, 0, 0, 0), (13, .iload_n 3, 0, 0, 0, 0), (14, .if_icmp .eq 17, 0, 31, 0, 0), (17, .iload 4, 0, 0, 0, 0), (19, .ifCond .gt 12, 0, 31, 0, 0), (22, .aload_n 0, 0, 0, 0, 0), (23, .iload 5, 0, 0, 0, 0), (25, .invokevirtual 240, 1, 152, 1, 11), (28, .ifCond .ne 26, 0, 54, 0, 0), (31, .iinc 5 1, 3, 1, 0, 0), (34, .iload 4, 0, 0, 0, 0), (36, .ifCond .le (-25), 0, 11, 0, 0), (39, .aload_n 0, 0, 0, 0, 0), (40, .iload 5, 0, 0, 0, 0), (42, .invokevirtual 283, 1, 153, 1, 11), (45, .ifCond .eq (-34), 0, 11, 0, 0), (48, .iinc 4 (-1), 3, 1, 1, 0), (51, .goto (-40), 0, 11, 0, 0), (54, .iload 5, 0, 0, 0, 0), (56, .iload_n 3, 0, 0, 0, 0), (57, .isub, 0, 0, 0, 0), (58, .ireturn, 0, 0, 0, 0)]
set_option maxRecDepth 100000 in
def am_c210 : List am_I := [(0, .iload_n 1, 0, 0, 0, 0), (1, .iconst 0, 3, 0, 0, 0), (2, .bipush 89, 3, 89, 0, 0), (4, .invokestatic 53, 1, 144, 3, 99), (7, .ifCond .eq 15, 0, 22, 0, 0), (10, .aload_n 0, 0, 0, 0, 0), (11, .iload_n 1, 0, 0, 0, 0), (12, .invokevirtual 240, 1, 152, 1, 11), (15, .ifCond .eq 7, 0, 22, 0, 0), (18, .iconst 1, 3, 1, 0, 0), (19, .goto 4, 0, 23, 0, 0), (22, .iconst 0, 3, 0, 0, 0), (23, .ireturn, 0, 1, 0, 0)]
set_option maxRecDepth 100000 in
def am_c211 : List am_I := [(0, .iload_n 1, 0, 0, 0, 0), (1, .invokestatic 57, 1, 147, 1, 99), (4, .ifCond .eq 28, 0, 32, 0, 0), (7, .iload_n 2, 0, 0, 0, 0), (8, .invokestatic 57, 1, 147, 1, 99), (11, .ifCond .eq 21, 0, 32, 0, 0), (14, .aload_n 0, 0, 0, 0, 0), (15, .iload_n 3, 0, 0, 0, 0), (16, .invokevirtual 298, 1, 210, 1, 11), (19, .ifCond .eq 13, 0, 32, 0, 0), (22, .aload_n 0, 0, 0, 0, 0), (23, .iload_n 1, 0, 0, 0, 0), (24, .iload_n 2, 0, 0, 0, 0), (25, .iload_n 3, 0, 0, 0, 0), (26, .invokevirtual 301, 1, 209, 3, 11), (29, .goto 4, 0, 33, 0, 0), (32, .iconst (-1), 3, 1, 1, 0), (33, .ireturn, 0, 0, 0, 0)]
set_option maxRecDepth 100000 in
def am_c212 : List am_I := [(0, .aload_n 0, 0, 0, 0, 0), (1, .iconst 0, 3, 0, 0, 0), (2, .iload_n 2, 0, 0, 0, 0), (3, .iload_n 3, 0, 0, 0, 0), (4, .aload_n 0, 0, 0, 0, 0), (5, .iload_n 2, 0, 0, 0, 0), (6, .iload_n 1, 0, 0, 0, 0), (7, .invokevirtual 221, 1, 154, 2, 11), (10, .aload_n 0, 0, 0, 0, 0), (11, .iload_n 2, 0, 0, 0, 0), (12, .iload_n 1, 0, 0, 0, 0), (13, .invokevirtual 224, 1, 184, 2, 11), (16, .iload 4, 0, 0, 0, 0), (18, .invokevirtual 228, 1, 183, 6, 11), (21, .aload_n 0, 0, 0, 0, 0), (22, .iload_n 2, 0, 0, 0, 0), (23, .iload_n 1, 0, 0, 0, 0), (24, .iload 4, 0, 0, 0, 0), (26, .invokevirtual 301, 1, 209, 3, 11), (29, .aload_n 0, 0, 0, 0, 0), (30, .getfield 47, 0, 11, 27, 0), (33, .iconst (-1), 3, 1, 1, 0), (34, .if_icmp .ne 12, 0, 46, 0, 0), (37, .aload_n 0, 0, 0, 0, 0), (38, .iload_n 2, 0, 0, 0, 0), (39, .iconst 0, 3, 0, 0, 0), (40, .invokevirtual 246, 1, 180, 2, 11), (43, .goto 7, 0, 50, 0, 0), (46, .aload_n 0, 0, 0, 0, 0), (47, .getfield 47, 0, 11, 27, 0), (50, .isub, 0, 0, 0, 0), (51, .istore 5, 0, 0, 0, 0), (53, .iload 5, 0, 0, 0, 0), (55, .ifCond .le 10, 0, 65, 0, 0), (58, .iload_n 3, 0, 0, 0, 0), (59, .iload 5, 0, 0, 0, 0), (61, .imul, 0, 0, 0, 0), (62, .goto 4, 0, 66, 0, 0), (65, .iconst 0, 3, 0, 0, 0), (66, .ireturn, 0, 0, 0, 0)]
set_option maxRecDepth 100000 in
def am_c213 : List am_I := [(0, .iload_n 2, 0, 0, 0, 0), (1, .iload_n 1, 0, 0, 0, 0), (2, .if_icmp .ne 98, 0, 100, 0, 0), (5, .iconst 0, 3, 0, 0, 0), (6, .istore 6, 0, 0, 0, 0), (8, .iconst 0, 3, 0, 0, 0), (9, .istore 7, 0, 0, 0, 0), (11, .iload 7, 0, 0, 0, 0), (13, .iload_n 1, 0, 0, 0, 0), (14, .if_icmp .ge 40, 0, 54, 0, 0), (17, .iload 6, 0, 0, 0, 0), (19, .aload_n 0, 0, 0, 0, 0), (20, .aload_n 0, 0, 0, 0, 0), (21, .getfield 41, 0, 11, 24, 2), (24, .iload 7, 0, 0, 0, 0), (26, .iaload, 0, 0, 0, 0), (27, .aload_n 0, 0, 0, 0, 0), (28, .getfield 41, 0, 11, 24, 2), (31, .iload 7, 0, 0, 0, 0), (33, .iconst 1, 3, 1, 0, 0), (34, .iadd, 0, 0, 0, 0), (35, .iload_n 1, 0, 0, 0, 0), (36, .irem, 0, 0, 0, 0), (37, .iaload, 0, 0, 0, 0), (38, .iload 4, 0, 0, 0, 0), (40, .iload 5, 0, 0, 0, 0), (42, .invokevirtual 304, 1, 212, 4, 11), (45, .iadd, 0, 0, 0, 0), (46, .istore 6, 0, 0, 0, 0), (48, .iinc 7 1, 3, 1, 0, 0), (51, .goto (-40), 0, 11, 0, 0), (54, .iload 6, 0, 0, 0, 0), (56, .aload_n 0, 0, 0, 0, 0), (57, .getfield 308, 0, 11, 26, 0), (60, .if_icmp .gt 4, 0, 64, 0, 0), (63, .return_, 0, 0, 0, 0), (64, .aload_n 0, 0, 0, 0, 0), (65, .iload 6, 0, 0, 0, 0), (67, .putfield 308, 0, 11, 26, 0), (70, .iconst 0, 3, 0, 0, 0), (71, .istore 7, 0, 0, 0, 0), (73, .iload 7, 0, 0, 0, 0), (75, .iload_n 1, 0, 0, 0, 0), (76, .if_icmp .ge 23, 0, 99, 0, 0), (79, .aload_n 0, 0, 0, 0, 0), (80, .getfield 44, 0, 11, 25, 2), (83, .iload 7, 0, 0, 0, 0), (85, .aload_n 0, 0, 0, 0, 0), (86, .getfield 41, 0, 11, 24, 2), (89, .iload 7, 0, 0, 0, 0), (91, .iaload, 0, 0, 0, 0), (92, .iastore, 0, 0, 0, 0), (93, .iinc 7 1, 3, 1, 0, 0), (96, .goto (-23), 0, 73, 0, 0), (99, .return_, 0, 0, 0, 0), (100, .iconst 0, 3, 0, 0, 0), (101, .istore 6, 0, 0, 0, 0), (103, .iload 6, 0, 0, 0, 0), (105, .iconst 4, 3, 4, 0, 0), (106, .if_icmp .ge 48, 0, 154, 0, 0), (109, .iload_n 3, 0, 0, 0, 0), (110, .iload 6, 0, 0, 0, 0), (112, .ishr, 0, 0, 0, 0), (113, .iconst 1, 3, 1, 0, 0), (114, .iand, 0, 0, 0, 0), (115, .iconst 1, 3, 1, 0, 0), (116, .if_icmp .ne 6, 0, 122, 0, 0), (119, .goto 29, 0, 148, 0, 0), (122, .aload_n 0, 0, 0, 0, 0), (123, .getfield 41, 0, 11, 24, 2), (126, .iload_n 2, 0, 0, 0, 0), (127, .iload 6, 0, 0, 0, 0), (129, .iastore, 0, 0, 0, 0), (130, .aload_n 0, 0, 0, 0, 0), (131, .iload_n 1, 0, 0, 0, 0), (132, .iload_n 2, 0, 0, 0, 0), (133, .iconst 1, 3, 1, 0, 0), (134, .iadd, 0, 0, 0, 0), (135, .iload_n 3, 0, 0, 0, 0), (136, .iconst 1, 3, 1, 0, 0), (137, .iload 6, 0, 0, 0, 0), (139, .ishl, 0, 0, 0, 0), (140, .ior, 0, 0, 0, 0), (141, .iload 4, 0, 0, 0, 0), (143, .iload 5, 0, 0, 0, 0), (145, .invokevirtual 311, 1, 213, 5, 11), (148, .iinc 6 1, 3, 1, 0, 0), (151, .goto (-48), 0, 103, 0, 0), (154, .return_, 0, 0, 0, 0)]
set_option maxRecDepth 100000 in
def am_c214 : List am_I := [(0, .iload_n 1, 0, 0, 0, 0), (1, .iconst 2, 3, 2, 0, 0), (2, .iconst 4, 3, 4, 0, 0), (3, .invokestatic 53, 1, 144, 3, 99), (6, .ifCond .eq 32, 0, 38, 0, 0), (9, .iload_n 2, 0, 0, 0, 0), (10, .iconst 1, 3, 1, 0, 0), (11, .sipush 9999, 3, 9999, 0, 0), (14, .invokestatic 53, 1, 144, 3, 99), (17, .ifCond .eq 21, 0, 38, 0, 0), (20, .aload_n 0, 0, 0, 0, 0), (21, .iload_n 3, 0, 0, 0, 0), (22, .invokevirtual 298, 1, 210, 1, 11), (25, .ifCond .eq 13, 0, 38, 0, 0), (28, .iload 4, 0, 0, 0, 0), (30, .iconst 0, 3, 0, 0, 0), (31, .iconst 1, 3, 1, 0, 0), (32, .invokestatic 53, 1, 144, 3, 99), (35, .ifCond .ne 5, 0, 40, 0, 0), (38, .iconst (-1), 3, 1, 1, 0), (39, .ireturn, 0, 0, 0, 0), (40, .aload_n 0, 0, 0, 0, 0), (41, .iconst (-1), 3, 1, 1, 0), (42, .putfield 308, 0, 11, 26, 0), (45, .aload_n 0, 0, 0, 0, 0), (46, .iload_n 1, 0, 0, 0, 0), (47, .iconst 0, 3, 0, 0, 0), (48, .iconst 0, 3, 0, 0, 0), (49, .iload_n 2, 0, 0, 0, 0), (50, .iload_n 3, 0, 0, 0, 0), (51, .invokevirtual 311, 1, 213, 5, 11), (54, .iload 4, 0, 0, 0, 0), (56, .ifCond .ne 8, 0, 64, 0, 0), (59, .aload_n 0, 0, 0, 0, 0), (60, .getfield 308, 0, 11, 26, 0), (63, .ireturn, 0, 0, 0, 0), (64, .iconst 0, 3, 0, 0, 0), (65, .istore 5, 0, 0, 0, 0), (67, .iconst 0, 3, 0, 0, 0), (68, .istore 6, 0, 0, 0, 0), (70, .iload 6, 0, 0, 0, 0), (72, .iload_n 1, 0, 0, 0, 0), (73, .if_icmp .ge 24, 0, 97, 0, 0), (76, .bipush 10, 3, 10, 0, 0), (78, .iload 5, 0, 0, 0, 0), (80, .imul, 0, 0, 0, 0), (81, .aload_n 0, 0, 0, 0, 0), (82, .getfield 44, 0, 11, 25, 2), (85, .iload 6, 0, 0, 0, 0), (87, .iaload, 0, 0, 0, 0), (88, .iadd, 0, 0, 0, 0), (89, .istore 5, 0, 0, 0, 0), (91, .iinc 6 1, 3, 1, 0, 0), (94, .goto (-24), 0, 70, 0, 0), (97, .iload 5, 0, 0, 0, 0), (99, .ireturn, 0, 0, 0, 0)]
set_option maxRecDepth 100000 in
def am_c215 : List am_I := [(0, .iload 4, 0, 0, 0, 0), (2, .iconst 0, 3, 0, 0, 0), (3, .bipush 20, 3, 20, 0, 0), (5, .invokestatic 53, 1, 144, 3, 99), (8, .ifCond .ne 5, 0, 13, 0, 0), (11, .iconst (-1), 3, 1, 1, 0), (12, .ireturn, 0, 0, 0, 0), (13, .aload_n 0, 0, 0, 0, 0), (14, .iload 4, 0, 0, 0, 0), (16, .putfield 47, 0, 11, 27, 0), (19, .aload_n 0, 0, 0, 0, 0), (20, .iload_n 1, 0, 0, 0, 0), (21, .iload_n 2, 0, 0, 0, 0), (22, .iload_n 3, 0, 0, 0, 0), (23, .iconst 0, 3, 0, 0, 0), (24, .invokevirtual 314, 1, 214, 4, 11), (27, .istore 5, 0, 0, 0, 0), (29, .aload_n 0, 0, 0, 0, 0), (30, .iconst (-1), 3, 1, 1, 0), (31, .putfield 47, 0, 11, 27, 0), (34, .iload 5, 0, 0, 0, 0), (36, .ireturn, 0, 0, 0, 0)]
set_option maxRecDepth 100000 in
def am_c216 : List am_I := [(0, .iload_n 1, 0, 0, 0, 0), (1, .iconst 2, 3, 2, 0, 0), (2, .iconst 4, 3, 4, 0, 0), (3, .invokestatic 53, 1, 144, 3, 99), (6, .ifCond .eq 20, 0, 26, 0, 0), (9, .aload_n 0, 0, 0, 0, 0), (10, .iload_n 2, 0, 0, 0, 0), (11, .invokevirtual 298, 1, 210, 1, 11), (14, .ifCond .eq 12, 0, 26, 0, 0), (17, .iload_n 3, 0, 0, 0, 0), (18, .iconst 0, 3, 0, 0, 0), (19, .iconst 2, 3, 2, 0, 0), (20, .invokestatic 53, 1, 144, 3, 99), (23, .ifCond .ne 5, 0, 28, 0, 0), (26, .iconst (-1), 3, 1, 1, 0), (27, .ireturn, 0, 0, 0, 0), (28, .iconst 0, 3, 0, 0, 0), (29, .istore 4, 0, 0, 0, 0), (31, .iconst 0, 3, 0, 0, 0), (32, .istore 5, 0, 0, 0, 0), (34, .iload 5, 0, 0, 0, 0), (36, .iconst 4, 3, 4, 0, 0), (37, .if_icmp .ge 86, 0, 123, 0, 0), (40, .iconst 0, 3, 0, 0, 0), (41, .istore 6, 0, 0, 0, 0), (43, .iload 6, 0, 0, 0, 0), (45, .iconst 4, 3, 4, 0, 0), (46, .if_icmp .ge 71, 0, 117, 0, 0), (49, .iload 5, 0, 0, 0, 0), (51, .iload 6, 0, 0, 0, 0), (53, .if_icmp .eq 58, 0, 111, 0, 0), (56, .iload_n 3, 0, 0, 0, 0), (57, .ifCond .eq 27, 0, 84, 0, 0), (60, .aload_n 0, 0, 0, 0, 0), (61, .iload 5, 0, 0, 0, 0), (63, .iload 6, 0, 0, 0, 0), (65, .invokevirtual 224, 1, 184, 2, 11), (68, .iload_n 3, 0, 0, 0, 0), (69, .iconst 2, 3, 2, 0, 0), (70, .if_icmp .ne 7, 0, 77, 0, 0), (73, .iconst 1, 3, 1, 0, 0), (74, .goto 4, 0, 78, 0, 0), (77, .iconst 0, 3, 0, 0, 0), (78, .if_icmp .eq 6, 0, 84, 0, 0), (81, .goto 30, 0, 111, 0, 0), (84, .aload_n 0, 0, 0, 0, 0), (85, .iload 5, 0, 0, 0, 0), (87, .iload 6, 0, 0, 0, 0), (89, .iload_n 2, 0, 0, 0, 0), (90, .invokevirtual 301, 1, 209, 3, 11), (93, .istore 7, 0, 0, 0, 0), (95, .iload 7, 0, 0, 0, 0), (97, .iload 4, 0, 0, 0, 0), (99, .if_icmp .le 8, 0, 107, 0, 0), (102, .iload 7, 0, 0, 0, 0), (104, .goto 5, 0, 109, 0, 0), (107, .iload 4, 0, 0, 0, 0), (109, .istore 4, 0, 0, 0, 0), (111, .iinc 6 1, 3, 1, 0, 0), (114, .goto (-71), 0, 43, 0, 0), (117, .iinc 5 1, 3, 1, 0, 0), (120, .goto (-86), 0, 34, 0, 0), (123, .iload 4, 0, 0, 0, 0), (125, .ireturn, 0, 0, 0, 0)]
set_option maxRecDepth 100000 in
def am_c217 : List am_I := [(0, .iload_n 1, 0, 0, 0, 0), (1, .iconst 0, 3, 0, 0, 0), (2, .ldc_w 316, 3, 999999999, 0, 0), (5, .invokestatic 53, 1, 144, 3, 99), (8, .ifCond .eq 24, 0, 32, 0, 0), (11, .iload_n 2, 0, 0, 0, 0), (12, .iconst 0, 3, 0, 0, 0), (13, .sipush 500, 3, 500, 0, 0), (16, .invokestatic 53, 1, 144, 3, 99), (19, .ifCond .eq 13, 0, 32, 0, 0), (22, .iload_n 3, 0, 0, 0, 0), (23, .iconst 0, 3, 0, 0, 0), (24, .bipush 60, 3, 60, 0, 0), (26, .invokestatic 53, 1, 144, 3, 99), (29, .ifCond .ne 5, 0, 34, 0, 0), (32, .iconst (-1), 3, 1, 1, 0), (33, .ireturn, 0, 0, 0, 0), (34, .iload_n 1, 0, 0, 0, 0), (35, .i2l, 0, 0, 0, 0), (36, .lstore 4, 0, 0, 0, 0), (38, .iconst 0, 3, 0, 0, 0), (39, .istore 6, 0, 0, 0, 0), (41, .iload 6, 0, 0, 0, 0), (43, .iload_n 3, 0, 0, 0, 0), (44, .if_icmp .ge 42, 0, 86, 0, 0), (47, .lload 4, 0, 0, 0, 0), (49, .lload 4, 0, 0, 0, 0), (51, .iload_n 2, 0, 0, 0, 0), (52, .i2l, 0, 0, 0, 0), (53, .lmul, 0, 0, 0, 0), (54, .ldc2_w 317, 5, 1000, 0, 0), (57, .ldiv, 0, 0, 0, 0), (58, .ladd, 0, 0, 0, 0), (59, .lstore 4, 0, 0, 0, 0), (61, .lload 4, 0, 0, 0, 0), (63, .ldc2_w 319, 5, 999999999, 0, 0), (66, .lcmp, 0, 0, 0, 0), (67, .ifCond .le 9, 0, 76, 0, 0), (70, .ldc2_w 319, 5, 999999999, 0, 0), (73, .goto 5, 0, 78, 0, 0), (76, .lload 4, 0, 0, 0, 0), (78, .lstore 4, 0, 0, 0, 0), (80, .iinc 6 1, 3, 1, 0, 0), (83, .goto (-42), 0, 41, 0, 0), (86, .lload 4, 0, 0, 0, 0), (88, .l2i, 0, 0, 0, 0), (89, .ireturn, 0, 0, 0, 0)]
set_option maxRecDepth 100000 in
def am_c218 : List am_I := [(0, .iconst 0, 3, 0, 0, 0), (1, .istore_n 2, 0, 0, 0, 0), (2, .iload_n 2, 0, 0, 0, 0), (3, .aload_n 0, 0, 0, 0, 0), (4, .getfield 7, 0, 11, 0, 2), (7, .iconst 1, 3, 1, 0, 0), (8, .iaload, 0, 0, 0, 0), (9, .if_icmp .ge 101, 0, 110, 0, 0), (12, .aload_n 0, 0, 0, 0, 0), (13, .iload_n 2, 0, 0, 0, 0), (14, .iconst 0, 3, 0, 0, 0), (15, .invokevirtual 214, 1, 181, 2, 11), (18, .aload_n 0, 0, 0, 0, 0), (19, .iload_n 1, 0, 0, 0, 0), (20, .iconst 2, 3, 2, 0, 0), (21, .invokevirtual 214, 1, 181, 2, 11), (24, .if_icmp .ne 80, 0, 104, 0, 0), (27, .aload_n 0, 0, 0, 0, 0), (28, .iload_n 2, 0, 0, 0, 0), (29, .iconst 1, 3, 1, 0, 0), (30, .invokevirtual 214, 1, 181, 2, 11), (33, .aload_n 0, 0, 0, 0, 0), (34, .iload_n 1, 0, 0, 0, 0), (35, .iconst 3, 3, 3, 0, 0), (36, .invokevirtual 214, 1, 181, 2, 11), (39, .if_icmp .ne 65, 0, 104, 0, 0), (42, .aload_n 0, 0, 0, 0, 0), (43, .iload_n 2, 0, 0, 0, 0), (44, .bipush 6, 3, 6, 0, 0), (46, .invokevirtual 214, 1, 181, 2, 11), (49, .iconst 1, 3, 1, 0, 0), (50, .if_icmp .ne 54, 0, 104, 0, 0), (53, .aload_n 0, 0, 0, 0, 0), (54, .iload_n 2, 0, 0, 0, 0), (55, .bipush 9, 3, 9, 0, 0), (57, .invokevirtual 214, 1, 181, 2, 11), (60, .aload_n 0, 0, 0, 0, 0), (61, .getfield 7, 0, 11, 0, 2), (64, .iconst 0, 3, 0, 0, 0), (65, .iaload, 0, 0, 0, 0), (66, .bipush 7, 3, 7, 0, 0), (68, .isub, 0, 0, 0, 0), (69, .if_icmp .gt 6, 0, 75, 0, 0), (72, .goto 32, 0, 104, 0, 0), (75, .aload_n 0, 0, 0, 0, 0), (76, .iload_n 2, 0, 0, 0, 0), (77, .iconst 4, 3, 4, 0, 0), (78, .invokevirtual 214, 1, 181, 2, 11), (81, .aload_n 0, 0, 0, 0, 0), (82, .iload_n 1, 0, 0, 0, 0), (83, .iconst 4, 3, 4, 0, 0), (84, .invokevirtual 214, 1, 181, 2, 11), (87, .invokestatic 321, 1, 145, 2, 99), (90, .aload_n 0, 0, 0, 0, 0), (91, .iload_n 1, 0, 0, 0, 0), (92, .iconst 4, 3, 4, 0, 0), (93, .invokevirtual 214, 1, 181, 2, 11), (96, .bipush 10, 3, 10, 0, 0), (98, .idiv, 0, 0, 0, 0), (99, .if_icmp .gt 5, 0, 104, 0, 0), (102, .iconst 1, 3, 1, 0, 0), (103, .ireturn, 0, 1, 0, 0), (104, .iinc 2 1, 3, 1, 0, 0), (107, .goto (-105), 0, 2, 0, 0), (110, .iconst 0, 3, 0, 0, 0), (111, .ireturn, 0, 1, 0, 0)]
set_option maxRecDepth 100000 in
def am_c219 : List am_I := [(0, .iconst 0, 3, 0, 0, 0), (1, .istore_n 3, 0, 0, 0, 0), (2, .iload_n 3, 0, 0, 0, 0), (3, .bipush 12, 3, 12, 0, 0), (5, .if_icmp .ge 16, 0, 21, 0, 0), (8, .aload_n 0, 0, 0, 0, 0), (9, .getfield 31, 0, 11, 8, 2), (12, .iload_n 3, 0, 0, 0, 0), (13, .iconst 0, 3, 0, 0, 0), (14, .iastore, 0, 0, 0, 0), (15, .iinc 3 1, 3, 1, 0, 0), (18, .goto (-16), 0, 2, 0, 0), (21, .iconst 0, 3, 0, 0, 0), (22, .istore_n 3, 0, 0, 0, 0), (23, .iload_n 3, 0, 0, 0, 0), (24, .aload_n 0, 0, 0, 0, 0), (25, .getfield 7, 0, 11, 0, 2), (28, .iconst 1, 3, 1, 0, 0), (29, .iaload, 0, 0, 0, 0), (30, .if_icmp .ge 163, 0, 193, 0, 0), (33, .aload_n 0, 0, 0, 0, 0), (34, .iload_n 3, 0, 0, 0, 0), (35, .iconst 2, 3, 2, 0, 0), (36, .invokevirtual 214, 1, 181, 2, 11), (39, .iload_n 1, 0, 0, 0, 0), (40, .if_icmp .ne 147, 0, 187, 0, 0), (43, .iload_n 2, 0, 0, 0, 0), (44, .aload_n 0, 0, 0, 0, 0), (45, .iload_n 3, 0, 0, 0, 0), (46, .iconst 3, 3, 3, 0, 0), (47, .invokevirtual 214, 1, 181, 2, 11), (50, .ishr, 0, 0, 0, 0), (51, .iconst 1, 3, 1, 0, 0), (52, .iand, 0, 0, 0, 0), (53, .ifCond .eq 134, 0, 187, 0, 0), (56, .aload_n 0, 0, 0, 0, 0), (57, .iload_n 3, 0, 0, 0, 0), (58, .iconst 5, 3, 5, 0, 0), (59, .invokevirtual 214, 1, 181, 2, 11), (62, .aload_n 0, 0, 0, 0, 0), (63, .getfield 7, 0, 11, 0, 2), (66, .iconst 0, 3, 0, 0, 0), (67, .iaload, 0, 0, 0, 0), (68, .bipush 7, 3, 7, 0, 0), (70, .isub, 0, 0, 0, 0), (71, .if_icmp .gt 6, 0, 77, 0, 0), (74, .goto 113, 0, 187, 0, 0), (77, .aload_n 0, 0, 0, 0, 0), (78, .getfield 31, 0, 11, 8, 2), (81, .bipush 8, 3, 8, 0, 0), (83, .dup2, 0, 0, 0, 0), (84, .iaload, 0, 0, 0, 0), (85, .aload_n 0, 0, 0, 0, 0), (86, .iload_n 3, 0, 0, 0, 0), (87, .iconst 4, 3, 4, 0, 0), (88, .invokevirtual 214, 1, 181, 2, 11), (91, .iadd, 0, 0, 0, 0), (92, .iastore, 0, 0, 0, 0), (93, .aload_n 0, 0, 0, 0, 0), (94, .getfield 31, 0, 11, 8, 2), (97, .bipush 7, 3, 7, 0, 0), (99, .dup2, 0, 0, 0, 0), (100, .iaload, 0, 0, 0, 0), (101, .iconst 1, 3, 1, 0, 0), (102, .iadd, 0, 0, 0, 0), (103, .iastore, 0, 0, 0, 0), (104, .aload_n 0, 0, 0, 0, 0), (105, .getfield 31, 0, 11, 8, 2), (108, .bipush 9, 3, 9, 0, 0), (110, .dup2, 0, 0, 0, 0), (111, .iaload, 0, 0, 0, 0), (112, .aload_n 0, 0, 0, 0, 0), (113, .iload_n 3, 0, 0, 0, 0), (114, .iconst 4, 3, 4, 0, 0), (115, .invokevirtual 214, 1, 181, 2, 11), (118, .bipush 100, 3, 100, 0, 0), (120, .irem, 0, 0, 0, 0), (121, .ifCond .ne 7, 0, 128, 0, 0), (124, .iconst 1, 3, 1, 0, 0), (125, .goto 4, 0, 129, 0, 0), (128, .iconst 0, 3, 0, 0, 0), (129, .iadd, 0, 0, 0, 0), (130, .iastore, 0, 0, 0, 0), (131, .aload_n 0, 0, 0, 0, 0), (132, .getfield 31, 0, 11, 8, 2), (135, .iconst 2, 3, 2, 0, 0), (136, .dup2, 0, 0, 0, 0), (137, .iaload, 0, 0, 0, 0), (138, .aload_n 0, 0, 0, 0, 0), (139, .aload_n 0, 0, 0, 0, 0), (140, .iload_n 3, 0, 0, 0, 0), (141, .iconst 3, 3, 3, 0, 0), (142, .invokevirtual 214, 1, 181, 2, 11), (145, .aload_n 0, 0, 0, 0, 0), (146, .iload_n 3, 0, 0, 0, 0), (147, .iconst 1, 3, 1, 0, 0), (148, .invokevirtual 214, 1, 181, 2, 11), (151, .invokevirtual 224, 1, 184, 2, 11), (154, .ifCond .eq 7, 0, 161, 0, 0), (157, .iconst 1, 3, 1, 0, 0), (158, .goto 4, 0, 162, 0, 0), (161, .iconst 0, 3, 0, 0, 0), (162, .iadd, 0, 0, 0, 0), (163, .iastore, 0, 0, 0, 0), (164, .aload_n 0, 0, 0, 0, 0), (165, .getfield 31, 0, 11, 8, 2), (168, .bipush 10, 3, 10, 0, 0), (170, .dup2, 0, 0, 0, 0), (171, .iaload, 0, 0, 0, 0), (172, .aload_n 0, 0, 0, 0, 0), (173, .iload_n 3, 0, 0, 0, 0), (174, .invokevirtual 324, 1, 218, 1, 11), (177, .ifCond .eq 7, 0, 184, 0, 0), (180, .iconst 1, 3, 1, 0, 0), (181, .goto 4, 0, 185, 0, 0), (184, .iconst 0, 3, 0, 0, 0), (185, .iadd, 0, 0, 0, 0), (186, .iastore, 0, 0, 0, 0), (187, .iinc 3 1, 3, 1, 0, 0), (190, .goto (-167), 0, 23, 0, 0), (193, .iconst 0, 3, 0, 0, 0), (194, .istore_n 3, 0, 0, 0, 0), (195, .iload_n 3, 0, 0, 0, 0), (196, .iconst 4, 3, 4, 0, 0), (197, .if_icmp .ge 39, 0, 236, 0, 0), (200, .aload_n 0, 0, 0, 0, 0), (201, .getfield 31, 0, 11, 8, 2), (204, .bipush 6, 3, 6, 0, 0), (206, .dup2, 0, 0, 0, 0), (207, .iaload, 0, 0, 0, 0), (208, .iload_n 2, 0, 0, 0, 0), (209, .iload_n 3, 0, 0, 0, 0), (210, .ishr, 0, 0, 0, 0), (211, .iconst 1, 3, 1, 0, 0), (212, .iand, 0, 0, 0, 0), (213, .aload_n 0, 0, 0, 0, 0), (214, .getfield 7, 0, 11, 0, 2), (217, .sipush 210, 3, 210, 0, 0), (220, .iconst 4, 3, 4, 0, 0), (221, .iload_n 1, 0, 0, 0, 0), (222, .imul, 0, 0, 0, 0), (223, .iadd, 0, 0, 0, 0), (224, .iload_n 3, 0, 0, 0, 0), (225, .iadd, 0, 0, 0, 0), (226, .iaload, 0, 0, 0, 0), (227, .imul, 0, 0, 0, 0), (228, .iadd, 0, 0, 0, 0), (229, .iastore, 0, 0, 0, 0), (230, .iinc 3 1, 3, 1, 0, 0), (233, .goto (-38), 0, 195, 0, 0), (236, .aload_n 0, 0, 0, 0, 0), (237, .getfield 31, 0, 11, 8, 2), (240, .bipush 11, 3, 11, 0, 0), (242, .aload_n 0, 0, 0, 0, 0), (243, .getfield 31, 0, 11, 8, 2), (246, .bipush 6, 3, 6, 0, 0), (248, .iaload, 0, 0, 0, 0), (249, .iastore, 0, 0, 0, 0), (250, .iconst 0, 3, 0, 0, 0), (251, .istore_n 3, 0, 0, 0, 0), (252, .aload_n 0, 0, 0, 0, 0), (253, .getfield 7, 0, 11, 0, 2), (256, .iconst 0, 3, 0, 0, 0), (257, .iaload, 0, 0, 0, 0), (258, .bipush 6, 3, 6, 0, 0), (260, .if_icmp .ge 7, 0, 267, 0, 0), (263, .iconst 0, 3, 0, 0, 0), (264, .goto 12, 0, 276, 0, 0), (267, .aload_n 0, 0, 0, 0, 0), (268, .getfield 7, 0, 11, 0, 2), (271, .iconst 0, 3, 0, 0, 0), (272, .iaload, 0, 0, 0, 0), (273, .bipush 6, 3, 6, 0, 0), (275, .isub, 0, 0, 0, 0), (276, .istore 4, 0, 0, 0, 0), (278, .iload 4, 0, 0, 0, 0), (280, .aload_n 0, 0, 0, 0, 0), (281, .getfield 7, 0, 11, 0, 2), (284, .iconst 0, 3, 0, 0, 0), (285, .iaload, 0, 0, 0, 0), (286, .if_icmp .gt 107, 0, 393, 0, 0), (289, .iconst 0, 3, 0, 0, 0), (290, .istore 5, 0, 0, 0, 0), (292, .iconst 0, 3, 0, 0, 0), (293, .istore 6, 0, 0, 0, 0), (295, .iload 6, 0, 0, 0, 0), (297, .iconst 4, 3, 4, 0, 0), (298, .if_icmp .ge 45, 0, 343, 0, 0), (301, .iload 5, 0, 0, 0, 0), (303, .iload_n 2, 0, 0, 0, 0), (304, .iload 6, 0, 0, 0, 0), (306, .ishr, 0, 0, 0, 0), (307, .iconst 1, 3, 1, 0, 0), (308, .iand, 0, 0, 0, 0), (309, .aload_n 0, 0, 0, 0, 0), (310, .getfield 7, 0, 11, 0, 2), (313, .sipush 372, 3, 372, 0, 0), (316, .bipush 36, 3, 36, 0, 0), (318, .iload 4, 0, 0, 0, 0), (320, .imul, 0, 0, 0, 0), (321, .iadd, 0, 0, 0, 0), (322, .bipush 6, 3, 6, 0, 0), (324, .iload_n 1, 0, 0, 0, 0), (325, .imul, 0, 0, 0, 0), (326, .iadd, 0, 0, 0, 0), (327, .iconst 2, 3, 2, 0, 0), (328, .iadd, 0, 0, 0, 0), (329, .iload 6, 0, 0, 0, 0), (331, .iadd, 0, 0, 0, 0), (332, .iaload, 0, 0, 0, 0), (333, .imul, 0, 0, 0, 0), (334, .iadd, 0, 0, 0, 0), (335, .istore 5, 0, 0, 0, 0), (337, .iinc 6 1, 3, 1, 0, 0), (340, .goto (-45), 0, 295, 0, 0), (343, .aload_n 0, 0, 0, 0, 0), (344, .getfield 7, 0, 11, 0, 2), (347, .sipush 282, 3, 282, 0, 0), (350, .iload 4, 0, 0, 0, 0), (352, .iadd, 0, 0, 0, 0), (353, .iaload, 0, 0, 0, 0), (354, .ifCond .eq 33, 0, 387, 0, 0), (357, .iload_n 3, 0, 0, 0, 0), (358, .ifCond .eq 18, 0, 376, 0, 0), (361, .iload 5, 0, 0, 0, 0), (363, .aload_n 0, 0, 0, 0, 0), (364, .getfield 31, 0, 11, 8, 2), (367, .bipush 11, 3, 11, 0, 0), (369, .iaload, 0, 0, 0, 0), (370, .if_icmp .lt 6, 0, 376, 0, 0), (373, .goto 14, 0, 387, 0, 0), (376, .iconst 1, 3, 1, 0, 0), (377, .istore_n 3, 0, 0, 0, 0), (378, .aload_n 0, 0, 0, 0, 0), (379, .getfield 31, 0, 11, 8, 2), (382, .bipush 11, 3, 11, 0, 0), (384, .iload 5, 0, 0, 0, 0), (386, .iastore, 0, 0, 0, 0), (387, .iinc 4 1, 3, 1, 0, 0), (390, .goto (-112), 0, 278, 0, 0), (393, .return_, 0, 0, 0, 0)]
set_option maxRecDepth 100000 in
def am_c220 : List am_I := [(0, .aload_n 0, 0, 0, 0, 0), (1, .iload_n 1, 0, 0, 0, 0), (2, .iload_n 2, 0, 0, 0, 0), (3, .invokevirtual 327, 1, 219, 2, 11), (6, .iconst 0, 3, 0, 0, 0), (7, .istore_n 3, 0, 0, 0, 0), (8, .iload_n 3, 0, 0, 0, 0), (9, .aload_n 0, 0, 0, 0, 0), (10, .getfield 7, 0, 11, 0, 2), (13, .sipush 5464, 3, 5464, 0, 0), (16, .iaload, 0, 0, 0, 0), (17, .if_icmp .ge 40, 0, 57, 0, 0), (20, .aload_n 0, 0, 0, 0, 0), (21, .iconst 4, 3, 4, 0, 0), (22, .aload_n 0, 0, 0, 0, 0), (23, .getfield 7, 0, 11, 0, 2), (26, .sipush 5638, 3, 5638, 0, 0), (29, .iload_n 3, 0, 0, 0, 0), (30, .iadd, 0, 0, 0, 0), (31, .iaload, 0, 0, 0, 0), (32, .aload_n 0, 0, 0, 0, 0), (33, .getfield 7, 0, 11, 0, 2), (36, .sipush 5698, 3, 5698, 0, 0), (39, .iload_n 3, 0, 0, 0, 0), (40, .iadd, 0, 0, 0, 0), (41, .iaload, 0, 0, 0, 0), (42, .invokevirtual 211, 1, 179, 3, 11), (45, .iconst 1, 3, 1, 0, 0), (46, .if_icmp .ne 5, 0, 51, 0, 0), (49, .iconst 1, 3, 1, 0, 0), (50, .ireturn, 0, 1, 0, 0), (51, .iinc 3 1, 3, 1, 0, 0), (54, .goto (-46), 0, 8, 0, 0), (57, .iconst 0, 3, 0, 0, 0), (58, .ireturn, 0, 1, 0, 0)]
set_option maxRecDepth 100000 in
def am_c221 : List am_I := [(0, .iload_n 1, 0, 0, 0, 0), (1, .invokestatic 236, 1, 148, 1, 99), (4, .ifCond .eq 23, 0, 27, 0, 0), (7, .iload_n 2, 0, 0, 0, 0), (8, .iconst 1, 3, 1, 0, 0), (9, .bipush 15, 3, 15, 0, 0), (11, .invokestatic 53, 1, 144, 3, 99), (14, .ifCond .eq 13, 0, 27, 0, 0), (17, .iload_n 3, 0, 0, 0, 0), (18, .iconst 0, 3, 0, 0, 0), (19, .bipush 7, 3, 7, 0, 0), (21, .invokestatic 53, 1, 144, 3, 99), (24, .ifCond .ne 6, 0, 30, 0, 0), (27, .ldc 235, 3, 100000000, 1, 0), (29, .ireturn, 0, 0, 0, 0), (30, .aload_n 0, 0, 0, 0, 0), (31, .iload_n 1, 0, 0, 0, 0), (32, .iload_n 2, 0, 0, 0, 0), (33, .invokevirtual 295, 1, 220, 2, 11), (36, .istore 4, 0, 0, 0, 0), (38, .iload_n 3, 0, 0, 0, 0), (39, .tableswitch 96 0 6 #[41, 49, 57, 65, 73, 81, 89], 0, 0, 0, 0), (80, .aload_n 0, 0, 0, 0, 0), (81, .getfield 31, 0, 11, 8, 2), (84, .bipush 8, 3, 8, 0, 0), (86, .iaload, 0, 0, 0, 0), (87, .ireturn, 0, 0, 0, 0), (88, .aload_n 0, 0, 0, 0, 0), (89, .getfield 31, 0, 11, 8, 2), (92, .bipush 7, 3, 7, 0, 0), (94, .iaload, 0, 0, 0, 0), (95, .ireturn, 0, 0, 0, 0), (96, .aload_n 0, 0, 0, 0, 0), (97, .getfield 31, 0, 11, 8, 2), (100, .bipush 9, 3, 9, 0, 0), (102, .iaload, 0, 0, 0, 0), (103, .ireturn, 0, 0, 0, 0), (104, .aload_n 0, 0, 0, 0, 0), (105, .getfield 31, 0, 11, 8, 2), (108, .bipush 10, 3, 10, 0, 0), (110, .iaload, 0, 0, 0, 0), (111, .ireturn, 0, 0, 0, 0), (112, .aload_n 0, 0, 0, 0, 0), (113, .getfield 31, 0, 11, 8, 2), (116, .bipush 6, 3, 6, 0, 0), (118, .iaload, 0, 0, 0, 0), (119, .ireturn, 0, 0, 0, 0), (120, .aload_n 0, 0, 0, 0, 0), (121, .getfield 31, 0, 11, 8, 2), (124, .bipush 11, 3, 11, 0, 0), (126, .iaload, 0, 0, 0, 0), (127, .ireturn, 0, 0, 0, 0), (128, .aload_n 0, 0, 0, 0, 0), (129, .getfield 31, 0, 11, 8, 2), (132, .iconst 2, 3, 2, 0, 0), (133, .iaload, 0, 0, 0, 0), (134, .ireturn, 0, 0, 0, 0), (135, .iload 4, 0, 0, 0, 0), (137, .ifCond .eq 7, 0, 144, 0, 0), (140, .iconst 1, 3, 1, 0, 0), (141, .goto 4, 0, 145, 0, 0), (144, .iconst 0, 3, 0, 0, 0), (145, .ireturn, 0, 0, 0, 0)]
set_option maxRecDepth 100000 in
def am_c222 : List am_I := [(0, .iload_n 1, 0, 0, 0, 0), (1, .iconst 0, 3, 0, 0, 0), (2, .bipush 63, 3, 63, 0, 0), (4, .invokestatic 53, 1, 144, 3, 99), (7, .ifCond .ne 5, 0, 12, 0, 0), (10, .iconst 0, 3, 0, 0, 0), (11, .ireturn, 0, 1, 0, 0), (12, .aload_n 0, 0, 0, 0, 0), (13, .getfield 7, 0, 11, 0, 2), (16, .iconst 3, 3, 3, 0, 0), (17, .iload_n 1, 0, 0, 0, 0), (18, .iastore, 0, 0, 0, 0), (19, .iconst 1, 3, 1, 0, 0), (20, .ireturn, 0, 1, 0, 0)]
set_option maxRecDepth 100000 in
def am_c223 : List am_I := [(0, .iconst 0, 3, 0, 0, 0), (1, .istore_n 1, 0, 0, 0, 0), (2, .iconst 0, 3, 0, 0, 0), (3, .istore_n 2, 0, 0, 0, 0), (4, .iload_n 2, 0, 0, 0, 0), (5, .bipush 6, 3, 6, 0, 0), (7, .if_icmp .ge 17, 0, 24, 0, 0), (10, .iload_n 1, 0, 0, 0, 0), (11, .iload_n 0, 0, 0, 0, 0), (12, .iload_n 2, 0, 0, 0, 0), (13, .ishr, 0, 0, 0, 0), (14, .iconst 1, 3, 1, 0, 0), (15, .iand, 0, 0, 0, 0), (16, .iadd, 0, 0, 0, 0), (17, .istore_n 1, 0, 0, 0, 0), (18, .iinc 2 1, 3, 1, 0, 0), (21, .goto (-17), 0, 4, 0, 0), (24, .iload_n 1, 0, 0, 0, 0), (25, .ireturn, 0, 0, 0, 0)]
set_option maxRecDepth 100000 in
def am_c224 : List am_I := [(0, .iload_n 1, 0, 0, 0, 0), (1, .iconst 1, 3, 1, 0, 0), (2, .bipush 15, 3, 15, 0, 0), (4, .invokestatic 53, 1, 144, 3, 99), (7, .ifCond .eq 12, 0, 19, 0, 0), (10, .iload_n 2, 0, 0, 0, 0), (11, .iconst 0, 3, 0, 0, 0), (12, .iconst 4, 3, 4, 0, 0), (13, .invokestatic 53, 1, 144, 3, 99), (16, .ifCond .ne 5, 0, 21, 0, 0), (19, .iconst (-1), 3, 1, 1, 0), (20, .ireturn, 0, 0, 0, 0), (21, .iconst 0, 3, 0, 0, 0), (22, .istore_n 3, 0, 0, 0, 0), (23, .iconst 0, 3, 0, 0, 0), (24, .istore 4, 0, 0, 0, 0), (26, .iload 4, 0, 0, 0, 0), (28, .bipush 6, 3, 6, 0, 0), (30, .if_icmp .ge 30, 0, 60, 0, 0), (33, .iload_n 3, 0, 0, 0, 0), (34, .aload_n 0, 0, 0, 0, 0), (35, .iload 4, 0, 0, 0, 0), (37, .iload_n 1, 0, 0, 0, 0), (38, .invokevirtual 295, 1, 220, 2, 11), (41, .ifCond .eq 10, 0, 51, 0, 0), (44, .iconst 1, 3, 1, 0, 0), (45, .iload 4, 0, 0, 0, 0), (47, .ishl, 0, 0, 0, 0), (48, .goto 4, 0, 52, 0, 0), (51, .iconst 0, 3, 0, 0, 0), (52, .ior, 0, 0, 0, 0), (53, .istore_n 3, 0, 0, 0, 0), (54, .iinc 4 1, 3, 1, 0, 0), (57, .goto (-31), 0, 26, 0, 0), (60, .iload_n 3, 0, 0, 0, 0), (61, .aload_n 0, 0, 0, 0, 0), (62, .getfield 7, 0, 11, 0, 2), (65, .iconst 3, 3, 3, 0, 0), (66, .iaload, 0, 0, 0, 0), (67, .iand, 0, 0, 0, 0), (68, .invokestatic 330, 1, 223, 1, 99), (71, .istore 4, 0, 0, 0, 0), (73, .iload_n 2, 0, 0, 0, 0), (74, .tableswitch 63 0 3 #[30, 32, 35, 49], 0, 0, 0, 0), (104, .iload_n 3, 0, 0, 0, 0), (105, .ireturn, 0, 0, 0, 0), (106, .iload 4, 0, 0, 0, 0), (108, .ireturn, 0, 0, 0, 0), (109, .iload_n 3, 0, 0, 0, 0), (110, .aload_n 0, 0, 0, 0, 0), (111, .getfield 7, 0, 11, 0, 2), (114, .iconst 3, 3, 3, 0, 0), (115, .iaload, 0, 0, 0, 0), (116, .iconst (-1), 3, 1, 1, 0), (117, .ixor, 0, 0, 0, 0), (118, .iand, 0, 0, 0, 0), (119, .invokestatic 330, 1, 223, 1, 99), (122, .ireturn, 0, 0, 0, 0), (123, .aload_n 0, 0, 0, 0, 0), (124, .getfield 7, 0, 11, 0, 2), (127, .iconst 3, 3, 3, 0, 0), (128, .iaload, 0, 0, 0, 0), (129, .iload_n 3, 0, 0, 0, 0), (130, .iconst (-1), 3, 1, 1, 0), (131, .ixor, 0, 0, 0, 0), (132, .iand, 0, 0, 0, 0), (133, .invokestatic 330, 1, 223, 1, 99), (136, .ireturn, 0, 0, 0, 0), (137, .iload_n 3, 0, 0, 0, 0), (138, .ifCond .ne 7, 0, 145, 0, 0), (141, .iconst (-1), 3, 1, 1, 0), (142, .goto 14, 0, 156, 0, 0), (145, .sipush 1000, 3, 1000, 0, 0), (148, .iload 4, 0, 0, 0, 0), (150, .imul, 0, 0, 0, 0), (151, .iload_n 3, 0, 0, 0, 0), (152, .invokestatic 330, 1, 223, 1, 99), (155, .idiv, 0, 0, 0, 0), (156, .ireturn, 0, 0, 0, 0)]
set_option maxRecDepth 100000 in
def am_c225 : List am_I := [(0, .iload_n 1, 0, 0, 0, 0), (1, .invokestatic 236, 1, 148, 1, 99), (4, .ifCond .eq 22, 0, 26, 0, 0), (7, .iload_n 2, 0, 0, 0, 0), (8, .iconst 1, 3, 1, 0, 0), (9, .bipush 15, 3, 15, 0, 0), (11, .invokestatic 53, 1, 144, 3, 99), (14, .ifCond .eq 12, 0, 26, 0, 0), (17, .iload_n 3, 0, 0, 0, 0), (18, .iconst 0, 3, 0, 0, 0), (19, .iconst 1, 3, 1, 0, 0), (20, .invokestatic 53, 1, 144, 3, 99), (23, .ifCond .ne 5, 0, 28, 0, 0), (26, .iconst (-1), 3, 1, 1, 0), (27, .ireturn, 0, 0, 0, 0), (28, .aload_n 0, 0, 0, 0, 0), (29, .iload_n 1, 0, 0, 0, 0), (30, .iload_n 2, 0, 0, 0, 0), (31, .invokevirtual 327, 1, 219, 2, 11), (34, .aload_n 0, 0, 0, 0, 0), (35, .getfield 31, 0, 11, 8, 2), (38, .bipush 8, 3, 8, 0, 0), (40, .iaload, 0, 0, 0, 0), (41, .istore 4, 0, 0, 0, 0), (43, .iconst 0, 3, 0, 0, 0), (44, .istore 5, 0, 0, 0, 0), (46, .iconst 0, 3, 0, 0, 0), (47, .istore 6, 0, 0, 0, 0), (49, .iload 6, 0, 0, 0, 0), (51, .bipush 6, 3, 6, 0, 0), (53, .if_icmp .ge 89, 0, 142, 0, 0), (56, .iload 6, 0, 0, 0, 0), (58, .iload_n 1, 0, 0, 0, 0), (59, .if_icmp .eq 77, 0, 136, 0, 0), (62, .aload_n 0, 0, 0, 0, 0), (63, .getfield 7, 0, 11, 0, 2), (66, .iconst 3, 3, 3, 0, 0), (67, .iaload, 0, 0, 0, 0), (68, .iload 6, 0, 0, 0, 0), (70, .ishr, 0, 0, 0, 0), (71, .iconst 1, 3, 1, 0, 0), (72, .iand, 0, 0, 0, 0), (73, .iconst 1, 3, 1, 0, 0), (74, .if_icmp .ne 6, 0, 80, 0, 0), (77, .goto 59, 0, 136, 0, 0), (80, .aload_n 0, 0, 0, 0, 0), (81, .iload 6, 0, 0, 0, 0), (83, .iload_n 2, 0, 0, 0, 0), (84, .invokevirtual 295, 1, 220, 2, 11), (87, .istore 7, 0, 0, 0, 0), (89, .iload 5, 0, 0, 0, 0), (91, .aload_n 0, 0, 0, 0, 0), (92, .getfield 31, 0, 11, 8, 2), (95, .bipush 8, 3, 8, 0, 0), (97, .iaload, 0, 0, 0, 0), (98, .iload 4, 0, 0, 0, 0), (100, .iconst 2, 3, 2, 0, 0), (101, .idiv, 0, 0, 0, 0), (102, .if_icmp .lt 30, 0, 132, 0, 0), (105, .aload_n 0, 0, 0, 0, 0), (106, .getfield 31, 0, 11, 8, 2), (109, .bipush 8, 3, 8, 0, 0), (111, .iaload, 0, 0, 0, 0), (112, .iconst 2, 3, 2, 0, 0), (113, .iload 4, 0, 0, 0, 0), (115, .imul, 0, 0, 0, 0), (116, .if_icmp .gt 16, 0, 132, 0, 0), (119, .iload_n 3, 0, 0, 0, 0), (120, .ifCond .eq 8, 0, 128, 0, 0), (123, .iload 7, 0, 0, 0, 0), (125, .ifCond .eq 7, 0, 132, 0, 0), (128, .iconst 1, 3, 1, 0, 0), (129, .goto 4, 0, 133, 0, 0), (132, .iconst 0, 3, 0, 0, 0), (133, .iadd, 0, 0, 0, 0), (134, .istore 5, 0, 0, 0, 0), (136, .iinc 6 1, 3, 1, 0, 0), (139, .goto (-90), 0, 49, 0, 0), (142, .iload 5, 0, 0, 0, 0), (144, .ireturn, 0, 0, 0, 0)]
set_option maxRecDepth 100000 in
def am_c226 : List am_I := [(0, .iload_n 1, 0, 0, 0, 0), (1, .invokestatic 236, 1, 148, 1, 99), (4, .ifCond .eq 27, 0, 31, 0, 0), (7, .iload_n 2, 0, 0, 0, 0), (8, .invokestatic 57, 1, 147, 1, 99), (11, .ifCond .eq 20, 0, 31, 0, 0), (14, .aload_n 0, 0, 0, 0, 0), (15, .getfield 7, 0, 11, 0, 2), (18, .sipush 3612, 3, 3612, 0, 0), (21, .iconst 4, 3, 4, 0, 0), (22, .iload_n 1, 0, 0, 0, 0), (23, .imul, 0, 0, 0, 0), (24, .iadd, 0, 0, 0, 0), (25, .iload_n 2, 0, 0, 0, 0), (26, .iadd, 0, 0, 0, 0), (27, .iaload, 0, 0, 0, 0), (28, .goto 4, 0, 32, 0, 0), (31, .iconst (-1), 3, 1, 1, 0), (32, .ireturn, 0, 0, 0, 0)]
set_option maxRecDepth 100000 in
def am_c227 : List am_I := [(0, .iconst 0, 3, 0, 0, 0), (1, .istore_n 2, 0, 0, 0, 0), (2, .iconst 0, 3, 0, 0, 0), (3, .istore_n 3, 0, 0, 0, 0), (4, .iload_n 3, 0, 0, 0, 0), (5, .bipush 6, 3, 6, 0, 0), (7, .if_icmp .ge 48, 0, 55, 0, 0), (10, .iload_n 2, 0, 0, 0, 0), (11, .aload_n 0, 0, 0, 0, 0), (12, .getfield 7, 0, 11, 0, 2), (15, .sipush 210, 3, 210, 0, 0), (18, .iconst 4, 3, 4, 0, 0), (19, .iload_n 3, 0, 0, 0, 0), (20, .imul, 0, 0, 0, 0), (21, .iadd, 0, 0, 0, 0), (22, .iload_n 1, 0, 0, 0, 0), (23, .iadd, 0, 0, 0, 0), (24, .iaload, 0, 0, 0, 0), (25, .ifCond .ge 21, 0, 46, 0, 0), (28, .aload_n 0, 0, 0, 0, 0), (29, .getfield 7, 0, 11, 0, 2), (32, .sipush 210, 3, 210, 0, 0), (35, .iconst 4, 3, 4, 0, 0), (36, .iload_n 3, 0, 0, 0, 0), (37, .imul, 0, 0, 0, 0), (38, .iadd, 0, 0, 0, 0), (39, .iload_n 1, 0, 0, 0, 0), (40, .iadd, 0, 0, 0, 0), (41, .iaload, 0, 0, 0, 0), (42, .ineg, 0, 0, 0, 0), (43, .goto 4, 0, 47, 0, 0), (46, .iconst 0, 3, 0, 0, 0), (47, .iadd, 0, 0, 0, 0), (48, .istore_n 2, 0, 0, 0, 0), (49, .iinc 3 1, 3, 1, 0, 0), (52, .goto (-48), 0, 4, 0, 0), (55, .iload_n 2, 0, 0, 0, 0), (56, .ireturn, 0, 0, 0, 0)]
set_option maxRecDepth 100000 in
def am_c228 : List am_I := [(0, .iconst 0, 3, 0, 0, 0), (1, .istore_n 1, 0, 0, 0, 0), (2, .iconst 0, 3, 0, 0, 0), (3, .istore_n 2, 0, 0, 0, 0), (4, .iload_n 2, 0, 0, 0, 0), (5, .iconst 4, 3, 4, 0, 0), (6, .if_icmp .ge 17, 0, 23, 0, 0), (9, .iload_n 1, 0, 0, 0, 0), (10, .aload_n 0, 0, 0, 0, 0), (11, .iload_n 2, 0, 0, 0, 0), (12, .invokevirtual 332, 1, 227, 1, 11), (15, .iadd, 0, 0, 0, 0), (16, .istore_n 1, 0, 0, 0, 0), (17, .iinc 2 1, 3, 1, 0, 0), (20, .goto (-16), 0, 4, 0, 0), (23, .iload_n 1, 0, 0, 0, 0), (24, .ireturn, 0, 0, 0, 0)]
set_option maxRecDepth 100000 in
def am_c229 : List am_I := [(0, .iconst 0, 3, 0, 0, 0), (1, .istore_n 3, 0, 0, 0, 0), (2, .iload_n 3, 0, 0, 0, 0), (3, .sipush 16120, 3, 16120, 0, 0), (6, .if_icmp .ge 21, 0, 27, 0, 0), (9, .aload_n 0, 0, 0, 0, 0), (10, .getfield 16, 0, 11, 2, 2), (13, .iload_n 3, 0, 0, 0, 0), (14, .aload_n 0, 0, 0, 0, 0), (15, .getfield 7, 0, 11, 0, 2), (18, .iload_n 3, 0, 0, 0, 0), (19, .iaload, 0, 0, 0, 0), (20, .iastore, 0, 0, 0, 0), (21, .iinc 3 1, 3, 1, 0, 0), (24, .goto (-22), 0, 2, 0, 0), (27, .aload_n 0, 0, 0, 0, 0), (28, .iconst 0, 3, 0, 0, 0), (29, .putfield 335, 0, 11, 28, 0), (32, .aload_n 0, 0, 0, 0, 0), (33, .iconst 0, 3, 0, 0, 0), (34, .putfield 338, 0, 11, 29, 0), (37, .aload_n 0, 0, 0, 0, 0), (38, .iconst 0, 3, 0, 0, 0), (39, .invokevirtual 266, 1, 201, 1, 11), (42, .ifCond .le 39, 0, 81, 0, 0), (45, .aload_n 0, 0, 0, 0, 0), (46, .getfield 335, 0, 11, 28, 0), (49, .bipush 40, 3, 40, 0, 0), (51, .if_icmp .ge 30, 0, 81, 0, 0), (54, .aload_n 0, 0, 0, 0, 0), (55, .dup, 0, 0, 0, 0), (56, .getfield 338, 0, 11, 29, 0), (59, .aload_n 0, 0, 0, 0, 0), (60, .iload_n 1, 0, 0, 0, 0), (61, .invokevirtual 292, 1, 207, 1, 11), (64, .iadd, 0, 0, 0, 0), (65, .putfield 338, 0, 11, 29, 0), (68, .aload_n 0, 0, 0, 0, 0), (69, .dup, 0, 0, 0, 0), (70, .getfield 335, 0, 11, 28, 0), (73, .iconst 1, 3, 1, 0, 0), (74, .iadd, 0, 0, 0, 0), (75, .putfield 335, 0, 11, 28, 0), (78, .goto (-41), 0, 37, 0, 0), (81, .iload_n 2, 0, 0, 0, 0), (82, .ifCond .ne 10, 0, 92, 0, 0), (85, .aload_n 0, 0, 0, 0, 0), (86, .getfield 335, 0, 11, 28, 0), (89, .goto 35, 0, 124, 0, 0), (92, .iload_n 2, 0, 0, 0, 0), (93, .iconst 1, 3, 1, 0, 0), (94, .if_icmp .ne 10, 0, 104, 0, 0), (97, .aload_n 0, 0, 0, 0, 0), (98, .getfield 338, 0, 11, 29, 0), (101, .goto 23, 0, 124, 0, 0), (104, .iload_n 2, 0, 0, 0, 0), (105, .iconst 2, 3, 2, 0, 0), (106, .if_icmp .ne 10, 0, 116, 0, 0), (109, .aload_n 0, 0, 0, 0, 0), (110, .invokevirtual 341, 1, 228, 0, 11), (113, .goto 11, 0, 124, 0, 0), (116, .aload_n 0, 0, 0, 0, 0), (117, .iload_n 2, 0, 0, 0, 0), (118, .bipush 10, 3, 10, 0, 0), (120, .isub, 0, 0, 0, 0), (121, .invokevirtual 332, 1, 227, 1, 11), (124, .istore_n 3, 0, 0, 0, 0), (125, .iconst 0, 3, 0, 0, 0), (126, .istore 4, 0, 0, 0, 0), (128, .iload 4, 0, 0, 0, 0), (130, .sipush 16120, 3, 16120, 0, 0), (133, .if_icmp .ge 23, 0, 156, 0, 0), (136, .aload_n 0, 0, 0, 0, 0), (137, .getfield 7, 0, 11, 0, 2), (140, .iload 4, 0, 0, 0, 0), (142, .aload_n 0, 0, 0, 0, 0), (143, .getfield 16, 0, 11, 2, 2), (146, .iload 4, 0, 0, 0, 0), (148, .iaload, 0, 0, 0, 0), (149, .iastore, 0, 0, 0, 0), (150, .iinc 4 1, 3, 1, 0, 0), (153, .goto (-25), 0, 128, 0, 0), (156, .iload_n 3, 0, 0, 0, 0), (157, .ireturn, 0, 0, 0, 0)]
set_option maxRecDepth 100000 in
def am_c230 : List am_I := [(0, .iload_n 1, 0, 0, 0, 0), (1, .iconst (-1), 3, 1, 1, 0), (2, .if_icmp .ne 45, 0, 47, 0, 0), (5, .iconst 0, 3, 0, 0, 0), (6, .istore_n 3, 0, 0, 0, 0), (7, .iconst 1, 3, 1, 0, 0), (8, .istore 4, 0, 0, 0, 0), (10, .iload 4, 0, 0, 0, 0), (12, .iconst 4, 3, 4, 0, 0), (13, .if_icmp .ge 32, 0, 45, 0, 0), (16, .aload_n 0, 0, 0, 0, 0), (17, .iload 4, 0, 0, 0, 0), (19, .iconst 2, 3, 2, 0, 0), (20, .invokevirtual 344, 1, 229, 2, 11), (23, .aload_n 0, 0, 0, 0, 0), (24, .iload_n 3, 0, 0, 0, 0), (25, .iconst 2, 3, 2, 0, 0), (26, .invokevirtual 344, 1, 229, 2, 11), (29, .if_icmp .ge 8, 0, 37, 0, 0), (32, .iload 4, 0, 0, 0, 0), (34, .goto 4, 0, 38, 0, 0), (37, .iload_n 3, 0, 0, 0, 0), (38, .istore_n 3, 0, 0, 0, 0), (39, .iinc 4 1, 3, 1, 0, 0), (42, .goto (-32), 0, 10, 0, 0), (45, .iload_n 3, 0, 0, 0, 0), (46, .ireturn, 0, 0, 0, 0), (47, .iload_n 1, 0, 0, 0, 0), (48, .iconst 0, 3, 0, 0, 0), (49, .iconst 3, 3, 3, 0, 0), (50, .invokestatic 53, 1, 144, 3, 99), (53, .ifCond .eq 32, 0, 85, 0, 0), (56, .iload_n 2, 0, 0, 0, 0), (57, .iconst 0, 3, 0, 0, 0), (58, .iconst 2, 3, 2, 0, 0), (59, .invokestatic 53, 1, 144, 3, 99), (62, .ifCond .ne 14, 0, 76, 0, 0), (65, .iload_n 2, 0, 0, 0, 0), (66, .bipush 10, 3, 10, 0, 0), (68, .bipush 13, 3, 13, 0, 0), (70, .invokestatic 53, 1, 144, 3, 99), (73, .ifCond .eq 12, 0, 85, 0, 0), (76, .aload_n 0, 0, 0, 0, 0), (77, .iload_n 1, 0, 0, 0, 0), (78, .iload_n 2, 0, 0, 0, 0), (79, .invokevirtual 344, 1, 229, 2, 11), (82, .goto 4, 0, 86, 0, 0), (85, .iconst (-1), 3, 1, 1, 0), (86, .ireturn, 0, 0, 0, 0)]
set_option maxRecDepth 100000 in
def am_c231 : List am_I := [(0, .aload_n 0, 0, 0, 0, 0), (1, .iconst 0, 3, 0, 0, 0), (2, .iconst 2, 3, 2, 0, 0), (3, .invokevirtual 344, 1, 229, 2, 11), (6, .istore_n 1, 0, 0, 0, 0), (7, .aload_n 0, 0, 0, 0, 0), (8, .getfield 7, 0, 11, 0, 2), (11, .iconst 0, 3, 0, 0, 0), (12, .iaload, 0, 0, 0, 0), (13, .iconst 1, 3, 1, 0, 0), (14, .iadd, 0, 0, 0, 0), (15, .istore_n 2, 0, 0, 0, 0), (16, .iload_n 2, 0, 0, 0, 0), (17, .aload_n 0, 0, 0, 0, 0), (18, .getfield 7, 0, 11, 0, 2), (21, .iconst 0, 3, 0, 0, 0), (22, .iaload, 0, 0, 0, 0), (23, .bipush 14, 3, 14, 0, 0), (25, .iadd, 0, 0, 0, 0), (26, .if_icmp .gt 65, 0, 91, 0, 0), (29, .iload_n 2, 0, 0, 0, 0), (30, .bipush 90, 3, 90, 0, 0), (32, .if_icmp .ge 59, 0, 91, 0, 0), (35, .aload_n 0, 0, 0, 0, 0), (36, .getfield 7, 0, 11, 0, 2), (39, .bipush 120, 3, 120, 0, 0), (41, .iload_n 2, 0, 0, 0, 0), (42, .iadd, 0, 0, 0, 0), (43, .iaload, 0, 0, 0, 0), (44, .iconst 1, 3, 1, 0, 0), (45, .if_icmp .ne 6, 0, 51, 0, 0), (48, .goto 37, 0, 85, 0, 0), (51, .aload_n 0, 0, 0, 0, 0), (52, .getfield 7, 0, 11, 0, 2), (55, .bipush 120, 3, 120, 0, 0), (57, .iload_n 2, 0, 0, 0, 0), (58, .iadd, 0, 0, 0, 0), (59, .iconst 1, 3, 1, 0, 0), (60, .iastore, 0, 0, 0, 0), (61, .aload_n 0, 0, 0, 0, 0), (62, .iconst 0, 3, 0, 0, 0), (63, .iconst 2, 3, 2, 0, 0), (64, .invokevirtual 344, 1, 229, 2, 11), (67, .istore_n 3, 0, 0, 0, 0), (68, .aload_n 0, 0, 0, 0, 0), (69, .getfield 7, 0, 11, 0, 2), (72, .bipush 120, 3, 120, 0, 0), (74, .iload_n 2, 0, 0, 0, 0), (75, .iadd, 0, 0, 0, 0), (76, .iconst 0, 3, 0, 0, 0), (77, .iastore, 0, 0, 0, 0), (78, .iload_n 3, 0, 0, 0, 0), (79, .iload_n 1, 0, 0, 0, 0), (80, .if_icmp .le 5, 0, 85, 0, 0), (83, .iload_n 2, 0, 0, 0, 0), (84, .ireturn, 0, 0, 0, 0), (85, .iinc 2 1, 3, 1, 0, 0), (88, .goto (-72), 0, 16, 0, 0), (91, .iconst (-1), 3, 1, 1, 0), (92, .ireturn, 0, 0, 0, 0)]
set_option maxRecDepth 100000 in
def am_c232 : List am_I := [(0, .iload_n 1, 0, 0, 0, 0), (1, .ifCond .ne 12, 0, 13, 0, 0), (4, .aload_n 0, 0, 0, 0, 0), (5, .getfield 7, 0, 11, 0, 2), (8, .iconst 2, 3, 2, 0, 0), (9, .iconst 0, 3, 0, 0, 0), (10, .iastore, 0, 0, 0, 0), (11, .iconst 0, 3, 0, 0, 0), (12, .ireturn, 0, 0, 0, 0), (13, .iload_n 1, 0, 0, 0, 0), (14, .iconst 1, 3, 1, 0, 0), (15, .ldc 253, 3, 99999, 0, 0), (17, .invokestatic 53, 1, 144, 3, 99), (20, .ifCond .eq 23, 0, 43, 0, 0), (23, .iload_n 2, 0, 0, 0, 0), (24, .iconst 0, 3, 0, 0, 0), (25, .iconst 2, 3, 2, 0, 0), (26, .invokestatic 53, 1, 144, 3, 99), (29, .ifCond .eq 14, 0, 43, 0, 0), (32, .aload_n 0, 0, 0, 0, 0), (33, .getfield 7, 0, 11, 0, 2), (36, .iconst 2, 3, 2, 0, 0), (37, .iaload, 0, 0, 0, 0), (38, .bipush 6, 3, 6, 0, 0), (40, .if_icmp .ne 5, 0, 45, 0, 0), (43, .iconst (-1), 3, 1, 1, 0), (44, .ireturn, 0, 0, 0, 0), (45, .aload_n 0, 0, 0, 0, 0), (46, .getfield 7, 0, 11, 0, 2), (49, .sipush 5440, 3, 5440, 0, 0), (52, .iconst 2, 3, 2, 0, 0), (53, .aload_n 0, 0, 0, 0, 0), (54, .getfield 7, 0, 11, 0, 2), (57, .iconst 2, 3, 2, 0, 0), (58, .iaload, 0, 0, 0, 0), (59, .imul, 0, 0, 0, 0), (60, .iadd, 0, 0, 0, 0), (61, .iload_n 1, 0, 0, 0, 0), (62, .iastore, 0, 0, 0, 0), (63, .aload_n 0, 0, 0, 0, 0), (64, .getfield 7, 0, 11, 0, 2), (67, .sipush 5440, 3, 5440, 0, 0), (70, .iconst 2, 3, 2, 0, 0), (71, .aload_n 0, 0, 0, 0, 0), (72, .getfield 7, 0, 11, 0, 2), (75, .iconst 2, 3, 2, 0, 0), (76, .iaload, 0, 0, 0, 0), (77, .imul, 0, 0, 0, 0), (78, .iadd, 0, 0, 0, 0), (79, .iconst 1, 3, 1, 0, 0), (80, .iadd, 0, 0, 0, 0), (81, .iload_n 2, 0, 0, 0, 0), (82, .iastore, 0, 0, 0, 0), (83, .aload_n 0, 0, 0, 0, 0), (84, .getfield 7, 0, 11, 0, 2), (87, .iconst 2, 3, 2, 0, 0), (88, .dup2, 0, 0, 0, 0), (89, .iaload, 0, 0, 0, 0), (90, .iconst 1, 3, 1, 0, 0), (91, .iadd, 0, 0, 0, 0), (92, .iastore, 0, 0, 0, 0), (93, .aload_n 0, 0, 0, 0, 0), (94, .getfield 7, 0, 11, 0, 2), (97, .iconst 2, 3, 2, 0, 0), (98, .iaload, 0, 0, 0, 0), (99, .ireturn, 0, 0, 0, 0)]
set_option maxRecDepth 100000 in
def am_c233 : List am_I := [(0, .iconst 0, 3, 0, 0, 0), (1, .istore_n 3, 0, 0, 0, 0), (2, .iload_n 3, 0, 0, 0, 0), (3, .iconst 4, 3, 4, 0, 0), (4, .if_icmp .ge 16, 0, 20, 0, 0), (7, .aload_n 0, 0, 0, 0, 0), (8, .getfield 50, 0, 11, 30, 2), (11, .iload_n 3, 0, 0, 0, 0), (12, .iconst 0, 3, 0, 0, 0), (13, .iastore, 0, 0, 0, 0), (14, .iinc 3 1, 3, 1, 0, 0), (17, .goto (-15), 0, 2, 0, 0), (20, .iconst 0, 3, 0, 0, 0), (21, .istore_n 3, 0, 0, 0, 0), (22, .iconst 0, 3, 0, 0, 0), (23, .istore 4, 0, 0, 0, 0), (25, .iload 4, 0, 0, 0, 0), (27, .aload_n 0, 0, 0, 0, 0), (28, .getfield 7, 0, 11, 0, 2), (31, .iconst 2, 3, 2, 0, 0), (32, .iaload, 0, 0, 0, 0), (33, .if_icmp .ge 97, 0, 130, 0, 0), (36, .iload_n 2, 0, 0, 0, 0), (37, .iconst 2, 3, 2, 0, 0), (38, .aload_n 0, 0, 0, 0, 0), (39, .getfield 7, 0, 11, 0, 2), (42, .iconst 2, 3, 2, 0, 0), (43, .iaload, 0, 0, 0, 0), (44, .iconst 1, 3, 1, 0, 0), (45, .isub, 0, 0, 0, 0), (46, .iload 4, 0, 0, 0, 0), (48, .isub, 0, 0, 0, 0), (49, .imul, 0, 0, 0, 0), (50, .ishr, 0, 0, 0, 0), (51, .iconst 3, 3, 3, 0, 0), (52, .iand, 0, 0, 0, 0), (53, .istore 5, 0, 0, 0, 0), (55, .aload_n 0, 0, 0, 0, 0), (56, .getfield 7, 0, 11, 0, 2), (59, .sipush 5440, 3, 5440, 0, 0), (62, .iconst 2, 3, 2, 0, 0), (63, .iload 4, 0, 0, 0, 0), (65, .imul, 0, 0, 0, 0), (66, .iadd, 0, 0, 0, 0), (67, .iaload, 0, 0, 0, 0), (68, .istore 6, 0, 0, 0, 0), (70, .aload_n 0, 0, 0, 0, 0), (71, .getfield 50, 0, 11, 30, 2), (74, .iload 5, 0, 0, 0, 0), (76, .dup2, 0, 0, 0, 0), (77, .iaload, 0, 0, 0, 0), (78, .iload 6, 0, 0, 0, 0), (80, .iadd, 0, 0, 0, 0), (81, .iastore, 0, 0, 0, 0), (82, .iload_n 3, 0, 0, 0, 0), (83, .iload 6, 0, 0, 0, 0), (85, .aload_n 0, 0, 0, 0, 0), (86, .getfield 7, 0, 11, 0, 2), (89, .bipush 14, 3, 14, 0, 0), (91, .iconst 3, 3, 3, 0, 0), (92, .aload_n 0, 0, 0, 0, 0), (93, .getfield 7, 0, 11, 0, 2), (96, .sipush 5440, 3, 5440, 0, 0), (99, .iconst 2, 3, 2, 0, 0), (100, .iload 4, 0, 0, 0, 0), (102, .imul, 0, 0, 0, 0), (103, .iadd, 0, 0, 0, 0), (104, .iconst 1, 3, 1, 0, 0), (105, .iadd, 0, 0, 0, 0), (106, .iaload, 0, 0, 0, 0), (107, .imul, 0, 0, 0, 0), (108, .iadd, 0, 0, 0, 0), (109, .aload_n 0, 0, 0, 0, 0), (110, .getfield 7, 0, 11, 0, 2), (113, .bipush 10, 3, 10, 0, 0), (115, .iload 5, 0, 0, 0, 0), (117, .iadd, 0, 0, 0, 0), (118, .iaload, 0, 0, 0, 0), (119, .iadd, 0, 0, 0, 0), (120, .iaload, 0, 0, 0, 0), (121, .imul, 0, 0, 0, 0), (122, .iadd, 0, 0, 0, 0), (123, .istore_n 3, 0, 0, 0, 0), (124, .iinc 4 1, 3, 1, 0, 0), (127, .goto (-102), 0, 25, 0, 0), (130, .iconst 0, 3, 0, 0, 0), (131, .istore 4, 0, 0, 0, 0), (133, .iload 4, 0, 0, 0, 0), (135, .iconst 4, 3, 4, 0, 0), (136, .if_icmp .ge 38, 0, 174, 0, 0), (139, .aload_n 0, 0, 0, 0, 0), (140, .getfield 50, 0, 11, 30, 2), (143, .iload 4, 0, 0, 0, 0), (145, .iaload, 0, 0, 0, 0), (146, .ifCond .le 22, 0, 168, 0, 0), (149, .aload_n 0, 0, 0, 0, 0), (150, .getfield 50, 0, 11, 30, 2), (153, .iload 4, 0, 0, 0, 0), (155, .iaload, 0, 0, 0, 0), (156, .aload_n 0, 0, 0, 0, 0), (157, .iload_n 1, 0, 0, 0, 0), (158, .iload 4, 0, 0, 0, 0), (160, .invokevirtual 243, 1, 187, 2, 11), (163, .if_icmp .le 5, 0, 168, 0, 0), (166, .iconst (-1), 3, 1, 1, 0), (167, .ireturn, 0, 0, 0, 0), (168, .iinc 4 1, 3, 1, 0, 0), (171, .goto (-38), 0, 133, 0, 0), (174, .iload_n 3, 0, 0, 0, 0), (175, .ireturn, 0, 0, 0, 0)]
set_option maxRecDepth 100000 in
def am_c234 : List am_I := [(0, .aload_n 0, 0, 0, 0, 0), (1, .getfield 7, 0, 11, 0, 2), (4, .iconst 2, 3, 2, 0, 0), (5, .iaload, 0, 0, 0, 0), (6, .istore_n 3, 0, 0, 0, 0), (7, .iload_n 1, 0, 0, 0, 0), (8, .invokestatic 236, 1, 148, 1, 99), (11, .ifCond .eq 38, 0, 49, 0, 0), (14, .iload_n 2, 0, 0, 0, 0), (15, .iconst 0, 3, 0, 0, 0), (16, .iconst 1, 3, 1, 0, 0), (17, .invokestatic 53, 1, 144, 3, 99), (20, .ifCond .ne 31, 0, 51, 0, 0), (23, .iload_n 2, 0, 0, 0, 0), (24, .bipush 10, 3, 10, 0, 0), (26, .bipush 9, 3, 9, 0, 0), (28, .iload_n 3, 0, 0, 0, 0), (29, .iadd, 0, 0, 0, 0), (30, .invokestatic 53, 1, 144, 3, 99), (33, .ifCond .ne 18, 0, 51, 0, 0), (36, .iload_n 2, 0, 0, 0, 0), (37, .bipush 20, 3, 20, 0, 0), (39, .bipush 19, 3, 19, 0, 0), (41, .iload_n 3, 0, 0, 0, 0), (42, .iadd, 0, 0, 0, 0), (43, .invokestatic 53, 1, 144, 3, 99), (46, .ifCond .ne 5, 0, 51, 0, 0), (49, .iconst (-1), 3, 1, 1, 0), (50, .ireturn, 0, 0, 0, 0), (51, .iload_n 2, 0, 0, 0, 0), (52, .iconst 1, 3, 1, 0, 0), (53, .if_icmp .eq 9, 0, 62, 0, 0), (56, .iload_n 2, 0, 0, 0, 0), (57, .bipush 20, 3, 20, 0, 0), (59, .if_icmp .lt 7, 0, 66, 0, 0), (62, .iconst 1, 3, 1, 0, 0), (63, .goto 4, 0, 67, 0, 0), (66, .iconst 0, 3, 0, 0, 0), (67, .istore 4, 0, 0, 0, 0), (69, .iconst (-1), 3, 1, 1, 0), (70, .istore 5, 0, 0, 0, 0), (72, .iconst (-1), 3, 1, 1, 0), (73, .istore 6, 0, 0, 0, 0), (75, .iconst 0, 3, 0, 0, 0), (76, .istore 7, 0, 0, 0, 0), (78, .iload 7, 0, 0, 0, 0), (80, .iconst 1, 3, 1, 0, 0), (81, .iconst 2, 3, 2, 0, 0), (82, .iload_n 3, 0, 0, 0, 0), (83, .imul, 0, 0, 0, 0), (84, .ishl, 0, 0, 0, 0), (85, .if_icmp .ge 63, 0, 148, 0, 0), (88, .aload_n 0, 0, 0, 0, 0), (89, .iload_n 1, 0, 0, 0, 0), (90, .iload 7, 0, 0, 0, 0), (92, .invokevirtual 347, 1, 233, 2, 11), (95, .istore 8, 0, 0, 0, 0), (97, .iload 8, 0, 0, 0, 0), (99, .iconst (-1), 3, 1, 1, 0), (100, .if_icmp .eq 42, 0, 142, 0, 0), (103, .iload 5, 0, 0, 0, 0), (105, .iconst (-1), 3, 1, 1, 0), (106, .if_icmp .eq 28, 0, 134, 0, 0), (109, .iload 4, 0, 0, 0, 0), (111, .ifCond .eq 13, 0, 124, 0, 0), (114, .iload 8, 0, 0, 0, 0), (116, .iload 6, 0, 0, 0, 0), (118, .if_icmp .lt 16, 0, 134, 0, 0), (121, .goto 21, 0, 142, 0, 0), (124, .iload 8, 0, 0, 0, 0), (126, .iload 6, 0, 0, 0, 0), (128, .if_icmp .gt 6, 0, 134, 0, 0), (131, .goto 11, 0, 142, 0, 0), (134, .iload 7, 0, 0, 0, 0), (136, .istore 5, 0, 0, 0, 0), (138, .iload 8, 0, 0, 0, 0), (140, .istore 6, 0, 0, 0, 0), (142, .iinc 7 1, 3, 1, 0, 0), (145, .goto (-67), 0, 78, 0, 0), (148, .iload_n 2, 0, 0, 0, 0), (149, .iconst 2, 3, 2, 0, 0), (150, .if_icmp .lt 9, 0, 159, 0, 0), (153, .iload 5, 0, 0, 0, 0), (155, .iconst (-1), 3, 1, 1, 0), (156, .if_icmp .ne 6, 0, 162, 0, 0), (159, .iload 6, 0, 0, 0, 0), (161, .ireturn, 0, 0, 0, 0), (162, .iload 5, 0, 0, 0, 0), (164, .iconst 2, 3, 2, 0, 0), (165, .iload_n 3, 0, 0, 0, 0), (166, .iconst 1, 3, 1, 0, 0), (167, .isub, 0, 0, 0, 0), (168, .iload_n 2, 0, 0, 0, 0), (169, .bipush 10, 3, 10, 0, 0), (171, .irem, 0, 0, 0, 0), (172, .isub, 0, 0, 0, 0), (173, .imul, 0, 0, 0, 0), (174, .ishr, 0, 0, 0, 0), (175, .iconst 3, 3, 3, 0, 0), (176, .iand, 0, 0, 0, 0), (177, .ireturn, 0, 0, 0, 0)]
set_option maxRecDepth 100000 in
def am_c235 : List am_I := [(0, .iload_n 1, 0, 0, 0, 0), (1, .iconst 0, 3, 0, 0, 0), (2, .aload_n 0, 0, 0, 0, 0), (3, .getfield 7, 0, 11, 0, 2), (6, .iconst 0, 3, 0, 0, 0), (7, .iaload, 0, 0, 0, 0), (8, .invokestatic 53, 1, 144, 3, 99), (11, .ifCond .eq 12, 0, 23, 0, 0), (14, .iload_n 2, 0, 0, 0, 0), (15, .iconst 0, 3, 0, 0, 0), (16, .iconst 5, 3, 5, 0, 0), (17, .invokestatic 53, 1, 144, 3, 99), (20, .ifCond .ne 6, 0, 26, 0, 0), (23, .ldc 235, 3, 100000000, 1, 0), (25, .ireturn, 0, 0, 0, 0), (26, .iconst 0, 3, 0, 0, 0), (27, .istore_n 3, 0, 0, 0, 0), (28, .iconst 0, 3, 0, 0, 0), (29, .istore 4, 0, 0, 0, 0), (31, .iload 4, 0, 0, 0, 0), (33, .iconst 4, 3, 4, 0, 0), (34, .if_icmp .ge 17, 0, 51, 0, 0), (37, .aload_n 0, 0, 0, 0, 0), (38, .getfield 50, 0, 11, 30, 2), (41, .iload 4, 0, 0, 0, 0), (43, .iconst 0, 3, 0, 0, 0), (44, .iastore, 0, 0, 0, 0), (45, .iinc 4 1, 3, 1, 0, 0), (48, .goto (-17), 0, 31, 0, 0), (51, .iconst 0, 3, 0, 0, 0), (52, .istore 4, 0, 0, 0, 0), (54, .iload 4, 0, 0, 0, 0), (56, .aload_n 0, 0, 0, 0, 0), (57, .getfield 7, 0, 11, 0, 2), (60, .iconst 1, 3, 1, 0, 0), (61, .iaload, 0, 0, 0, 0), (62, .if_icmp .ge 90, 0, 152, 0, 0), (65, .aload_n 0, 0, 0, 0, 0), (66, .iload 4, 0, 0, 0, 0), (68, .bipush 6, 3, 6, 0, 0), (70, .invokevirtual 214, 1, 181, 2, 11), (73, .iconst 1, 3, 1, 0, 0), (74, .if_icmp .ne 72, 0, 146, 0, 0), (77, .aload_n 0, 0, 0, 0, 0), (78, .iload 4, 0, 0, 0, 0), (80, .bipush 9, 3, 9, 0, 0), (82, .invokevirtual 214, 1, 181, 2, 11), (85, .iload_n 1, 0, 0, 0, 0), (86, .if_icmp .eq 6, 0, 92, 0, 0), (89, .goto 57, 0, 146, 0, 0), (92, .iload_n 3, 0, 0, 0, 0), (93, .aload_n 0, 0, 0, 0, 0), (94, .iload 4, 0, 0, 0, 0), (96, .iconst 4, 3, 4, 0, 0), (97, .invokevirtual 214, 1, 181, 2, 11), (100, .iadd, 0, 0, 0, 0), (101, .istore_n 3, 0, 0, 0, 0), (102, .aload_n 0, 0, 0, 0, 0), (103, .getfield 50, 0, 11, 30, 2), (106, .aload_n 0, 0, 0, 0, 0), (107, .iload 4, 0, 0, 0, 0), (109, .iconst 3, 3, 3, 0, 0), (110, .invokevirtual 214, 1, 181, 2, 11), (113, .dup2, 0, 0, 0, 0), (114, .iaload, 0, 0, 0, 0), (115, .aload_n 0, 0, 0, 0, 0), (116, .iload 4, 0, 0, 0, 0), (118, .iconst 4, 3, 4, 0, 0), (119, .invokevirtual 214, 1, 181, 2, 11), (122, .iadd, 0, 0, 0, 0), (123, .iastore, 0, 0, 0, 0), (124, .aload_n 0, 0, 0, 0, 0), (125, .getfield 50, 0, 11, 30, 2), (128, .aload_n 0, 0, 0, 0, 0), (129, .iload 4, 0, 0, 0, 0), (131, .iconst 1, 3, 1, 0, 0), (132, .invokevirtual 214, 1, 181, 2, 11), (135, .dup2, 0, 0, 0, 0), (136, .iaload, 0, 0, 0, 0), (137, .aload_n 0, 0, 0, 0, 0), (138, .iload 4, 0, 0, 0, 0), (140, .iconst 4, 3, 4, 0, 0), (141, .invokevirtual 214, 1, 181, 2, 11), (144, .isub, 0, 0, 0, 0), (145, .iastore, 0, 0, 0, 0), (146, .iinc 4 1, 3, 1, 0, 0), (149, .goto (-95), 0, 54, 0, 0), (152, .iload_n 2, 0, 0, 0, 0), (153, .iconst 4, 3, 4, 0, 0), (154, .if_icmp .ge 10, 0, 164, 0, 0), (157, .aload_n 0, 0, 0, 0, 0), (158, .getfield 50, 0, 11, 30, 2), (161, .iload_n 2, 0, 0, 0, 0), (162, .iaload, 0, 0, 0, 0), (163, .ireturn, 0, 0, 0, 0), (164, .iconst 0, 3, 0, 0, 0), (165, .istore 4, 0, 0, 0, 0), (167, .iconst 0, 3, 0, 0, 0), (168, .istore 5, 0, 0, 0, 0), (170, .iload 5, 0, 0, 0, 0), (172, .iconst 4, 3, 4, 0, 0), (173, .if_icmp .ge 42, 0, 215, 0, 0), (176, .iload 4, 0, 0, 0, 0), (178, .aload_n 0, 0, 0, 0, 0), (179, .getfield 50, 0, 11, 30, 2), (182, .iload 5, 0, 0, 0, 0), (184, .iaload, 0, 0, 0, 0), (185, .ifCond .ge 14, 0, 199, 0, 0), (188, .aload_n 0, 0, 0, 0, 0), (189, .getfield 50, 0, 11, 30, 2), (192, .iload 5, 0, 0, 0, 0), (194, .iaload, 0, 0, 0, 0), (195, .ineg, 0, 0, 0, 0), (196, .goto 10, 0, 206, 0, 0), (199, .aload_n 0, 0, 0, 0, 0), (200, .getfield 50, 0, 11, 30, 2), (203, .iload 5, 0, 0, 0, 0), (205, .iaload, 0, 0, 0, 0), (206, .iadd, 0, 0, 0, 0), (207, .istore 4, 0, 0, 0, 0), (209, .iinc 5 1, 3, 1, 0, 0), (212, .goto (-42), 0, 170, 0, 0), (215, .iload_n 2, 0, 0, 0, 0), (216, .iconst 4, 3, 4, 0, 0), (217, .if_icmp .ne 7, 0, 224, 0, 0), (220, .iload_n 3, 0, 0, 0, 0), (221, .goto 9, 0, 230, 0, 0), (224, .iload_n 3, 0, 0, 0, 0), (225, .iload 4, 0, 0, 0, 0), (227, .iconst 2, 3, 2, 0, 0), (228, .idiv, 0, 0, 0, 0), (229, .isub, 0, 0, 0, 0), (230, .ireturn, 0, 0, 0, 0)]
set_option maxRecDepth 100000 in
def am_c236 : List am_I := [(0, .iload_n 1, 0, 0, 0, 0), (1, .iconst 1, 3, 1, 0, 0), (2, .sipush 1000, 3, 1000, 0, 0), (5, .invokestatic 53, 1, 144, 3, 99), (8, .ifCond .ne 5, 0, 13, 0, 0), (11, .iconst (-1), 3, 1, 1, 0), (12, .ireturn, 0, 0, 0, 0), (13, .iconst 0, 3, 0, 0, 0), (14, .istore_n 2, 0, 0, 0, 0), (15, .iload_n 2, 0, 0, 0, 0), (16, .aload_n 0, 0, 0, 0, 0), (17, .getfield 7, 0, 11, 0, 2), (20, .iconst 0, 3, 0, 0, 0), (21, .iaload, 0, 0, 0, 0), (22, .if_icmp .gt 42, 0, 64, 0, 0), (25, .aload_n 0, 0, 0, 0, 0), (26, .iload_n 2, 0, 0, 0, 0), (27, .iconst 4, 3, 4, 0, 0), (28, .invokevirtual 350, 1, 235, 2, 11), (31, .istore_n 3, 0, 0, 0, 0), (32, .iload_n 3, 0, 0, 0, 0), (33, .ifCond .le 25, 0, 58, 0, 0), (36, .ldc2_w 317, 5, 1000, 0, 0), (39, .aload_n 0, 0, 0, 0, 0), (40, .iload_n 2, 0, 0, 0, 0), (41, .iconst 5, 3, 5, 0, 0), (42, .invokevirtual 350, 1, 235, 2, 11), (45, .i2l, 0, 0, 0, 0), (46, .lmul, 0, 0, 0, 0), (47, .iload_n 3, 0, 0, 0, 0), (48, .i2l, 0, 0, 0, 0), (49, .iload_n 1, 0, 0, 0, 0), (50, .i2l, 0, 0, 0, 0), (51, .lmul, 0, 0, 0, 0), (52, .lcmp, 0, 0, 0, 0), (53, .ifCond .lt 5, 0, 58, 0, 0), (56, .iload_n 2, 0, 0, 0, 0), (57, .ireturn, 0, 0, 0, 0), (58, .iinc 2 1, 3, 1, 0, 0), (61, .goto (-46), 0, 15, 0, 0), (64, .iconst (-1), 3, 1, 1, 0), (65, .ireturn, 0, 0, 0, 0)]
set_option maxRecDepth 100000 in
def am_c237 : List am_I := [(0, .iload_n 1, 0, 0, 0, 0), (1, .invokestatic 57, 1, 147, 1, 99), (4, .ifCond .eq 30, 0, 34, 0, 0), (7, .iload_n 2, 0, 0, 0, 0), (8, .invokestatic 236, 1, 148, 1, 99), (11, .ifCond .eq 23, 0, 34, 0, 0), (14, .iload_n 3, 0, 0, 0, 0), (15, .iconst 0, 3, 0, 0, 0), (16, .ldc 253, 3, 99999, 0, 0), (18, .invokestatic 53, 1, 144, 3, 99), (21, .ifCond .eq 13, 0, 34, 0, 0), (24, .iload 4, 0, 0, 0, 0), (26, .iconst 0, 3, 0, 0, 0), (27, .iconst 1, 3, 1, 0, 0), (28, .invokestatic 53, 1, 144, 3, 99), (31, .ifCond .ne 6, 0, 37, 0, 0), (34, .ldc 235, 3, 100000000, 1, 0), (36, .ireturn, 0, 0, 0, 0), (37, .aload_n 0, 0, 0, 0, 0), (38, .getfield 7, 0, 11, 0, 2), (41, .sipush 234, 3, 234, 0, 0), (44, .iconst 4, 3, 4, 0, 0), (45, .iload_n 2, 0, 0, 0, 0), (46, .imul, 0, 0, 0, 0), (47, .iadd, 0, 0, 0, 0), (48, .iload_n 1, 0, 0, 0, 0), (49, .iadd, 0, 0, 0, 0), (50, .iaload, 0, 0, 0, 0), (51, .aload_n 0, 0, 0, 0, 0), (52, .getfield 7, 0, 11, 0, 2), (55, .sipush 258, 3, 258, 0, 0), (58, .iconst 4, 3, 4, 0, 0), (59, .iload_n 2, 0, 0, 0, 0), (60, .imul, 0, 0, 0, 0), (61, .iadd, 0, 0, 0, 0), (62, .iload_n 1, 0, 0, 0, 0), (63, .iadd, 0, 0, 0, 0), (64, .iaload, 0, 0, 0, 0), (65, .isub, 0, 0, 0, 0), (66, .istore 5, 0, 0, 0, 0), (68, .iconst 0, 3, 0, 0, 0), (69, .istore 6, 0, 0, 0, 0), (71, .iload 6, 0, 0, 0, 0), (73, .aload_n 0, 0, 0, 0, 0), (74, .getfield 7, 0, 11, 0, 2), (77, .iconst 1, 3, 1, 0, 0), (78, .iaload, 0, 0, 0, 0), (79, .if_icmp .ge 111, 0, 190, 0, 0), (82, .aload_n 0, 0, 0, 0, 0), (83, .iload 6, 0, 0, 0, 0), (85, .bipush 6, 3, 6, 0, 0), (87, .invokevirtual 214, 1, 181, 2, 11), (90, .iconst 1, 3, 1, 0, 0), (91, .if_icmp .eq 6, 0, 97, 0, 0), (94, .goto 90, 0, 184, 0, 0), (97, .iload 5, 0, 0, 0, 0), (99, .aload_n 0, 0, 0, 0, 0), (100, .iload 6, 0, 0, 0, 0), (102, .iconst 0, 3, 0, 0, 0), (103, .invokevirtual 214, 1, 181, 2, 11), (106, .iload_n 2, 0, 0, 0, 0), (107, .if_icmp .ne 24, 0, 131, 0, 0), (110, .aload_n 0, 0, 0, 0, 0), (111, .iload 6, 0, 0, 0, 0), (113, .iconst 1, 3, 1, 0, 0), (114, .invokevirtual 214, 1, 181, 2, 11), (117, .iload_n 1, 0, 0, 0, 0), (118, .if_icmp .ne 13, 0, 131, 0, 0), (121, .aload_n 0, 0, 0, 0, 0), (122, .iload 6, 0, 0, 0, 0), (124, .iconst 4, 3, 4, 0, 0), (125, .invokevirtual 214, 1, 181, 2, 11), (128, .goto 4, 0, 132, 0, 0), (131, .iconst 0, 3, 0, 0, 0), (132, .isub, 0, 0, 0, 0), (133, .istore 5, 0, 0, 0, 0), (135, .iload 5, 0, 0, 0, 0), (137, .aload_n 0, 0, 0, 0, 0), (138, .iload 6, 0, 0, 0, 0), (140, .iconst 2, 3, 2, 0, 0), (141, .invokevirtual 214, 1, 181, 2, 11), (144, .iload_n 2, 0, 0, 0, 0), (145, .if_icmp .ne 35, 0, 180, 0, 0), (148, .aload_n 0, 0, 0, 0, 0), (149, .iload 6, 0, 0, 0, 0), (151, .iconst 3, 3, 3, 0, 0), (152, .invokevirtual 214, 1, 181, 2, 11), (155, .iload_n 1, 0, 0, 0, 0), (156, .if_icmp .ne 24, 0, 180, 0, 0), (159, .aload_n 0, 0, 0, 0, 0), (160, .iload 6, 0, 0, 0, 0), (162, .iconst 1, 3, 1, 0, 0), (163, .invokevirtual 214, 1, 181, 2, 11), (166, .iload_n 1, 0, 0, 0, 0), (167, .if_icmp .eq 13, 0, 180, 0, 0), (170, .aload_n 0, 0, 0, 0, 0), (171, .iload 6, 0, 0, 0, 0), (173, .iconst 4, 3, 4, 0, 0), (174, .invokevirtual 214, 1, 181, 2, 11), (177, .goto 4, 0, 181, 0, 0), (180, .iconst 0, 3, 0, 0, 0), (181, .iadd, 0, 0, 0, 0), (182, .istore 5, 0, 0, 0, 0), (184, .iinc 6 1, 3, 1, 0, 0), (187, .goto (-116), 0, 71, 0, 0), (190, .aload_n 0, 0, 0, 0, 0), (191, .getfield 7, 0, 11, 0, 2), (194, .iconst 0, 3, 0, 0, 0), (195, .iaload, 0, 0, 0, 0), (196, .bipush 6, 3, 6, 0, 0), (198, .if_icmp .ge 7, 0, 205, 0, 0), (201, .iconst 0, 3, 0, 0, 0), (202, .goto 12, 0, 214, 0, 0), (205, .aload_n 0, 0, 0, 0, 0), (206, .getfield 7, 0, 11, 0, 2), (209, .iconst 0, 3, 0, 0, 0), (210, .iaload, 0, 0, 0, 0), (211, .bipush 6, 3, 6, 0, 0), (213, .isub, 0, 0, 0, 0), (214, .istore 6, 0, 0, 0, 0), (216, .iload 6, 0, 0, 0, 0), (218, .aload_n 0, 0, 0, 0, 0), (219, .getfield 7, 0, 11, 0, 2), (222, .iconst 0, 3, 0, 0, 0), (223, .iaload, 0, 0, 0, 0), (224, .if_icmp .gt 34, 0, 258, 0, 0), (227, .iload 4, 0, 0, 0, 0), (229, .iconst 1, 3, 1, 0, 0), (230, .if_icmp .ne 28, 0, 258, 0, 0), (233, .iload 5, 0, 0, 0, 0), (235, .aload_n 0, 0, 0, 0, 0), (236, .iload 6, 0, 0, 0, 0), (238, .invokevirtual 240, 1, 152, 1, 11), (241, .ifCond .eq 7, 0, 248, 0, 0), (244, .iload_n 3, 0, 0, 0, 0), (245, .goto 4, 0, 249, 0, 0), (248, .iconst 0, 3, 0, 0, 0), (249, .iadd, 0, 0, 0, 0), (250, .istore 5, 0, 0, 0, 0), (252, .iinc 6 1, 3, 1, 0, 0), (255, .goto (-39), 0, 216, 0, 0), (258, .iload 5, 0, 0, 0, 0), (260, .ireturn, 0, 0, 0, 0)]
set_option maxRecDepth 100000 in
def am_c238 : List am_I := [(0, .iload_n 1, 0, 0, 0, 0), (1, .iconst 0, 3, 0, 0, 0), (2, .bipush 20, 3, 20, 0, 0), (4, .invokestatic 53, 1, 144, 3, 99), (7, .ifCond .ne 5, 0, 12, 0, 0), (10, .iconst (-1), 3, 1, 1, 0), (11, .ireturn, 0, 0, 0, 0), (12, .iconst 0, 3, 0, 0, 0), (13, .istore_n 2, 0, 0, 0, 0), (14, .iconst 0, 3, 0, 0, 0), (15, .istore_n 3, 0, 0, 0, 0), (16, .iload_n 3, 0, 0, 0, 0), (17, .aload_n 0, 0, 0, 0, 0), (18, .getfield 7, 0, 11, 0, 2), (21, .iconst 1, 3, 1, 0, 0), (22, .iaload, 0, 0, 0, 0), (23, .if_icmp .ge 46, 0, 69, 0, 0), (26, .iload_n 2, 0, 0, 0, 0), (27, .aload_n 0, 0, 0, 0, 0), (28, .getfield 7, 0, 11, 0, 2), (31, .iconst 3, 3, 3, 0, 0), (32, .iaload, 0, 0, 0, 0), (33, .aload_n 0, 0, 0, 0, 0), (34, .iload_n 3, 0, 0, 0, 0), (35, .iconst 2, 3, 2, 0, 0), (36, .invokevirtual 214, 1, 181, 2, 11), (39, .ishr, 0, 0, 0, 0), (40, .iconst 1, 3, 1, 0, 0), (41, .iand, 0, 0, 0, 0), (42, .ifCond .ne 18, 0, 60, 0, 0), (45, .aload_n 0, 0, 0, 0, 0), (46, .iload_n 3, 0, 0, 0, 0), (47, .iconst 4, 3, 4, 0, 0), (48, .invokevirtual 214, 1, 181, 2, 11), (51, .iload_n 1, 0, 0, 0, 0), (52, .imul, 0, 0, 0, 0), (53, .sipush 1000, 3, 1000, 0, 0), (56, .idiv, 0, 0, 0, 0), (57, .goto 4, 0, 61, 0, 0), (60, .iconst 0, 3, 0, 0, 0), (61, .iadd, 0, 0, 0, 0), (62, .istore_n 2, 0, 0, 0, 0), (63, .iinc 3 1, 3, 1, 0, 0), (66, .goto (-50), 0, 16, 0, 0), (69, .iload_n 2, 0, 0, 0, 0), (70, .ireturn, 0, 0, 0, 0)]
set_option maxRecDepth 100000 in
def am_c239 : List am_I := [(0, .iload_n 1, 0, 0, 0, 0), (1, .ifCond .ne 12, 0, 13, 0, 0), (4, .aload_n 0, 0, 0, 0, 0), (5, .getfield 353, 0, 11, 3, 1), (8, .ifCond .ne 5, 0, 13, 0, 0), (11, .iconst 0, 3, 0, 0, 0), (12, .ireturn, 0, 1, 0, 0), (13, .iconst 0, 3, 0, 0, 0), (14, .istore_n 2, 0, 0, 0, 0), (15, .iload_n 2, 0, 0, 0, 0), (16, .sipush 16120, 3, 16120, 0, 0), (19, .if_icmp .ge 40, 0, 59, 0, 0), (22, .iload_n 1, 0, 0, 0, 0), (23, .ifCond .eq 18, 0, 41, 0, 0), (26, .aload_n 0, 0, 0, 0, 0), (27, .getfield 13, 0, 11, 1, 2), (30, .iload_n 2, 0, 0, 0, 0), (31, .aload_n 0, 0, 0, 0, 0), (32, .getfield 7, 0, 11, 0, 2), (35, .iload_n 2, 0, 0, 0, 0), (36, .iaload, 0, 0, 0, 0), (37, .iastore, 0, 0, 0, 0), (38, .goto 15, 0, 53, 0, 0), (41, .aload_n 0, 0, 0, 0, 0), (42, .getfield 7, 0, 11, 0, 2), (45, .iload_n 2, 0, 0, 0, 0), (46, .aload_n 0, 0, 0, 0, 0), (47, .getfield 13, 0, 11, 1, 2), (50, .iload_n 2, 0, 0, 0, 0), (51, .iaload, 0, 0, 0, 0), (52, .iastore, 0, 0, 0, 0), (53, .iinc 2 1, 3, 1, 0, 0), (56, .goto (-41), 0, 15, 0, 0), (59, .aload_n 0, 0, 0, 0, 0), (60, .iconst 1, 3, 1, 0, 0), (61, .putfield 353, 0, 11, 3, 1), (64, .iconst 1, 3, 1, 0, 0), (65, .ireturn, 0, 1, 0, 0)]
set_option maxRecDepth 100000 in
def am_c240 : List am_I := [(0, .iload_n 1, 0, 0, 0, 0), (1, .tableswitch 112 0 6 #[43, 50, 57, 64, 71, 90, 103], 0, 0, 0, 0), (44, .aload_n 0, 0, 0, 0, 0), (45, .getfield 7, 0, 11, 0, 2), (48, .iconst 0, 3, 0, 0, 0), (49, .iaload, 0, 0, 0, 0), (50, .ireturn, 0, 0, 0, 0), (51, .aload_n 0, 0, 0, 0, 0), (52, .getfield 7, 0, 11, 0, 2), (55, .iconst 1, 3, 1, 0, 0), (56, .iaload, 0, 0, 0, 0), (57, .ireturn, 0, 0, 0, 0), (58, .aload_n 0, 0, 0, 0, 0), (59, .getfield 7, 0, 11, 0, 2), (62, .iconst 2, 3, 2, 0, 0), (63, .iaload, 0, 0, 0, 0), (64, .ireturn, 0, 0, 0, 0), (65, .aload_n 0, 0, 0, 0, 0), (66, .getfield 7, 0, 11, 0, 2), (69, .iconst 3, 3, 3, 0, 0), (70, .iaload, 0, 0, 0, 0), (71, .ireturn, 0, 0, 0, 0), (72, .aload_n 0, 0, 0, 0, 0), (73, .aload_n 0, 0, 0, 0, 0), (74, .getfield 7, 0, 11, 0, 2), (77, .iconst 0, 3, 0, 0, 0), (78, .iaload, 0, 0, 0, 0), (79, .invokevirtual 240, 1, 152, 1, 11), (82, .ifCond .eq 7, 0, 89, 0, 0), (85, .iconst 1, 3, 1, 0, 0), (86, .goto 4, 0, 90, 0, 0), (89, .iconst 0, 3, 0, 0, 0), (90, .ireturn, 0, 0, 0, 0), (91, .aload_n 0, 0, 0, 0, 0), (92, .getfield 353, 0, 11, 3, 1), (95, .ifCond .eq 7, 0, 102, 0, 0), (98, .iconst 1, 3, 1, 0, 0), (99, .goto 4, 0, 103, 0, 0), (102, .iconst 0, 3, 0, 0, 0), (103, .ireturn, 0, 0, 0, 0), (104, .aload_n 0, 0, 0, 0, 0), (105, .getfield 7, 0, 11, 0, 2), (108, .sipush 9810, 3, 9810, 0, 0), (111, .iaload, 0, 0, 0, 0), (112, .ireturn, 0, 0, 0, 0), (113, .iconst (-1), 3, 1, 1, 0), (114, .ireturn, 0, 0, 0, 0)]
set_option maxRecDepth 100000 in
def am_c241 : List am_I := [(0, .aload_n 0, 0, 0, 0, 0), (1, .getfield 9, 6, 0, 0, 0), (4, .arraylength, 0, 0, 0, 0), (5, .aload_n 0, 0, 0, 0, 0), (6, .invokevirtual 335, 1, 245, 0, 20), (9, .ishr, 0, 0, 0, 0), (10, .ireturn, 0, 0, 0, 0)]
set_option maxRecDepth 100000 in
def am_c242 : List am_I := [(0, .aload_n 0, 0, 0, 0, 0), (1, .invokevirtual 492, 1, 246, 0, 20), (4, .ifCond .eq 12, 0, 16, 0, 0), (7, .aload_n 0, 0, 0, 0, 0), (8, .getfield 9, 6, 0, 0, 0), (11, .iload_n 1, 0, 0, 0, 0), (12, .invokestatic 495, 1, 248, 2, 99), (15, .ireturn, 0, 3, 0, 0), (16, .aload_n 0, 0, 0, 0, 0), (17, .getfield 9, 6, 0, 0, 0), (20, .iload_n 1, 0, 0, 0, 0), (21, .invokestatic 498, 0, 0, 0, 0), (24, .ireturn, 0, 3, 0, 0)]
set_option maxRecDepth 100000 in
def am_c243 : List am_I := [(0, .aload_n 0, 0, 0, 0, 0), (1, .iload_n 1, 0, 0, 0, 0), (2, .iconst 0, 3, 0, 0, 0), (3, .invokevirtual 633, 1, 244, 2, 20), (6, .ireturn, 0, 0, 0, 0)]
set_option maxRecDepth 100000 in
def am_c244 : List am_I := [(0, .aload_n 0, 0, 0, 0, 0), (1, .invokevirtual 492, 1, 246, 0, 20), (4, .ifCond .eq 19, 0, 23, 0, 0), (7, .aload_n 0, 0, 0, 0, 0), (8, .getfield 9, 6, 0, 0, 0), (11, .iload_n 1, 0, 0, 0, 0), (12, .iload_n 2, 0, 0, 0, 0), (13, .aload_n 0, 0, 0, 0, 0), (14, .invokevirtual 505, 1, 241, 0, 20), (17, .invokestatic 637, 1, 250, 4, 99), (20, .goto 16, 0, 36, 0, 0), (23, .aload_n 0, 0, 0, 0, 0), (24, .getfield 9, 6, 0, 0, 0), (27, .iload_n 1, 0, 0, 0, 0), (28, .iload_n 2, 0, 0, 0, 0), (29, .aload_n 0, 0, 0, 0, 0), (30, .invokevirtual 505, 1, 241, 0, 20), (33, .invokestatic 640, 0, 0, 0, 0), (36, .ireturn, 0, 0, 0, 0)]
set_option maxRecDepth 100000 in
def am_c245 : List am_I := [(0, .getstatic 38, 9, 0, 0, 0), (3, .ifCond .eq 10, 0, 13, 0, 0), (6, .aload_n 0, 0, 0, 0, 0), (7, .getfield 15, 6, 1, 0, 0), (10, .goto 4, 0, 14, 0, 0), (13, .iconst 1, 3, 1, 0, 0), (14, .ireturn, 0, 2, 0, 0)]
set_option maxRecDepth 100000 in
def am_c246 : List am_I := [(0, .getstatic 38, 9, 0, 0, 0), (3, .ifCond .eq 14, 0, 17, 0, 0), (6, .aload_n 0, 0, 0, 0, 0), (7, .getfield 15, 6, 1, 0, 0), (10, .ifCond .ne 7, 0, 17, 0, 0), (13, .iconst 1, 3, 1, 0, 0), (14, .goto 4, 0, 18, 0, 0), (17, .iconst 0, 3, 0, 0, 0), (18, .ireturn, 0, 1, 0, 0)]
set_option maxRecDepth 100000 in
def am_c247 : List am_I := [(0, .iload_n 0, 0, 0, 0, 0), (1, .iload_n 1, 0, 0, 0, 0), (2, .getstatic 1053, 9, 1, 0, 0), (5, .invokestatic 1059, 1, 252, 3, 99), (8, .pop, 0, 0, 0, 0), (9, .return_, 0, 0, 0, 0)]
set_option maxRecDepth 100000 in
def am_c248 : List am_I := [(0, .iload_n 1, 0, 0, 0, 0), (1, .aload_n 0, 0, 0, 0, 0), (2, .arraylength, 0, 0, 0, 0), (3, .invokestatic 9, 1, 247, 2, 99), (6, .aload_n 0, 0, 0, 0, 0), (7, .iload_n 1, 0, 0, 0, 0), (8, .baload, 0, 0, 0, 0), (9, .sipush 255, 3, 255, 0, 0), (12, .iand, 0, 0, 0, 0), (13, .i2c, 0, 0, 0, 0), (14, .ireturn, 0, 3, 0, 0)]
set_option maxRecDepth 100000 in
def am_c249 : List am_I := [(0, .iload_n 0, 0, 0, 0, 0), (1, .ifCond .lt 14, 0, 15, 0, 0), (4, .iload_n 0, 0, 0, 0, 0), (5, .sipush 255, 3, 255, 0, 0), (8, .if_icmp .gt 7, 0, 15, 0, 0), (11, .iconst 1, 3, 1, 0, 0), (12, .goto 4, 0, 16, 0, 0), (15, .iconst 0, 3, 0, 0, 0), (16, .ireturn, 0, 1, 0, 0)]
set_option maxRecDepth 100000 in
def am_c250 : List am_I := [(0, .iload_n 1, 0, 0, 0, 0), (1, .invokestatic 88, 1, 249, 1, 99), (4, .ifCond .ne 5, 0, 9, 0, 0), (7, .iconst (-1), 3, 1, 1, 0), (8, .ireturn, 0, 0, 0, 0), (9, .iload_n 2, 0, 0, 0, 0), (10, .iconst 0, 3, 0, 0, 0), (11, .invokestatic 92, 1, 254, 2, 99), (14, .istore_n 2, 0, 0, 0, 0), (15, .iload_n 3, 0, 0, 0, 0), (16, .aload_n 0, 0, 0, 0, 0), (17, .arraylength, 0, 0, 0, 0), (18, .invokestatic 38, 1, 255, 2, 99), (21, .istore_n 3, 0, 0, 0, 0), (22, .iload_n 2, 0, 0, 0, 0), (23, .iload_n 3, 0, 0, 0, 0), (24, .if_icmp .lt 5, 0, 29, 0, 0), (27, .iconst (-1), 3, 1, 1, 0), (28, .ireturn, 0, 0, 0, 0), (29, .aload_n 0, 0, 0, 0, 0), (30, .iload_n 1, 0, 0, 0, 0), (31, .iload_n 2, 0, 0, 0, 0), (32, .iload_n 3, 0, 0, 0, 0), (33, .invokestatic 95, 1, 251, 4, 99), (36, .ireturn, 0, 0, 0, 0)]
set_option maxRecDepth 100000 in
def am_c251 : List am_I := [(0, .iload_n 1, 0, 0, 0, 0), (1, .i2b, 0, 0, 0, 0), (2, .istore 4, 0, 0, 0, 0), (4, .iload_n 2, 0, 0, 0, 0), (5, .istore 5, 0, 0, 0, 0), (7, .iload 5, 0, 0, 0, 0), (9, .iload_n 3, 0, 0, 0, 0), (10, .if_icmp .ge 21, 0, 31, 0, 0), (13, .aload_n 0, 0, 0, 0, 0), (14, .iload 5, 0, 0, 0, 0), (16, .baload, 0, 0, 0, 0), (17, .iload 4, 0, 0, 0, 0), (19, .if_icmp .ne 6, 0, 25, 0, 0), (22, .iload 5, 0, 0, 0, 0), (24, .ireturn, 0, 0, 0, 0), (25, .iinc 5 1, 3, 1, 0, 0), (28, .goto (-21), 0, 7, 0, 0), (31, .iconst (-1), 3, 1, 1, 0), (32, .ireturn, 0, 0, 0, 0)]
set_option maxRecDepth 100000 in
def am_c252 : List am_I := [(0, .iload_n 0, 0, 0, 0, 0), (1, .ifCond .lt 8, 0, 9, 0, 0), (4, .iload_n 0, 0, 0, 0, 0), (5, .iload_n 1, 0, 0, 0, 0), (6, .if_icmp .lt 10, 0, 16, 0, 0), (9, .aload_n 2, 0, 0, 0, 0), (10, .iload_n 0, 0, 0, 0, 0), (11, .iload_n 1, 0, 0, 0, 0), (12, .invokestatic 95, 0, 0, 0, 0), (15, .athrow, 0, 0, 0, 0), (16, .iload_n 0, 0, 0, 0, 0), (17, .ireturn, 0, 0, 0, 0)]
set_option maxRecDepth 100000 in
def am_c253 : List am_I := [(0, .iload_n 0, 0, 0, 0, 0), (1, .ifCond .ge 8, 0, 9, 0, 0), (4, .iload_n 0, 0, 0, 0, 0), (5, .ineg, 0, 0, 0, 0), (6, .goto 4, 0, 10, 0, 0), (9, .iload_n 0, 0, 0, 0, 0), (10, .ireturn, 0, 0, 0, 0)]
set_option maxRecDepth 100000 in
def am_c254 : List am_I := [(0, .iload_n 0, 0, 0, 0, 0), (1, .iload_n 1, 0, 0, 0, 0), (2, .if_icmp .lt 7, 0, 9, 0, 0), (5, .iload_n 0, 0, 0, 0, 0), (6, .goto 4, 0, 10, 0, 0), (9, .iload_n 1, 0, 0, 0, 0), (10, .ireturn, 0, 0, 0, 0)]
set_option maxRecDepth 100000 in
def am_c255 : List am_I := [(0, .iload_n 0, 0, 0, 0, 0), (1, .iload_n 1, 0, 0, 0, 0), (2, .if_icmp .gt 7, 0, 9, 0, 0), (5, .iload_n 0, 0, 0, 0, 0), (6, .goto 4, 0, 10, 0, 0), (9, .iload_n 1, 0, 0, 0, 0), (10, .ireturn, 0, 0, 0, 0)]
set_option maxRecDepth 100000 in
def am_c256 : List am_I := [(0, .lload_n 0, 0, 0, 0, 0), (1, .lload_n 2, 0, 0, 0, 0), (2, .lcmp, 0, 0, 0, 0), (3, .ifCond .gt 7, 0, 10, 0, 0), (6, .lload_n 0, 0, 0, 0, 0), (7, .goto 4, 0, 11, 0, 0), (10, .lload_n 2, 0, 0, 0, 0), (11, .lreturn, 0, 0, 0, 0)]
set_option maxRecDepth 100000 in
def am_c257 : List am_I := [(0, .iload_n 0, 0, 0, 0, 0), (1, .iload_n 0, 0, 0, 0, 0), (2, .iconst 1, 3, 1, 0, 0), (3, .iushr, 0, 0, 0, 0), (4, .ldc_w 265, 3, 1431655765, 0, 0), (7, .iand, 0, 0, 0, 0), (8, .isub, 0, 0, 0, 0), (9, .istore_n 0, 0, 0, 0, 0), (10, .iload_n 0, 0, 0, 0, 0), (11, .ldc_w 266, 3, 858993459, 0, 0), (14, .iand, 0, 0, 0, 0), (15, .iload_n 0, 0, 0, 0, 0), (16, .iconst 2, 3, 2, 0, 0), (17, .iushr, 0, 0, 0, 0), (18, .ldc_w 266, 3, 858993459, 0, 0), (21, .iand, 0, 0, 0, 0), (22, .iadd, 0, 0, 0, 0), (23, .istore_n 0, 0, 0, 0, 0), (24, .iload_n 0, 0, 0, 0, 0), (25, .iload_n 0, 0, 0, 0, 0), (26, .iconst 4, 3, 4, 0, 0), (27, .iushr, 0, 0, 0, 0), (28, .iadd, 0, 0, 0, 0), (29, .ldc_w 267, 3, 252645135, 0, 0), (32, .iand, 0, 0, 0, 0), (33, .istore_n 0, 0, 0, 0, 0), (34, .iload_n 0, 0, 0, 0, 0), (35, .iload_n 0, 0, 0, 0, 0), (36, .bipush 8, 3, 8, 0, 0), (38, .iushr, 0, 0, 0, 0), (39, .iadd, 0, 0, 0, 0), (40, .istore_n 0, 0, 0, 0, 0), (41, .iload_n 0, 0, 0, 0, 0), (42, .iload_n 0, 0, 0, 0, 0), (43, .bipush 16, 3, 16, 0, 0), (45, .iushr, 0, 0, 0, 0), (46, .iadd, 0, 0, 0, 0), (47, .istore_n 0, 0, 0, 0, 0), (48, .iload_n 0, 0, 0, 0, 0), (49, .bipush 63, 3, 63, 0, 0), (51, .iand, 0, 0, 0, 0), (52, .ireturn, 0, 0, 0, 0)]
set_option maxRecDepth 100000 in
def am_p0 : List (Nat × Nat × am_R) := [(0, 3, 8, 0, 0, 0), (0, 9, 0, 0, 0, 2), (0, 15, 0, 0, 1, 2), (0, 18, 0, 0, 2, 2), (0, 21, 0, 0, 3, 2), (0, 24, 10, 0, 0, 0), (0, 26, 0, 0, 4, 2), (0, 30, 0, 0, 5, 0), (0, 24, 2, 5, 0, 0), (0, 34, 1, 60, 0, 98), (0, 35, 7, 0, 0, 0), (0, 41, 1, 66, 1, 5), (0, 45, 1, 133, 1, 99), (0, 49, 1, 6, 2, 0), (0, 53, 1, 4, 1, 0), (0, 56, 1, 3, 1, 0)]
set_option maxRecDepth 100000 in
def am_p1 : List (Nat × Nat × am_R) := [(1, 3, 8, 0, 0, 0), (1, 9, 0, 1, 0, 2), (1, 15, 0, 1, 1, 0), (1, 19, 7, 0, 0, 0)]
set_option maxRecDepth 100000 in
def am_p2 : List (Nat × Nat × am_R) := [(2, 3, 8, 0, 0, 0), (2, 9, 0, 2, 2, 2), (2, 15, 0, 2, 3, 2), (2, 18, 0, 2, 4, 2), (2, 21, 0, 2, 5, 2), (2, 24, 0, 2, 6, 2), (2, 27, 0, 2, 7, 2), (2, 30, 0, 2, 0, 2), (2, 34, 0, 2, 1, 2), (2, 38, 0, 2, 8, 0), (2, 42, 0, 2, 9, 0), (2, 45, 7, 0, 0, 0), (2, 51, 1, 13, 2, 2), (2, 55, 1, 16, 3, 2), (2, 59, 1, 18, 2, 2), (2, 62, 1, 17, 1, 2), (2, 66, 1, 5, 2, 0), (2, 72, 1, 6, 2, 0), (2, 75, 1, 20, 2, 2), (2, 78, 3, 999999, 0, 0), (2, 79, 0, 0, 4, 2), (2, 83, 1, 67, 2, 5), (2, 89, 1, 255, 2, 99), (2, 94, 1, 254, 2, 99), (2, 97, 1, 9, 6, 1), (2, 103, 1, 21, 6, 2), (2, 107, 1, 14, 3, 2), (2, 111, 1, 22, 5, 2), (2, 115, 1, 25, 0, 2), (2, 118, 1, 3, 1, 0), (2, 121, 1, 26, 0, 2), (2, 124, 1, 27, 2, 2), (2, 127, 1, 29, 1, 2), (2, 130, 1, 4, 1, 0), (2, 133, 1, 15, 1, 2), (2, 136, 1, 28, 3, 2), (2, 139, 1, 19, 2, 2), (2, 142, 1, 34, 1, 2)]
set_option maxRecDepth 100000 in
def am_p3 : List (Nat × Nat × am_R) := [(3, 3, 8, 0, 0, 0), (3, 9, 2, 5, 0, 0), (3, 11, 1, 60, 0, 98), (3, 12, 0, 3, 0, 2), (3, 18, 0, 3, 1, 2), (3, 22, 0, 3, 2, 2), (3, 25, 0, 3, 3, 2), (3, 28, 0, 3, 6, 1), (3, 32, 1, 48, 1, 3), (3, 36, 0, 3, 5, 0), (3, 40, 1, 61, 0, 5), (3, 43, 1, 41, 0, 3), (3, 47, 1, 40, 1, 3), (3, 51, 1, 42, 1, 3), (3, 54, 1, 63, 1, 5), (3, 58, 1, 46, 0, 3), (3, 62, 1, 64, 0, 5), (3, 65, 1, 43, 1, 3), (3, 68, 1, 65, 0, 5), (3, 71, 0, 3, 4, 0), (3, 74, 0, 3, 7, 0), (3, 77, 0, 3, 8, 0), (3, 80, 1, 44, 1, 3), (3, 83, 1, 62, 1, 5), (3, 86, 1, 45, 1, 3), (3, 89, 1, 47, 0, 3), (3, 92, 0, 6, 1, 0), (3, 97, 0, 6, 0, 2), (3, 100, 1, 49, 1, 99), (3, 103, 1, 53, 3, 3), (3, 107, 1, 50, 1, 99), (3, 110, 1, 52, 3, 3), (3, 115, 1, 243, 1, 20), (3, 121, 1, 51, 3, 3), (3, 125, 1, 56, 1, 99), (3, 129, 1, 55, 1, 99), (3, 132, 1, 54, 4, 99), (3, 136, 1, 241, 0, 20), (3, 138, 1, 242, 1, 20)]
set_option maxRecDepth 100000 in
def am_p4 : List (Nat × Nat × am_R) := [(4, 3, 8, 0, 0, 0), (4, 9, 0, 4, 0, 2), (4, 15, 0, 4, 1, 2), (4, 18, 0, 4, 2, 0), (4, 22, 0, 4, 3, 0), (4, 25, 1, 59, 2, 4), (4, 29, 1, 257, 1, 99)]
set_option maxRecDepth 100000 in
def am_p5 : List (Nat × Nat × am_R) := [(5, 3, 8, 0, 0, 0), (5, 9, 0, 5, 0, 2), (5, 15, 0, 5, 1, 2), (5, 18, 0, 5, 2, 2), (5, 21, 0, 5, 3, 2), (5, 24, 0, 5, 4, 2), (5, 27, 0, 5, 5, 2), (5, 30, 0, 5, 6, 0), (5, 34, 0, 5, 7, 0), (5, 37, 7, 0, 0, 0), (5, 43, 1, 69, 2, 5), (5, 47, 1, 70, 3, 5)]
set_option maxRecDepth 100000 in
def am_p6 : List (Nat × Nat × am_R) := [(6, 3, 8, 0, 0, 0), (6, 9, 0, 6, 0, 2), (6, 15, 0, 6, 1, 0)]
set_option maxRecDepth 100000 in
def am_p7 : List (Nat × Nat × am_R) := [(7, 3, 8, 0, 0, 0), (7, 9, 0, 7, 1, 2), (7, 15, 0, 7, 0, 2), (7, 19, 1, 78, 2, 7), (7, 23, 0, 9, 0, 2), (7, 29, 0, 0, 4, 2), (7, 35, 1, 68, 1, 5), (7, 41, 1, 74, 2, 7), (7, 45, 0, 9, 4, 2), (7, 48, 0, 9, 2, 2), (7, 52, 0, 2, 8, 0), (7, 58, 0, 2, 9, 0), (7, 61, 1, 79, 3, 7), (7, 65, 1, 13, 2, 2), (7, 69, 1, 80, 3, 7), (7, 72, 1, 5, 2, 0), (7, 75, 0, 2, 3, 2), (7, 78, 1, 81, 3, 7), (7, 82, 1, 17, 1, 2), (7, 86, 1, 253, 1, 99), (7, 92, 1, 254, 2, 99), (7, 95, 1, 91, 3, 9)]
set_option maxRecDepth 100000 in
def am_p8 : List (Nat × Nat × am_R) := [(8, 3, 8, 0, 0, 0), (8, 9, 0, 8, 0, 2), (8, 15, 0, 8, 1, 2), (8, 18, 0, 9, 2, 2), (8, 24, 1, 19, 2, 2), (8, 29, 0, 9, 7, 0), (8, 33, 1, 85, 2, 8), (8, 37, 1, 86, 2, 8), (8, 41, 0, 8, 2, 0), (8, 44, 0, 8, 4, 0), (8, 47, 0, 8, 3, 0), (8, 50, 0, 8, 5, 0), (8, 53, 1, 84, 3, 8), (8, 57, 0, 9, 5, 2), (8, 60, 0, 9, 0, 2), (8, 64, 0, 0, 0, 2), (8, 69, 0, 0, 1, 2), (8, 72, 0, 9, 6, 2)]
set_option maxRecDepth 100000 in
def am_p9 : List (Nat × Nat × am_R) := [(9, 3, 8, 0, 0, 0), (9, 9, 2, 0, 0, 0), (9, 11, 1, 1, 0, 98), (9, 12, 0, 9, 0, 2), (9, 18, 2, 1, 0, 0), (9, 20, 1, 8, 0, 98), (9, 21, 0, 9, 1, 2), (9, 25, 2, 2, 0, 0), (9, 27, 1, 11, 2, 98), (9, 30, 0, 9, 2, 2), (9, 34, 0, 9, 3, 2), (9, 38, 0, 9, 4, 2), (9, 41, 0, 9, 5, 2), (9, 44, 0, 9, 6, 2), (9, 47, 1, 2, 1, 0), (9, 51, 1, 10, 1, 1), (9, 54, 1, 12, 1, 2), (9, 57, 7, 0, 0, 0), (9, 63, 0, 9, 7, 0), (9, 67, 0, 9, 8, 0), (9, 70, 0, 2, 8, 0), (9, 73, 1, 133, 1, 99), (9, 77, 1, 30, 1, 2), (9, 81, 1, 31, 1, 2), (9, 84, 0, 2, 3, 2)]
set_option maxRecDepth 100000 in
def am_p10 : List (Nat × Nat × am_R) := [(10, 3, 8, 0, 0, 0), (10, 9, 2, 6, 0, 0), (10, 11, 1, 71, 0, 98), (10, 12, 0, 10, 0, 2), (10, 16, 2, 3, 0, 0), (10, 18, 1, 38, 0, 98), (10, 19, 0, 10, 1, 2), (10, 23, 2, 9, 0, 0), (10, 25, 1, 87, 0, 98), (10, 26, 0, 10, 2, 2), (10, 30, 0, 10, 3, 2), (10, 33, 2, 2, 0, 0), (10, 35, 0, 9, 0, 2), (10, 39, 1, 11, 2, 98), (10, 42, 0, 10, 4, 2), (10, 46, 2, 7, 0, 0), (10, 48, 1, 73, 1, 98), (10, 51, 0, 10, 5, 2), (10, 55, 2, 4, 0, 0), (10, 57, 1, 57, 0, 98), (10, 58, 0, 10, 6, 2), (10, 62, 2, 8, 0, 0), (10, 64, 1, 82, 0, 98), (10, 65, 0, 10, 7, 2), (10, 69, 0, 10, 8, 2), (10, 73, 0, 10, 11, 0), (10, 77, 1, 130, 1, 99), (10, 81, 1, 132, 1, 99), (10, 84, 0, 9, 2, 2), (10, 87, 0, 2, 9, 0), (10, 90, 0, 0, 0, 2), (10, 95, 0, 0, 1, 2), (10, 98, 1, 133, 1, 99), (10, 101, 0, 2, 8, 0), (10, 104, 0, 0, 2, 2), (10, 107, 0, 0, 3, 2), (10, 110, 0, 6, 1, 0), (10, 113, 1, 72, 1, 6), (10, 117, 0, 10, 10, 0), (10, 120, 1, 39, 2, 3), (10, 124, 0, 3, 7, 0), (10, 127, 0, 3, 8, 0), (10, 130, 0, 0, 4, 2), (10, 134, 0, 3, 0, 2), (10, 138, 1, 66, 1, 5), (10, 144, 0, 5, 6, 0), (10, 147, 1, 131, 1, 99), (10, 150, 3, 999999, 0, 0), (10, 151, 3, 999999, 1, 0), (10, 152, 1, 3, 1, 0), (10, 155, 1, 21, 6, 2), (10, 159, 1, 19, 2, 2), (10, 163, 0, 2, 4, 2), (10, 166, 1, 22, 5, 2), (10, 170, 1, 134, 1, 99), (10, 173, 1, 23, 5, 2), (10, 177, 1, 24, 1, 2), (10, 181, 1, 90, 0, 9), (10, 184, 1, 76, 0, 7), (10, 187, 3, 100000000, 1, 0), (10, 188, 0, 2, 3, 2), (10, 191, 1, 18, 2, 2), (10, 194, 1, 20, 2, 2), (10, 197, 1, 136, 1, 10), (10, 200, 0, 2, 2, 2), (10, 203, 1, 30, 1, 2), (10, 206, 1, 31, 1, 2), (10, 209, 0, 9, 3, 2), (10, 212, 1, 139, 1, 99), (10, 216, 1, 32, 0, 2), (10, 220, 0, 2, 5, 2), (10, 223, 1, 33, 0, 2), (10, 226, 1, 137, 1, 10), (10, 229, 1, 7, 3, 0), (10, 233, 1, 138, 3, 10), (10, 237, 1, 140, 3, 10), (10, 241, 1, 58, 1, 4), (10, 244, 0, 4, 2, 0), (10, 247, 0, 4, 3, 0), (10, 250, 1, 5, 2, 0), (10, 254, 1, 254, 2, 99), (10, 259, 1, 36, 1, 2), (10, 262, 1, 13, 2, 2), (10, 265, 0, 9, 1, 2), (10, 269, 0, 1, 1, 0), (10, 272, 0, 1, 0, 2), (10, 273, 3, 999999999, 0, 0), (10, 274, 5, 999999999, 0, 0), (10, 276, 5, 1000, 0, 0), (10, 278, 1, 256, 2, 99), (10, 282, 1, 135, 1, 99), (10, 285, 1, 74, 2, 7), (10, 288, 1, 78, 2, 7), (10, 292, 0, 7, 1, 2), (10, 295, 0, 9, 8, 0), (10, 298, 1, 75, 1, 7), (10, 301, 1, 257, 1, 99), (10, 306, 1, 77, 2, 7), (10, 309, 1, 89, 1, 9), (10, 312, 0, 9, 4, 2), (10, 315, 1, 141, 1, 10), (10, 318, 1, 34, 1, 2), (10, 321, 0, 10, 13, 0), (10, 324, 0, 10, 14, 0), (10, 327, 1, 255, 2, 99), (10, 329, 1, 4, 1, 0), (10, 332, 0, 0, 5, 0), (10, 335, 0, 9, 7, 0), (10, 338, 0, 9, 5, 2), (10, 341, 0, 9, 6, 2), (10, 344, 1, 83, 2, 8), (10, 347, 0, 8, 2, 0), (10, 348, 0, 8, 3, 0), (10, 351, 0, 8, 4, 0), (10, 354, 1, 84, 3, 8), (10, 357, 0, 8, 5, 0), (10, 360, 1, 142, 1, 10), (10, 363, 0, 10, 12, 0), (10, 366, 1, 143, 0, 10), (10, 369, 3, 99999, 0, 0), (10, 370, 1, 37, 2, 2), (10, 373, 1, 88, 1, 9), (10, 375, 0, 10, 9, 1), (10, 379, 0, 4, 0, 2), (10, 382, 1, 12, 1, 2), (10, 385, 1, 35, 0, 2), (10, 388, 1, 253, 1, 99)]
set_option maxRecDepth 100000 in
def am_p11 : List (Nat × Nat × am_R) := [(11, 1, 8, 0, 0, 0), (11, 7, 0, 11, 0, 2), (11, 13, 0, 11, 1, 2), (11, 16, 0, 11, 2, 2), (11, 19, 0, 11, 4, 2), (11, 22, 0, 11, 5, 2), (11, 25, 0, 11, 6, 2), (11, 28, 0, 11, 7, 2), (11, 31, 0, 11, 8, 2), (11, 34, 0, 11, 21, 0), (11, 38, 0, 11, 22, 2), (11, 41, 0, 11, 24, 2), (11, 44, 0, 11, 25, 2), (11, 47, 0, 11, 27, 0), (11, 50, 0, 11, 30, 2), (11, 53, 1, 144, 3, 99), (11, 57, 1, 147, 1, 99), (11, 61, 0, 11, 12, 0), (11, 64, 0, 11, 13, 0), (11, 67, 0, 11, 15, 0), (11, 70, 1, 241, 0, 20), (11, 76, 1, 242, 1, 20), (11, 82, 1, 160, 1, 11), (11, 122, 0, 11, 9, 0), (11, 125, 1, 161, 0, 11), (11, 128, 1, 162, 0, 11), (11, 131, 1, 157, 1, 11), (11, 135, 0, 11, 14, 0), (11, 138, 1, 158, 1, 99), (11, 141, 1, 163, 0, 11), (11, 144, 1, 159, 1, 99), (11, 147, 0, 11, 16, 0), (11, 150, 0, 11, 17, 0), (11, 153, 0, 11, 18, 0), (11, 156, 1, 165, 1, 11), (11, 159, 1, 164, 0, 11), (11, 162, 0, 11, 11, 0), (11, 165, 0, 11, 20, 0), (11, 168, 1, 170, 0, 11), (11, 172, 1, 167, 2, 11), (11, 176, 1, 171, 0, 11), (11, 179, 1, 173, 0, 11), (11, 182, 1, 174, 0, 11), (11, 185, 1, 168, 0, 11), (11, 188, 1, 172, 0, 11), (11, 191, 1, 166, 1, 11), (11, 194, 1, 169, 0, 11), (11, 197, 0, 11, 10, 0), (11, 200, 0, 11, 19, 0), (11, 203, 1, 175, 0, 11), (11, 206, 1, 178, 3, 99), (11, 210, 3, 999999, 0, 0), (11, 211, 1, 179, 3, 11), (11, 214, 1, 181, 2, 11), (11, 218, 1, 182, 2, 11), (11, 221, 1, 154, 2, 11), (11, 224, 1, 184, 2, 11), (11, 228, 1, 183, 6, 11), (11, 232, 1, 186, 2, 11), (11, 235, 3, 100000000, 1, 0), (11, 236, 1, 148, 1, 99), (11, 239, 3, 999999, 1, 0), (11, 240, 1, 152, 1, 11), (11, 243, 1, 187, 2, 11), (11, 246, 1, 180, 2, 11), (11, 249, 1, 188, 5, 11), (11, 253, 3, 99999, 0, 0), (11, 254, 1, 194, 1, 11), (11, 257, 1, 196, 1, 11), (11, 260, 1, 197, 1, 11), (11, 263, 1, 200, 1, 11), (11, 266, 1, 201, 1, 11), (11, 270, 0, 11, 23, 0), (11, 273, 1, 203, 2, 11), (11, 276, 1, 204, 3, 11), (11, 279, 1, 185, 3, 11), (11, 283, 1, 153, 1, 11), (11, 286, 1, 205, 2, 11), (11, 289, 1, 206, 1, 11), (11, 292, 1, 207, 1, 11), (11, 295, 1, 220, 2, 11), (11, 298, 1, 210, 1, 11), (11, 301, 1, 209, 3, 11), (11, 304, 1, 212, 4, 11), (11, 308, 0, 11, 26, 0), (11, 311, 1, 213, 5, 11), (11, 314, 1, 214, 4, 11), (11, 316, 3, 999999999, 0, 0), (11, 317, 5, 1000, 0, 0), (11, 319, 5, 999999999, 0, 0), (11, 321, 1, 145, 2, 99), (11, 324, 1, 218, 1, 11), (11, 327, 1, 219, 2, 11), (11, 330, 1, 223, 1, 99), (11, 332, 1, 227, 1, 11), (11, 335, 0, 11, 28, 0), (11, 338, 0, 11, 29, 0), (11, 341, 1, 228, 0, 11), (11, 344, 1, 229, 2, 11), (11, 347, 1, 233, 2, 11), (11, 350, 1, 235, 2, 11), (11, 353, 0, 11, 3, 1)]
set_option maxRecDepth 100000 in
def am_p20 : List (Nat × Nat × am_R) := [(20, 9, 6, 0, 0, 0), (20, 335, 1, 245, 0, 20), (20, 492, 1, 246, 0, 20), (20, 495, 1, 248, 2, 99), (20, 633, 1, 244, 2, 20), (20, 505, 1, 241, 0, 20), (20, 637, 1, 250, 4, 99), (20, 38, 9, 0, 0, 0), (20, 15, 6, 1, 0, 0), (20, 1053, 9, 1, 0, 0), (20, 1059, 1, 252, 3, 99)]
set_option maxRecDepth 100000 in
def am_p21 : List (Nat × Nat × am_R) := [(21, 9, 1, 247, 2, 99), (21, 88, 1, 249, 1, 99), (21, 92, 1, 254, 2, 99), (21, 38, 1, 255, 2, 99), (21, 95, 1, 251, 4, 99)]
set_option maxRecDepth 100000 in
def am_p24 : List (Nat × Nat × am_R) := [(24, 265, 3, 1431655765, 0, 0), (24, 266, 3, 858993459, 0, 0), (24, 267, 3, 252645135, 0, 0)]
set_option maxRecDepth 100000 in
def am_p30 : List (Nat × Nat × am_R) := [(30, 7, 2, 10, 0, 0), (30, 9, 1, 92, 0, 98), (30, 10, 2, 11, 0, 0), (30, 12, 1, 146, 0, 98), (30, 13, 1, 93, 2, 10), (30, 17, 1, 149, 2, 11), (30, 18, 1, 94, 3, 10), (30, 22, 1, 150, 3, 11), (30, 23, 1, 95, 3, 10), (30, 27, 1, 151, 3, 11), (30, 28, 1, 96, 5, 10), (30, 32, 1, 155, 5, 11), (30, 33, 1, 97, 1, 10), (30, 37, 1, 156, 1, 11), (30, 38, 1, 98, 1, 10), (30, 42, 1, 176, 1, 11), (30, 43, 1, 99, 1, 10), (30, 46, 1, 177, 1, 11), (30, 47, 1, 100, 3, 10), (30, 50, 1, 190, 3, 11), (30, 51, 1, 101, 5, 10), (30, 54, 1, 191, 5, 11), (30, 55, 1, 102, 0, 10), (30, 59, 1, 208, 0, 11), (30, 60, 1, 103, 3, 10), (30, 64, 1, 192, 3, 11), (30, 65, 1, 104, 2, 10), (30, 69, 1, 193, 2, 11), (30, 70, 1, 105, 2, 10), (30, 73, 1, 198, 2, 11), (30, 74, 1, 106, 3, 10), (30, 77, 1, 199, 3, 11), (30, 78, 1, 107, 1, 10), (30, 81, 1, 202, 1, 11), (30, 82, 1, 108, 3, 10), (30, 85, 1, 211, 3, 11), (30, 86, 1, 109, 4, 10), (30, 90, 1, 214, 4, 11), (30, 91, 1, 110, 4, 10), (30, 94, 1, 215, 4, 11), (30, 95, 1, 111, 3, 10), (30, 98, 1, 216, 3, 11), (30, 99, 1, 112, 2, 10), (30, 102, 1, 195, 2, 11), (30, 103, 1, 113, 2, 10), (30, 106, 1, 189, 2, 11), (30, 107, 1, 114, 3, 10), (30, 110, 1, 217, 3, 11), (30, 111, 1, 115, 3, 10), (30, 114, 1, 221, 3, 11), (30, 115, 1, 116, 1, 10), (30, 118, 1, 222, 1, 11), (30, 119, 1, 117, 2, 10), (30, 122, 1, 224, 2, 11), (30, 123, 1, 118, 3, 10), (30, 126, 1, 225, 3, 11), (30, 127, 1, 119, 2, 10), (30, 130, 1, 226, 2, 11), (30, 131, 1, 120, 2, 10), (30, 134, 1, 230, 2, 11), (30, 135, 1, 121, 0, 10), (30, 138, 1, 231, 0, 11), (30, 139, 1, 122, 2, 10), (30, 142, 1, 232, 2, 11), (30, 143, 1, 123, 2, 10), (30, 146, 1, 234, 2, 11), (30, 147, 1, 124, 2, 10), (30, 150, 1, 235, 2, 11), (30, 151, 1, 125, 1, 10), (30, 154, 1, 236, 1, 11), (30, 155, 1, 126, 4, 10), (30, 158, 1, 237, 4, 11), (30, 159, 1, 127, 1, 10), (30, 162, 1, 238, 1, 11), (30, 163, 1, 128, 1, 10), (30, 167, 1, 239, 1, 11), (30, 168, 1, 129, 1, 10), (30, 171, 1, 240, 1, 11)]
set_option maxRecDepth 100000 in
def am_pk (k : Nat) : List (Nat × Nat × am_R) := match k with
  | 0 => am_p0
  | 1 => am_p1
  | 2 => am_p2
  | 3 => am_p3
  | 4 => am_p4
  | 5 => am_p5
  | 6 => am_p6
  | 7 => am_p7
  | 8 => am_p8
  | 9 => am_p9
  | 10 => am_p10
  | 11 => am_p11
  | 20 => am_p20
  | 21 => am_p21
  | 24 => am_p24
  | 30 => am_p30
  | _ => []
set_option maxRecDepth 100000 in
def am_pool : List (Nat × Nat × am_R) := am_p0 ++ (am_p1 ++ (am_p2 ++ (am_p3 ++ (am_p4 ++ (am_p5 ++ (am_p6 ++ (am_p7 ++ (am_p8 ++ (am_p9 ++ (am_p10 ++ (am_p11 ++ (am_p20 ++ (am_p21 ++ (am_p24 ++ (am_p30)))))))))))))))
def am_sss : List (Nat × Nat × Nat) := [(3, 113, 20), (3, 142, 0), (3, 144, 1), (3, 146, 2), (3, 148, 3), (3, 150, 4), (3, 152, 5), (3, 154, 6), (3, 156, 7), (3, 158, 8), (3, 160, 9), (3, 162, 10), (3, 164, 11), (3, 166, 12), (3, 168, 13), (3, 170, 19), (3, 172, 14), (3, 174, 15), (3, 176, 16), (3, 178, 17), (3, 180, 18), (11, 80, 0), (11, 86, 1), (11, 88, 2), (11, 90, 7), (11, 92, 9), (11, 94, 10), (11, 96, 11), (11, 98, 14), (11, 100, 15), (11, 102, 16), (11, 104, 17), (11, 106, 18), (11, 108, 3), (11, 110, 4), (11, 112, 5), (11, 114, 6), (11, 116, 8), (11, 118, 12), (11, 120, 13)]
def am_nst : List (Nat × Nat × Nat) := [(0, 34, 60), (0, 45, 133), (3, 11, 60), (9, 20, 8), (9, 73, 133), (10, 11, 71), (10, 18, 38), (10, 57, 57), (10, 64, 82)]
abbrev am_F : Type := List am_I × Nat × Nat × MethodName × ByteArray × Option FieldType
def am_b0 : List am_F := [(am_c0, 4, 30, yL_law, cL_law, some .boolean), (am_c1, 3, 0, yX0_init, cX0_init, none), (am_c2, 3, 0, yX0_copyFrom, cX0_copyFrom, none), (am_c3, 2, 0, yX0_isBusiness, cX0_isBusiness, some .boolean), (am_c4, 2, 0, yX0_hasSnow, cX0_hasSnow, some .boolean), (am_c5, 3, 0, yX0_areFar, cX0_areFar, some .boolean), (am_c6, 3, 0, yX0_railBetween, cX0_railBetween, some .int), (am_c7, 6, 0, yX0_flightDays, cX0_flightDays, some .int), (am_c8, 1, 1, yX1_init, cX1_init, none), (am_c9, 8, 1, yX1_add, cX1_add, none), (am_c10, 2, 1, yX1_copyFrom, cX1_copyFrom, none), (am_c11, 3, 2, yX2_init, cX2_init, none), (am_c12, 2, 2, yX2_copyFrom, cX2_copyFrom, none), (am_c13, 3, 2, yX2_part, cX2_part, some .int), (am_c14, 4, 2, yX2_put, cX2_put, none), (am_c15, 3, 2, yX2_isInFlight, cX2_isInFlight, some .boolean)]
def am_b1 : List am_F := [(am_c16, 4, 2, yX2_isPaidIn, cX2_isPaidIn, some .boolean), (am_c17, 2, 2, yX2_isOfLastWeek, cX2_isOfLastWeek, some .boolean), (am_c18, 6, 2, yX2_held, cX2_held, some .int), (am_c19, 3, 2, yX2_usable, cX2_usable, some .int), (am_c20, 5, 2, yX2_paidInLately, cX2_paidInLately, some .int), (am_c21, 8, 2, yX2_lawValue, cX2_lawValue, some .int), (am_c22, 7, 2, yX2_change, cX2_change, none), (am_c23, 8, 2, yX2_takeIn, cX2_takeIn, some .int), (am_c24, 6, 2, yX2_morning, cX2_morning, some .int), (am_c25, 2, 2, yX2_rideTrains, cX2_rideTrains, none), (am_c26, 2, 2, yX2_comeBack, cX2_comeBack, none), (am_c27, 7, 2, yX2_listAsked, cX2_listAsked, some .int), (am_c28, 4, 2, yX2_isAhead, cX2_isAhead, some .boolean), (am_c29, 8, 2, yX2_askFor, cX2_askFor, some .boolean), (am_c30, 4, 2, yX2_booksOf, cX2_booksOf, some .int), (am_c31, 4, 2, yX2_waterOf, cX2_waterOf, some .int)]
def am_b2 : List am_F := [(am_c32, 3, 2, yX2_sumInFlight, cX2_sumInFlight, some .int), (am_c33, 3, 2, yX2_countInFlight, cX2_countInFlight, some .int), (am_c34, 4, 2, yX2_lossOf, cX2_lossOf, some .int), (am_c35, 3, 2, yX2_lossOfAll, cX2_lossOfAll, some .int), (am_c36, 4, 2, yX2_restsOn, cX2_restsOn, some .int), (am_c37, 5, 2, yX2_provenBook, cX2_provenBook, some .int), (am_c38, 1, 3, yX3_init, cX3_init, none), (am_c39, 4, 3, yX3_compile, cX3_compile, some .boolean), (am_c40, 2, 3, yX3_isLineWord, cX3_isLineWord, some .boolean), (am_c41, 1, 3, yX3_kind, cX3_kind, some .int), (am_c42, 2, 3, yX3_fails, cX3_fails, some .boolean), (am_c43, 3, 3, yX3_either, cX3_either, some .boolean), (am_c44, 3, 3, yX3_both, cX3_both, some .boolean), (am_c45, 5, 3, yX3_single, cX3_single, some .boolean), (am_c46, 3, 3, yX3_sum, cX3_sum, some .boolean), (am_c47, 4, 3, yX3_product, cX3_product, some .boolean)]
def am_b3 : List am_F := [(am_c48, 6, 3, yX3_scan, cX3_scan, none), (am_c49, 1, 3, yX3_isLetter, cX3_isLetter, some .boolean), (am_c50, 1, 3, yX3_isDigit, cX3_isDigit, some .boolean), (am_c51, 4, 3, yX3_addToken, cX3_addToken, none), (am_c52, 6, 3, yX3_addNumber, cX3_addNumber, none), (am_c53, 7, 3, yX3_addWord, cX3_addWord, none), (am_c54, 5, 3, yX3_isWord, cX3_isWord, some .boolean), (am_c55, 1, 3, yX3_lawWord, cX3_lawWord, some (.object "java/lang/String")), (am_c56, 1, 3, yX3_signWord, cX3_signWord, some (.object "java/lang/String")), (am_c57, 1, 4, yX4_init, cX4_init, none), (am_c58, 7, 4, yX4_search, cX4_search, none), (am_c59, 5, 4, yX4_unfold, cX4_unfold, some .boolean), (am_c60, 1, 5, yX5_init, cX5_init, none), (am_c61, 1, 5, yX5_clear, cX5_clear, none), (am_c62, 2, 5, yX5_add, cX5_add, none), (am_c63, 2, 5, yX5_openLine, cX5_openLine, none)]
def am_b4 : List am_F := [(am_c64, 1, 5, yX5_openCondition, cX5_openCondition, none), (am_c65, 1, 5, yX5_closeLine, cX5_closeLine, none), (am_c66, 2, 5, yX5_copyFrom, cX5_copyFrom, none), (am_c67, 4, 5, yX5_firstValue, cX5_firstValue, some .int), (am_c68, 3, 5, yX5_anyIsSo, cX5_anyIsSo, some .boolean), (am_c69, 4, 5, yX5_isSo, cX5_isSo, some .boolean), (am_c70, 10, 5, yX5_run, cX5_run, some .int), (am_c71, 1, 6, yX6_init, cX6_init, none), (am_c72, 3, 6, yX6_put, cX6_put, none), (am_c73, 2, 7, yX7_init, cX7_init, none), (am_c74, 3, 7, yX7_criesFor, cX7_criesFor, some .boolean), (am_c75, 4, 7, yX7_cryingHouses, cX7_cryingHouses, some .int), (am_c76, 4, 7, yX7_lookAlone, cX7_lookAlone, none), (am_c77, 5, 7, yX7_turnOf, cX7_turnOf, some .int), (am_c78, 7, 7, yX7_gather, cX7_gather, none), (am_c79, 7, 7, yX7_isAmong, cX7_isAmong, some .boolean)]
def am_b5 : List am_F := [(am_c80, 8, 7, yX7_hasMatch, cX7_hasMatch, some .boolean), (am_c81, 9, 7, yX7_lowOf, cX7_lowOf, some .int), (am_c82, 1, 8, yX8_init, cX8_init, none), (am_c83, 7, 8, yX8_search, cX8_search, some .boolean), (am_c84, 4, 8, yX8_bankOf, cX8_bankOf, some .int), (am_c85, 5, 8, yX8_isWay, cX8_isWay, some .boolean), (am_c86, 6, 8, yX8_floatOf, cX8_floatOf, some .int), (am_c87, 2, 9, yX9_init, cX9_init, none), (am_c88, 2, 9, yX9_copyFrom, cX9_copyFrom, none), (am_c89, 2, 9, yX9_isKiter, cX9_isKiter, some .boolean), (am_c90, 4, 9, yX9_keep, cX9_keep, none), (am_c91, 6, 9, yX9_keptAt, cX9_keptAt, some .int), (am_c92, 1, 10, yX10_init, cX10_init, none), (am_c93, 3, 10, yX10_town, cX10_town, some .boolean), (am_c94, 4, 10, yX10_rail, cX10_rail, some .boolean), (am_c95, 4, 10, yX10_told, cX10_told, some .boolean)]
def am_b6 : List am_F := [(am_c96, 6, 10, yX10_feed, cX10_feed, some .int), (am_c97, 2, 10, yX10_end, cX10_end, some .boolean), (am_c98, 3, 10, yX10_text, cX10_text, some .int), (am_c99, 2, 10, yX10_fault, cX10_fault, some .int), (am_c100, 6, 10, yX10_cash, cX10_cash, some .boolean), (am_c101, 7, 10, yX10_pay, cX10_pay, some .int), (am_c102, 3, 10, yX10_day, cX10_day, some .int), (am_c103, 5, 10, yX10_book, cX10_book, some .int), (am_c104, 3, 10, yX10_cheque, cX10_cheque, some .int), (am_c105, 5, 10, yX10_really, cX10_really, some .int), (am_c106, 5, 10, yX10_kept, cX10_kept, some .int), (am_c107, 3, 10, yX10_sums, cX10_sums, some .int), (am_c108, 4, 10, yX10_flight, cX10_flight, some .int), (am_c109, 5, 10, yX10_ring, cX10_ring, some .int), (am_c110, 5, 10, yX10_letIn, cX10_letIn, some .int), (am_c111, 10, 10, yX10_leastHold, cX10_leastHold, some .int)]
def am_b7 : List am_F := [(am_c112, 7, 10, yX10_chain, cX10_chain, some .int), (am_c113, 3, 10, yX10_entry, cX10_entry, some .int), (am_c114, 8, 10, yX10_growth, cX10_growth, some .int), (am_c115, 4, 10, yX10_sign, cX10_sign, some .int), (am_c116, 2, 10, yX10_kiters, cX10_kiters, some .boolean), (am_c117, 6, 10, yX10_cries, cX10_cries, some .int), (am_c118, 9, 10, yX10_like, cX10_like, some .int), (am_c119, 3, 10, yX10_alone, cX10_alone, some .int), (am_c120, 7, 10, yX10_ending, cX10_ending, some .int), (am_c121, 6, 10, yX10_snowed, cX10_snowed, some .int), (am_c122, 3, 10, yX10_payment, cX10_payment, some .int), (am_c123, 3, 10, yX10_payFloat, cX10_payFloat, some .int), (am_c124, 3, 10, yX10_room, cX10_room, some .int), (am_c125, 3, 10, yX10_seen, cX10_seen, some .int), (am_c126, 10, 10, yX10_burnt, cX10_burnt, some .int), (am_c127, 5, 10, yX10_honest, cX10_honest, some .int)]
def am_b8 : List am_F := [(am_c128, 2, 10, yX10_image, cX10_image, some .boolean), (am_c129, 2, 10, yX10_look, cX10_look, some .int), (am_c130, 1, 10, yX10_isBank, cX10_isBank, some .boolean), (am_c131, 1, 10, yX10_isHouse, cX10_isHouse, some .boolean), (am_c132, 1, 10, yX10_isTown, cX10_isTown, some .boolean), (am_c133, 1, 10, yX10_isDay, cX10_isDay, some .boolean), (am_c134, 1, 10, yX10_isAmount, cX10_isAmount, some .boolean), (am_c135, 1, 10, yX10_isBankSet, cX10_isBankSet, some .boolean), (am_c136, 2, 10, yX10_isCheque, cX10_isCheque, some .boolean), (am_c137, 2, 10, yX10_isBusinessDay, cX10_isBusinessDay, some .boolean), (am_c138, 5, 10, yX10_isRing, cX10_isRing, some .boolean), (am_c139, 6, 10, yX10_sumOf, cX10_sumOf, some .int), (am_c140, 8, 10, yX10_fillRings, cX10_fillRings, none), (am_c141, 3, 10, yX10_thinkEnd, cX10_thinkEnd, some .int), (am_c142, 5, 10, yX10_netOut, cX10_netOut, none), (am_c143, 6, 10, yX10_roundOfRoom, cX10_roundOfRoom, some .int)]
def am_b9 : List am_F := [(am_c144, 3, 11, yX11_isIn, cX11_isIn, some .boolean), (am_c145, 2, 11, yX11_apart, cX11_apart, some .int), (am_c146, 3, 11, yX11_init, cX11_init, none), (am_c147, 1, 11, yX11_isBank, cX11_isBank, some .boolean), (am_c148, 1, 11, yX11_isHouse, cX11_isHouse, some .boolean), (am_c149, 3, 11, yX11_town, cX11_town, some .boolean), (am_c150, 4, 11, yX11_rail, cX11_rail, some .boolean), (am_c151, 4, 11, yX11_told, cX11_told, some .boolean), (am_c152, 2, 11, yX11_isBusiness, cX11_isBusiness, some .boolean), (am_c153, 2, 11, yX11_hasTrain, cX11_hasTrain, some .boolean), (am_c154, 3, 11, yX11_railBetween, cX11_railBetween, some .int), (am_c155, 8, 11, yX11_feed, cX11_feed, some .int), (am_c156, 2, 11, yX11_end, cX11_end, some .boolean), (am_c157, 2, 11, yX11_see, cX11_see, some .int), (am_c158, 1, 11, yX11_isLetter, cX11_isLetter, some .boolean), (am_c159, 1, 11, yX11_isDigit, cX11_isDigit, some .boolean)]
def am_b10 : List am_F := [(am_c160, 4, 11, yX11_is, cX11_is, some .boolean), (am_c161, 1, 11, yX11_lawWord, cX11_lawWord, some .int), (am_c162, 1, 11, yX11_signWord, cX11_signWord, some .int), (am_c163, 1, 11, yX11_word, cX11_word, some .int), (am_c164, 3, 11, yX11_next0, cX11_next0, none), (am_c165, 2, 11, yX11_bad, cX11_bad, some .boolean), (am_c166, 2, 11, yX11_need, cX11_need, some .boolean), (am_c167, 3, 11, yX11_lay, cX11_lay, none), (am_c168, 1, 11, yX11_opens, cX11_opens, some .boolean), (am_c169, 2, 11, yX11_sumUp, cX11_sumUp, some .boolean), (am_c170, 2, 11, yX11_product, cX11_product, some .boolean), (am_c171, 2, 11, yX11_unit, cX11_unit, some .boolean), (am_c172, 1, 11, yX11_any, cX11_any, some .boolean), (am_c173, 1, 11, yX11_every, cX11_every, some .boolean), (am_c174, 2, 11, yX11_one, cX11_one, some .boolean), (am_c175, 2, 11, yX11_aLine, cX11_aLine, some .boolean)]
def am_b11 : List am_F := [(am_c176, 4, 11, yX11_text, cX11_text, some .int), (am_c177, 2, 11, yX11_fault, cX11_fault, some .int), (am_c178, 3, 11, yX11_both, cX11_both, some .int), (am_c179, 8, 11, yX11_comesTo, cX11_comesTo, some .int), (am_c180, 7, 11, yX11_tells, cX11_tells, some .int), (am_c181, 3, 11, yX11_of, cX11_of, some .int), (am_c182, 5, 11, yX11_countOf, cX11_countOf, some .int), (am_c183, 7, 11, yX11_gathers, cX11_gathers, none), (am_c184, 3, 11, yX11_isFar, cX11_isFar, some .boolean), (am_c185, 4, 11, yX11_gathersOf, cX11_gathersOf, none), (am_c186, 5, 11, yX11_heldOf, cX11_heldOf, some .int), (am_c187, 3, 11, yX11_usable, cX11_usable, some .int), (am_c188, 7, 11, yX11_books, cX11_books, none), (am_c189, 3, 11, yX11_entry, cX11_entry, some .int), (am_c190, 4, 11, yX11_cash, cX11_cash, some .boolean), (am_c191, 9, 11, yX11_pay, cX11_pay, some .int)]
def am_b12 : List am_F := [(am_c192, 4, 11, yX11_book, cX11_book, some .int), (am_c193, 3, 11, yX11_cheque, cX11_cheque, some .int), (am_c194, 3, 11, yX11_restsOn, cX11_restsOn, some .int), (am_c195, 6, 11, yX11_chain, cX11_chain, some .int), (am_c196, 4, 11, yX11_booksOf, cX11_booksOf, some .int), (am_c197, 4, 11, yX11_waterOf, cX11_waterOf, some .int), (am_c198, 3, 11, yX11_really, cX11_really, some .int), (am_c199, 4, 11, yX11_kept, cX11_kept, some .int), (am_c200, 2, 11, yX11_isFlying, cX11_isFlying, some .boolean), (am_c201, 4, 11, yX11_flying, cX11_flying, some .int), (am_c202, 4, 11, yX11_sums, cX11_sums, some .int), (am_c203, 3, 11, yX11_isDue, cX11_isDue, some .boolean), (am_c204, 4, 11, yX11_isBehind, cX11_isBehind, some .boolean), (am_c205, 5, 11, yX11_gathersAsked, cX11_gathersAsked, none), (am_c206, 6, 11, yX11_isReturned, cX11_isReturned, some .boolean), (am_c207, 5, 11, yX11_morning, cX11_morning, some .int)]
def am_b13 : List am_F := [(am_c208, 6, 11, yX11_day, cX11_day, some .int), (am_c209, 6, 11, yX11_flightOf, cX11_flightOf, some .int), (am_c210, 2, 11, yX11_isDay, cX11_isDay, some .boolean), (am_c211, 4, 11, yX11_flight, cX11_flight, some .int), (am_c212, 6, 11, yX11_holdsUp, cX11_holdsUp, some .int), (am_c213, 8, 11, yX11_rings, cX11_rings, none), (am_c214, 7, 11, yX11_ring, cX11_ring, some .int), (am_c215, 6, 11, yX11_letIn, cX11_letIn, some .int), (am_c216, 8, 11, yX11_leastHold, cX11_leastHold, some .int), (am_c217, 7, 11, yX11_growth, cX11_growth, some .int), (am_c218, 3, 11, yX11_isMatched, cX11_isMatched, some .boolean), (am_c219, 7, 11, yX11_signs, cX11_signs, none), (am_c220, 4, 11, yX11_cryOf, cX11_cryOf, some .boolean), (am_c221, 5, 11, yX11_sign, cX11_sign, some .int), (am_c222, 2, 11, yX11_kiters, cX11_kiters, some .boolean), (am_c223, 3, 11, yX11_count, cX11_count, some .int)]
def am_b14 : List am_F := [(am_c224, 5, 11, yX11_cries, cX11_cries, some .int), (am_c225, 8, 11, yX11_like, cX11_like, some .int), (am_c226, 3, 11, yX11_alone, cX11_alone, some .int), (am_c227, 4, 11, yX11_lossOf, cX11_lossOf, some .int), (am_c228, 3, 11, yX11_lossOfAll, cX11_lossOfAll, some .int), (am_c229, 5, 11, yX11_ends, cX11_ends, some .int), (am_c230, 5, 11, yX11_ending, cX11_ending, some .int), (am_c231, 4, 11, yX11_snowed, cX11_snowed, some .int), (am_c232, 3, 11, yX11_payment, cX11_payment, some .int), (am_c233, 7, 11, yX11_floats, cX11_floats, some .int), (am_c234, 9, 11, yX11_payFloat, cX11_payFloat, some .int), (am_c235, 6, 11, yX11_room, cX11_room, some .int), (am_c236, 4, 11, yX11_seen, cX11_seen, some .int), (am_c237, 7, 11, yX11_burnt, cX11_burnt, some .int), (am_c238, 4, 11, yX11_honest, cX11_honest, some .int), (am_c239, 3, 11, yX11_image, cX11_image, some .boolean)]
def am_b15 : List am_F := [(am_c240, 2, 11, yX11_look, cX11_look, some .int), (am_c241, 1, 20, yJ0_length_8abf5, cJ0_length_8abf5, some .int), (am_c242, 2, 20, yJ0_charAt_5068e, cJ0_charAt_5068e, some .char), (am_c243, 2, 20, yJ0_indexOf_0f7a4, cJ0_indexOf_0f7a4, some .int), (am_c244, 3, 20, yJ0_indexOf_7cf53, cJ0_indexOf_7cf53, some .int), (am_c245, 1, 20, yJ0_coder_7d493, cJ0_coder_7d493, some .byte), (am_c246, 1, 20, yJ0_isLatin1_aae02, cJ0_isLatin1_aae02, some .boolean), (am_c247, 2, 20, yJ0_checkIndex_df160, cJ0_checkIndex_df160, none), (am_c248, 2, 21, yJ1_charAt_3b067, cJ1_charAt_3b067, some .char), (am_c249, 1, 21, yJ1_canEncode_9a6ad, cJ1_canEncode_9a6ad, some .boolean), (am_c250, 4, 21, yJ1_indexOf_4cfef, cJ1_indexOf_4cfef, some .int), (am_c251, 6, 21, yJ1_indexOfChar_4cfef, cJ1_indexOfChar_4cfef, some .int), (am_c252, 3, 22, yJ3_checkIndex_8e157, cJ3_checkIndex_8e157, some .int), (am_c253, 1, 23, yJ9_abs_0f7a4, cJ9_abs_0f7a4, some .int), (am_c254, 2, 23, yJ9_max_7cf53, cJ9_max_7cf53, some .int), (am_c255, 2, 23, yJ9_min_7cf53, cJ9_min_7cf53, some .int)]
def am_b16 : List am_F := [(am_c256, 4, 23, yJ9_min_f86c9, cJ9_min_f86c9, some .long), (am_c257, 1, 24, yJ6_bitCount_0f7a4, cJ6_bitCount_0f7a4, some .int)]
def am_bs : List (List am_F) := [am_b0, am_b1, am_b2, am_b3, am_b4, am_b5, am_b6, am_b7, am_b8, am_b9, am_b10, am_b11, am_b12, am_b13, am_b14, am_b15, am_b16]
def am_f0 : am_F := ([], 0, 0, ⟨RX0, "", ""⟩, ByteArray.empty, none)
def am_f (m : Nat) : am_F := (am_bs.getD (m / 16) []).getD (m % 16) am_f0
set_option maxRecDepth 100000 in
def am_code (m : Nat) : List am_I := (am_f m).1
def am_mlo (m : Nat) : Nat := (am_f m).2.1
def am_t : am_T := (am_code, am_mlo, fun m => (am_f m).2.2.1, fun m => (am_f m).2.2.2.1, fun m => (am_f m).2.2.2.2.1, fun m => (am_f m).2.2.2.2.2, am_pool, am_sss, am_nst)
end
