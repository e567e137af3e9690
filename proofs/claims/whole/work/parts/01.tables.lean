-- ===== PART A: goes FIRST, ahead of the names: the tables' words, and 'selects' of the private methods out of them =====
/-- a private method of a class that the tables say can be made, by its rows of tables_1 -/
def lw_okq (q : MethodName × Nat) : Prop := (q.1.cls ≠ "java/lang/invoke/MethodHandle" ∧ q.1.cls ≠ "java/lang/invoke/VarHandle") ∧ Cond.instantiable q.1.cls q.2 ∈ tables_1 ∧ Cond.privateMethod q.1 ∈ tables_1 ∧ Cond.instanceMethod q.1 ∈ tables_1
theorem lw_p0 : lw_okq (⟨"WhoComplainsCarries", "refuse", "(I)I"⟩, 10) := ⟨⟨by decide +kernel, by decide +kernel⟩, List.mem_of_getElem? (i := 16) (by decide +kernel), List.mem_of_getElem? (i := 254) (by decide +kernel), List.mem_of_getElem? (i := 255) (by decide +kernel)⟩
theorem lw_p1 : lw_okq (⟨"WhoComplainsCarries", "rowRefusal", "(I)I"⟩, 10) := ⟨⟨by decide +kernel, by decide +kernel⟩, List.mem_of_getElem? (i := 16) (by decide +kernel), List.mem_of_getElem? (i := 272) (by decide +kernel), List.mem_of_getElem? (i := 273) (by decide +kernel)⟩
theorem lw_p2 : lw_okq (⟨"WhoComplainsCarries", "copyRefusal", "(IIIII)I"⟩, 10) := ⟨⟨by decide +kernel, by decide +kernel⟩, List.mem_of_getElem? (i := 16) (by decide +kernel), List.mem_of_getElem? (i := 298) (by decide +kernel), List.mem_of_getElem? (i := 299) (by decide +kernel)⟩
theorem lw_p3 : lw_okq (⟨"WhoComplainsCarries", "isPersonOrNone", "(I)Z"⟩, 10) := ⟨⟨by decide +kernel, by decide +kernel⟩, List.mem_of_getElem? (i := 16) (by decide +kernel), List.mem_of_getElem? (i := 326) (by decide +kernel), List.mem_of_getElem? (i := 327) (by decide +kernel)⟩
theorem lw_p4 : lw_okq (⟨"WhoComplainsCarries", "isPerson", "(I)Z"⟩, 10) := ⟨⟨by decide +kernel, by decide +kernel⟩, List.mem_of_getElem? (i := 16) (by decide +kernel), List.mem_of_getElem? (i := 330) (by decide +kernel), List.mem_of_getElem? (i := 331) (by decide +kernel)⟩
theorem lw_p5 : lw_okq (⟨"WhoComplainsCarries", "refuseFar", "(I)I"⟩, 10) := ⟨⟨by decide +kernel, by decide +kernel⟩, List.mem_of_getElem? (i := 16) (by decide +kernel), List.mem_of_getElem? (i := 399) (by decide +kernel), List.mem_of_getElem? (i := 400) (by decide +kernel)⟩
theorem lw_p6 : lw_okq (⟨"WhoComplainsCarries$VowReader", "takeLetters", "(LWhoComplainsCarries$Shelf;)V"⟩, 5) := ⟨⟨by decide +kernel, by decide +kernel⟩, List.mem_of_getElem? (i := 164) (by decide +kernel), List.mem_of_getElem? (i := 415) (by decide +kernel), List.mem_of_getElem? (i := 416) (by decide +kernel)⟩
theorem lw_p7 : lw_okq (⟨"WhoComplainsCarries$VowReader", "readItem", "()V"⟩, 5) := ⟨⟨by decide +kernel, by decide +kernel⟩, List.mem_of_getElem? (i := 164) (by decide +kernel), List.mem_of_getElem? (i := 433) (by decide +kernel), List.mem_of_getElem? (i := 434) (by decide +kernel)⟩
theorem lw_p8 : lw_okq (⟨"WhoComplainsCarries$VowReader", "readWord", "()I"⟩, 5) := ⟨⟨by decide +kernel, by decide +kernel⟩, List.mem_of_getElem? (i := 164) (by decide +kernel), List.mem_of_getElem? (i := 437) (by decide +kernel), List.mem_of_getElem? (i := 438) (by decide +kernel)⟩
theorem lw_p9 : lw_okq (⟨"WhoComplainsCarries$VowReader", "letterHere", "()I"⟩, 5) := ⟨⟨by decide +kernel, by decide +kernel⟩, List.mem_of_getElem? (i := 164) (by decide +kernel), List.mem_of_getElem? (i := 441) (by decide +kernel), List.mem_of_getElem? (i := 442) (by decide +kernel)⟩
theorem lw_p10 : lw_okq (⟨"WhoComplainsCarries$VowReader", "readPerson", "(I)V"⟩, 5) := ⟨⟨by decide +kernel, by decide +kernel⟩, List.mem_of_getElem? (i := 164) (by decide +kernel), List.mem_of_getElem? (i := 504) (by decide +kernel), List.mem_of_getElem? (i := 505) (by decide +kernel)⟩
theorem lw_p11 : lw_okq (⟨"WhoComplainsCarries$VowReader", "readNumber", "(II)I"⟩, 5) := ⟨⟨by decide +kernel, by decide +kernel⟩, List.mem_of_getElem? (i := 164) (by decide +kernel), List.mem_of_getElem? (i := 508) (by decide +kernel), List.mem_of_getElem? (i := 509) (by decide +kernel)⟩
theorem lw_p12 : lw_okq (⟨"WhoComplainsCarries$VowReader", "expect", "(I)V"⟩, 5) := ⟨⟨by decide +kernel, by decide +kernel⟩, List.mem_of_getElem? (i := 164) (by decide +kernel), List.mem_of_getElem? (i := 512) (by decide +kernel), List.mem_of_getElem? (i := 513) (by decide +kernel)⟩
theorem lw_p13 : lw_okq (⟨"WhoComplainsCarries$VowReader", "tellWeight", "(I)V"⟩, 5) := ⟨⟨by decide +kernel, by decide +kernel⟩, List.mem_of_getElem? (i := 164) (by decide +kernel), List.mem_of_getElem? (i := 521) (by decide +kernel), List.mem_of_getElem? (i := 522) (by decide +kernel)⟩
theorem lw_p14 : lw_okq (⟨"WhoComplainsCarries$VowReader", "tellWay", "(I)V"⟩, 5) := ⟨⟨by decide +kernel, by decide +kernel⟩, List.mem_of_getElem? (i := 164) (by decide +kernel), List.mem_of_getElem? (i := 525) (by decide +kernel), List.mem_of_getElem? (i := 526) (by decide +kernel)⟩
theorem lw_p15 : lw_okq (⟨"WhoComplainsCarries$VowReader", "tellBearer", "(I)V"⟩, 5) := ⟨⟨by decide +kernel, by decide +kernel⟩, List.mem_of_getElem? (i := 164) (by decide +kernel), List.mem_of_getElem? (i := 529) (by decide +kernel), List.mem_of_getElem? (i := 530) (by decide +kernel)⟩
def lw_privs_1 : List (MethodName × Nat) := [(⟨"WhoComplainsCarries", "refuse", "(I)I"⟩, 10), (⟨"WhoComplainsCarries", "rowRefusal", "(I)I"⟩, 10), (⟨"WhoComplainsCarries", "copyRefusal", "(IIIII)I"⟩, 10), (⟨"WhoComplainsCarries", "isPersonOrNone", "(I)Z"⟩, 10), (⟨"WhoComplainsCarries", "isPerson", "(I)Z"⟩, 10), (⟨"WhoComplainsCarries", "refuseFar", "(I)I"⟩, 10), (⟨"WhoComplainsCarries$VowReader", "takeLetters", "(LWhoComplainsCarries$Shelf;)V"⟩, 5), (⟨"WhoComplainsCarries$VowReader", "readItem", "()V"⟩, 5), (⟨"WhoComplainsCarries$VowReader", "readWord", "()I"⟩, 5), (⟨"WhoComplainsCarries$VowReader", "letterHere", "()I"⟩, 5), (⟨"WhoComplainsCarries$VowReader", "readPerson", "(I)V"⟩, 5), (⟨"WhoComplainsCarries$VowReader", "readNumber", "(II)I"⟩, 5), (⟨"WhoComplainsCarries$VowReader", "expect", "(I)V"⟩, 5), (⟨"WhoComplainsCarries$VowReader", "tellWeight", "(I)V"⟩, 5), (⟨"WhoComplainsCarries$VowReader", "tellWay", "(I)V"⟩, 5), (⟨"WhoComplainsCarries$VowReader", "tellBearer", "(I)V"⟩, 5)]
theorem lw_r1 : ∀ q ∈ lw_privs_1, lw_okq q := List.forall_mem_cons.mpr ⟨lw_p0, List.forall_mem_cons.mpr ⟨lw_p1, List.forall_mem_cons.mpr ⟨lw_p2, List.forall_mem_cons.mpr ⟨lw_p3, List.forall_mem_cons.mpr ⟨lw_p4, List.forall_mem_cons.mpr ⟨lw_p5, List.forall_mem_cons.mpr ⟨lw_p6, List.forall_mem_cons.mpr ⟨lw_p7, List.forall_mem_cons.mpr ⟨lw_p8, List.forall_mem_cons.mpr ⟨lw_p9, List.forall_mem_cons.mpr ⟨lw_p10, List.forall_mem_cons.mpr ⟨lw_p11, List.forall_mem_cons.mpr ⟨lw_p12, List.forall_mem_cons.mpr ⟨lw_p13, List.forall_mem_cons.mpr ⟨lw_p14, List.forall_mem_cons.mpr ⟨lw_p15, fun _ h => absurd h List.not_mem_nil⟩⟩⟩⟩⟩⟩⟩⟩⟩⟩⟩⟩⟩⟩⟩⟩
theorem lw_p16 : lw_okq (⟨"WhoComplainsCarries$VowReader", "tellSort", "(IZ)V"⟩, 5) := ⟨⟨by decide +kernel, by decide +kernel⟩, List.mem_of_getElem? (i := 164) (by decide +kernel), List.mem_of_getElem? (i := 533) (by decide +kernel), List.mem_of_getElem? (i := 534) (by decide +kernel)⟩
theorem lw_p17 : lw_okq (⟨"WhoComplainsCarries$Vow", "comeToSigher", "(I)V"⟩, 9) := ⟨⟨by decide +kernel, by decide +kernel⟩, List.mem_of_getElem? (i := 52) (by decide +kernel), List.mem_of_getElem? (i := 592) (by decide +kernel), List.mem_of_getElem? (i := 593) (by decide +kernel)⟩
theorem lw_p18 : lw_okq (⟨"WhoComplainsCarries$RelaySearch", "keepIfBetter", "(I)V"⟩, 4) := ⟨⟨by decide +kernel, by decide +kernel⟩, List.mem_of_getElem? (i := 140) (by decide +kernel), List.mem_of_getElem? (i := 635) (by decide +kernel), List.mem_of_getElem? (i := 636) (by decide +kernel)⟩
theorem lw_p19 : lw_okq (⟨"WhoComplainsCarries", "casesRefusal", "(IIZ)I"⟩, 10) := ⟨⟨by decide +kernel, by decide +kernel⟩, List.mem_of_getElem? (i := 16) (by decide +kernel), List.mem_of_getElem? (i := 652) (by decide +kernel), List.mem_of_getElem? (i := 653) (by decide +kernel)⟩
theorem lw_p20 : lw_okq (⟨"WhoComplainsCarries", "toldRefusal", "(IIJZ)I"⟩, 10) := ⟨⟨by decide +kernel, by decide +kernel⟩, List.mem_of_getElem? (i := 16) (by decide +kernel), List.mem_of_getElem? (i := 657) (by decide +kernel), List.mem_of_getElem? (i := 658) (by decide +kernel)⟩
theorem lw_p21 : lw_okq (⟨"WhoComplainsCarries", "goesAsTold", "(ILWhoComplainsCarries$Shelf;I)Z"⟩, 10) := ⟨⟨by decide +kernel, by decide +kernel⟩, List.mem_of_getElem? (i := 16) (by decide +kernel), List.mem_of_getElem? (i := 676) (by decide +kernel), List.mem_of_getElem? (i := 677) (by decide +kernel)⟩
theorem lw_p22 : lw_okq (⟨"WhoComplainsCarries", "overWithin", "(II)I"⟩, 10) := ⟨⟨by decide +kernel, by decide +kernel⟩, List.mem_of_getElem? (i := 16) (by decide +kernel), List.mem_of_getElem? (i := 689) (by decide +kernel), List.mem_of_getElem? (i := 690) (by decide +kernel)⟩
theorem lw_p23 : lw_okq (⟨"WhoComplainsCarries", "talkRefusal", "(IIZ)I"⟩, 10) := ⟨⟨by decide +kernel, by decide +kernel⟩, List.mem_of_getElem? (i := 16) (by decide +kernel), List.mem_of_getElem? (i := 701) (by decide +kernel), List.mem_of_getElem? (i := 702) (by decide +kernel)⟩
theorem lw_p24 : lw_okq (⟨"WhoComplainsCarries", "firstWrong", "(LWhoComplainsCarries$Shelf;I)I"⟩, 10) := ⟨⟨by decide +kernel, by decide +kernel⟩, List.mem_of_getElem? (i := 16) (by decide +kernel), List.mem_of_getElem? (i := 705) (by decide +kernel), List.mem_of_getElem? (i := 706) (by decide +kernel)⟩
theorem lw_p25 : lw_okq (⟨"WhoComplainsCarries$Vow", "hearThatItIsLight", "(I)V"⟩, 9) := ⟨⟨by decide +kernel, by decide +kernel⟩, List.mem_of_getElem? (i := 52) (by decide +kernel), List.mem_of_getElem? (i := 722) (by decide +kernel), List.mem_of_getElem? (i := 723) (by decide +kernel)⟩
theorem lw_p26 : lw_okq (⟨"WhoComplainsCarries$Vow", "growHeavier", "()V"⟩, 9) := ⟨⟨by decide +kernel, by decide +kernel⟩, List.mem_of_getElem? (i := 52) (by decide +kernel), List.mem_of_getElem? (i := 726) (by decide +kernel), List.mem_of_getElem? (i := 727) (by decide +kernel)⟩
theorem lw_p27 : lw_okq (⟨"WhoComplainsCarries$Vow", "draw", "(I)I"⟩, 9) := ⟨⟨by decide +kernel, by decide +kernel⟩, List.mem_of_getElem? (i := 52) (by decide +kernel), List.mem_of_getElem? (i := 751) (by decide +kernel), List.mem_of_getElem? (i := 752) (by decide +kernel)⟩
theorem lw_p28 : lw_okq (⟨"WhoComplainsCarries$Moves", "begin", "(I)V"⟩, 5) := ⟨⟨by decide +kernel, by decide +kernel⟩, List.mem_of_getElem? (i := 190) (by decide +kernel), List.mem_of_getElem? (i := 783) (by decide +kernel), List.mem_of_getElem? (i := 784) (by decide +kernel)⟩
theorem lw_p29 : lw_okq (⟨"WhoComplainsCarriesModel", "isShelf", "(I)Z"⟩, 42) := ⟨⟨by decide +kernel, by decide +kernel⟩, List.mem_of_getElem? (i := 812) (by decide +kernel), List.mem_of_getElem? (i := 949) (by decide +kernel), List.mem_of_getElem? (i := 950) (by decide +kernel)⟩
theorem lw_p30 : lw_okq (⟨"WhoComplainsCarriesModel", "no", "(I)I"⟩, 42) := ⟨⟨by decide +kernel, by decide +kernel⟩, List.mem_of_getElem? (i := 812) (by decide +kernel), List.mem_of_getElem? (i := 953) (by decide +kernel), List.mem_of_getElem? (i := 954) (by decide +kernel)⟩
theorem lw_p31 : lw_okq (⟨"WhoComplainsCarriesModel", "isOne", "(I)Z"⟩, 42) := ⟨⟨by decide +kernel, by decide +kernel⟩, List.mem_of_getElem? (i := 812) (by decide +kernel), List.mem_of_getElem? (i := 973) (by decide +kernel), List.mem_of_getElem? (i := 974) (by decide +kernel)⟩
def lw_privs_2 : List (MethodName × Nat) := [(⟨"WhoComplainsCarries$VowReader", "tellSort", "(IZ)V"⟩, 5), (⟨"WhoComplainsCarries$Vow", "comeToSigher", "(I)V"⟩, 9), (⟨"WhoComplainsCarries$RelaySearch", "keepIfBetter", "(I)V"⟩, 4), (⟨"WhoComplainsCarries", "casesRefusal", "(IIZ)I"⟩, 10), (⟨"WhoComplainsCarries", "toldRefusal", "(IIJZ)I"⟩, 10), (⟨"WhoComplainsCarries", "goesAsTold", "(ILWhoComplainsCarries$Shelf;I)Z"⟩, 10), (⟨"WhoComplainsCarries", "overWithin", "(II)I"⟩, 10), (⟨"WhoComplainsCarries", "talkRefusal", "(IIZ)I"⟩, 10), (⟨"WhoComplainsCarries", "firstWrong", "(LWhoComplainsCarries$Shelf;I)I"⟩, 10), (⟨"WhoComplainsCarries$Vow", "hearThatItIsLight", "(I)V"⟩, 9), (⟨"WhoComplainsCarries$Vow", "growHeavier", "()V"⟩, 9), (⟨"WhoComplainsCarries$Vow", "draw", "(I)I"⟩, 9), (⟨"WhoComplainsCarries$Moves", "begin", "(I)V"⟩, 5), (⟨"WhoComplainsCarriesModel", "isShelf", "(I)Z"⟩, 42), (⟨"WhoComplainsCarriesModel", "no", "(I)I"⟩, 42), (⟨"WhoComplainsCarriesModel", "isOne", "(I)Z"⟩, 42)]
theorem lw_r2 : ∀ q ∈ lw_privs_2, lw_okq q := List.forall_mem_cons.mpr ⟨lw_p16, List.forall_mem_cons.mpr ⟨lw_p17, List.forall_mem_cons.mpr ⟨lw_p18, List.forall_mem_cons.mpr ⟨lw_p19, List.forall_mem_cons.mpr ⟨lw_p20, List.forall_mem_cons.mpr ⟨lw_p21, List.forall_mem_cons.mpr ⟨lw_p22, List.forall_mem_cons.mpr ⟨lw_p23, List.forall_mem_cons.mpr ⟨lw_p24, List.forall_mem_cons.mpr ⟨lw_p25, List.forall_mem_cons.mpr ⟨lw_p26, List.forall_mem_cons.mpr ⟨lw_p27, List.forall_mem_cons.mpr ⟨lw_p28, List.forall_mem_cons.mpr ⟨lw_p29, List.forall_mem_cons.mpr ⟨lw_p30, List.forall_mem_cons.mpr ⟨lw_p31, fun _ h => absurd h List.not_mem_nil⟩⟩⟩⟩⟩⟩⟩⟩⟩⟩⟩⟩⟩⟩⟩⟩
theorem lw_p32 : lw_okq (⟨"WhoComplainsCarriesModel", "limit", "(I)I"⟩, 42) := ⟨⟨by decide +kernel, by decide +kernel⟩, List.mem_of_getElem? (i := 812) (by decide +kernel), List.mem_of_getElem? (i := 985) (by decide +kernel), List.mem_of_getElem? (i := 986) (by decide +kernel)⟩
theorem lw_p33 : lw_okq (⟨"WhoComplainsCarriesModel", "toil", "(I)I"⟩, 42) := ⟨⟨by decide +kernel, by decide +kernel⟩, List.mem_of_getElem? (i := 812) (by decide +kernel), List.mem_of_getElem? (i := 989) (by decide +kernel), List.mem_of_getElem? (i := 990) (by decide +kernel)⟩
theorem lw_p34 : lw_okq (⟨"WhoComplainsCarriesModel", "pace", "(I)I"⟩, 42) := ⟨⟨by decide +kernel, by decide +kernel⟩, List.mem_of_getElem? (i := 812) (by decide +kernel), List.mem_of_getElem? (i := 993) (by decide +kernel), List.mem_of_getElem? (i := 994) (by decide +kernel)⟩
theorem lw_p35 : lw_okq (⟨"WhoComplainsCarriesModel", "isFrom", "(III)Z"⟩, 42) := ⟨⟨by decide +kernel, by decide +kernel⟩, List.mem_of_getElem? (i := 812) (by decide +kernel), List.mem_of_getElem? (i := 1001) (by decide +kernel), List.mem_of_getElem? (i := 1002) (by decide +kernel)⟩
theorem lw_p36 : lw_okq (⟨"WhoComplainsCarriesModel", "adds", "(IIII)I"⟩, 42) := ⟨⟨by decide +kernel, by decide +kernel⟩, List.mem_of_getElem? (i := 812) (by decide +kernel), List.mem_of_getElem? (i := 1005) (by decide +kernel), List.mem_of_getElem? (i := 1006) (by decide +kernel)⟩
theorem lw_p37 : lw_okq (⟨"WhoComplainsCarriesModel", "noTen", "(I)I"⟩, 42) := ⟨⟨by decide +kernel, by decide +kernel⟩, List.mem_of_getElem? (i := 812) (by decide +kernel), List.mem_of_getElem? (i := 1021) (by decide +kernel), List.mem_of_getElem? (i := 1022) (by decide +kernel)⟩
theorem lw_p38 : lw_okq (⟨"WhoComplainsCarriesModel", "wanted", "(I)I"⟩, 42) := ⟨⟨by decide +kernel, by decide +kernel⟩, List.mem_of_getElem? (i := 812) (by decide +kernel), List.mem_of_getElem? (i := 1033) (by decide +kernel), List.mem_of_getElem? (i := 1034) (by decide +kernel)⟩
theorem lw_p39 : lw_okq (⟨"WhoComplainsCarriesModel", "all", "([IZ)V"⟩, 42) := ⟨⟨by decide +kernel, by decide +kernel⟩, List.mem_of_getElem? (i := 812) (by decide +kernel), List.mem_of_getElem? (i := 1037) (by decide +kernel), List.mem_of_getElem? (i := 1038) (by decide +kernel)⟩
theorem lw_p40 : lw_okq (⟨"WhoComplainsCarriesModel", "carries", "([I[IIZ)I"⟩, 42) := ⟨⟨by decide +kernel, by decide +kernel⟩, List.mem_of_getElem? (i := 812) (by decide +kernel), List.mem_of_getElem? (i := 1041) (by decide +kernel), List.mem_of_getElem? (i := 1042) (by decide +kernel)⟩
theorem lw_p41 : lw_okq (⟨"WhoComplainsCarriesModel", "item", "()Z"⟩, 42) := ⟨⟨by decide +kernel, by decide +kernel⟩, List.mem_of_getElem? (i := 812) (by decide +kernel), List.mem_of_getElem? (i := 1045) (by decide +kernel), List.mem_of_getElem? (i := 1046) (by decide +kernel)⟩
theorem lw_p42 : lw_okq (⟨"WhoComplainsCarriesModel", "stands", "(I)Z"⟩, 42) := ⟨⟨by decide +kernel, by decide +kernel⟩, List.mem_of_getElem? (i := 812) (by decide +kernel), List.mem_of_getElem? (i := 1049) (by decide +kernel), List.mem_of_getElem? (i := 1050) (by decide +kernel)⟩
theorem lw_p43 : lw_okq (⟨"WhoComplainsCarriesModel", "wrong", "(I)Z"⟩, 42) := ⟨⟨by decide +kernel, by decide +kernel⟩, List.mem_of_getElem? (i := 812) (by decide +kernel), List.mem_of_getElem? (i := 1053) (by decide +kernel), List.mem_of_getElem? (i := 1054) (by decide +kernel)⟩
theorem lw_p44 : lw_okq (⟨"WhoComplainsCarriesModel", "word", "()I"⟩, 42) := ⟨⟨by decide +kernel, by decide +kernel⟩, List.mem_of_getElem? (i := 812) (by decide +kernel), List.mem_of_getElem? (i := 1057) (by decide +kernel), List.mem_of_getElem? (i := 1058) (by decide +kernel)⟩
theorem lw_p45 : lw_okq (⟨"WhoComplainsCarriesModel", "reads", "()Z"⟩, 42) := ⟨⟨by decide +kernel, by decide +kernel⟩, List.mem_of_getElem? (i := 812) (by decide +kernel), List.mem_of_getElem? (i := 1061) (by decide +kernel), List.mem_of_getElem? (i := 1062) (by decide +kernel)⟩
theorem lw_p46 : lw_okq (⟨"WhoComplainsCarriesModel", "isDigit", "()Z"⟩, 42) := ⟨⟨by decide +kernel, by decide +kernel⟩, List.mem_of_getElem? (i := 812) (by decide +kernel), List.mem_of_getElem? (i := 1065) (by decide +kernel), List.mem_of_getElem? (i := 1066) (by decide +kernel)⟩
theorem lw_p47 : lw_okq (⟨"WhoComplainsCarriesModel", "isSo", "(II)Z"⟩, 42) := ⟨⟨by decide +kernel, by decide +kernel⟩, List.mem_of_getElem? (i := 812) (by decide +kernel), List.mem_of_getElem? (i := 1069) (by decide +kernel), List.mem_of_getElem? (i := 1070) (by decide +kernel)⟩
def lw_privs_3 : List (MethodName × Nat) := [(⟨"WhoComplainsCarriesModel", "limit", "(I)I"⟩, 42), (⟨"WhoComplainsCarriesModel", "toil", "(I)I"⟩, 42), (⟨"WhoComplainsCarriesModel", "pace", "(I)I"⟩, 42), (⟨"WhoComplainsCarriesModel", "isFrom", "(III)Z"⟩, 42), (⟨"WhoComplainsCarriesModel", "adds", "(IIII)I"⟩, 42), (⟨"WhoComplainsCarriesModel", "noTen", "(I)I"⟩, 42), (⟨"WhoComplainsCarriesModel", "wanted", "(I)I"⟩, 42), (⟨"WhoComplainsCarriesModel", "all", "([IZ)V"⟩, 42), (⟨"WhoComplainsCarriesModel", "carries", "([I[IIZ)I"⟩, 42), (⟨"WhoComplainsCarriesModel", "item", "()Z"⟩, 42), (⟨"WhoComplainsCarriesModel", "stands", "(I)Z"⟩, 42), (⟨"WhoComplainsCarriesModel", "wrong", "(I)Z"⟩, 42), (⟨"WhoComplainsCarriesModel", "word", "()I"⟩, 42), (⟨"WhoComplainsCarriesModel", "reads", "()Z"⟩, 42), (⟨"WhoComplainsCarriesModel", "isDigit", "()Z"⟩, 42), (⟨"WhoComplainsCarriesModel", "isSo", "(II)Z"⟩, 42)]
theorem lw_r3 : ∀ q ∈ lw_privs_3, lw_okq q := List.forall_mem_cons.mpr ⟨lw_p32, List.forall_mem_cons.mpr ⟨lw_p33, List.forall_mem_cons.mpr ⟨lw_p34, List.forall_mem_cons.mpr ⟨lw_p35, List.forall_mem_cons.mpr ⟨lw_p36, List.forall_mem_cons.mpr ⟨lw_p37, List.forall_mem_cons.mpr ⟨lw_p38, List.forall_mem_cons.mpr ⟨lw_p39, List.forall_mem_cons.mpr ⟨lw_p40, List.forall_mem_cons.mpr ⟨lw_p41, List.forall_mem_cons.mpr ⟨lw_p42, List.forall_mem_cons.mpr ⟨lw_p43, List.forall_mem_cons.mpr ⟨lw_p44, List.forall_mem_cons.mpr ⟨lw_p45, List.forall_mem_cons.mpr ⟨lw_p46, List.forall_mem_cons.mpr ⟨lw_p47, fun _ h => absurd h List.not_mem_nil⟩⟩⟩⟩⟩⟩⟩⟩⟩⟩⟩⟩⟩⟩⟩⟩
theorem lw_p48 : lw_okq (⟨"WhoComplainsCarriesModel", "wouldSigh", "(II)Z"⟩, 42) := ⟨⟨by decide +kernel, by decide +kernel⟩, List.mem_of_getElem? (i := 812) (by decide +kernel), List.mem_of_getElem? (i := 1081) (by decide +kernel), List.mem_of_getElem? (i := 1082) (by decide +kernel)⟩
theorem lw_p49 : lw_okq (⟨"WhoComplainsCarriesModel", "step", "(Z)V"⟩, 42) := ⟨⟨by decide +kernel, by decide +kernel⟩, List.mem_of_getElem? (i := 812) (by decide +kernel), List.mem_of_getElem? (i := 1093) (by decide +kernel), List.mem_of_getElem? (i := 1094) (by decide +kernel)⟩
theorem lw_p50 : lw_okq (⟨"WhoComplainsCarriesModel", "tires", "(II)V"⟩, 42) := ⟨⟨by decide +kernel, by decide +kernel⟩, List.mem_of_getElem? (i := 812) (by decide +kernel), List.mem_of_getElem? (i := 1097) (by decide +kernel), List.mem_of_getElem? (i := 1098) (by decide +kernel)⟩
theorem lw_p51 : lw_okq (⟨"WhoComplainsCarriesModel", "isOver", "()I"⟩, 42) := ⟨⟨by decide +kernel, by decide +kernel⟩, List.mem_of_getElem? (i := 812) (by decide +kernel), List.mem_of_getElem? (i := 1109) (by decide +kernel), List.mem_of_getElem? (i := 1110) (by decide +kernel)⟩
theorem lw_p52 : lw_okq (⟨"WhoComplainsCarriesModel", "tillAbove", "(I)I"⟩, 42) := ⟨⟨by decide +kernel, by decide +kernel⟩, List.mem_of_getElem? (i := 812) (by decide +kernel), List.mem_of_getElem? (i := 1117) (by decide +kernel), List.mem_of_getElem? (i := 1118) (by decide +kernel)⟩
theorem lw_p53 : lw_okq (⟨"WhoComplainsCarriesModel", "legs", "(III)V"⟩, 42) := ⟨⟨by decide +kernel, by decide +kernel⟩, List.mem_of_getElem? (i := 812) (by decide +kernel), List.mem_of_getElem? (i := 1125) (by decide +kernel), List.mem_of_getElem? (i := 1126) (by decide +kernel)⟩
theorem lw_p54 : lw_okq (⟨"WhoComplainsCarriesModel", "goesLeg", "(I)Z"⟩, 42) := ⟨⟨by decide +kernel, by decide +kernel⟩, List.mem_of_getElem? (i := 812) (by decide +kernel), List.mem_of_getElem? (i := 1129) (by decide +kernel), List.mem_of_getElem? (i := 1130) (by decide +kernel)⟩
theorem lw_p55 : lw_okq (⟨"WhoComplainsCarriesModel", "barsOfCases", "(IIZ)I"⟩, 42) := ⟨⟨by decide +kernel, by decide +kernel⟩, List.mem_of_getElem? (i := 812) (by decide +kernel), List.mem_of_getElem? (i := 1137) (by decide +kernel), List.mem_of_getElem? (i := 1138) (by decide +kernel)⟩
theorem lw_p56 : lw_okq (⟨"WhoComplainsCarriesModel", "intAt", "(II)I"⟩, 42) := ⟨⟨by decide +kernel, by decide +kernel⟩, List.mem_of_getElem? (i := 812) (by decide +kernel), List.mem_of_getElem? (i := 1141) (by decide +kernel), List.mem_of_getElem? (i := 1142) (by decide +kernel)⟩
theorem lw_p57 : lw_okq (⟨"WhoComplainsCarriesModel", "clashIn", "(II)I"⟩, 42) := ⟨⟨by decide +kernel, by decide +kernel⟩, List.mem_of_getElem? (i := 812) (by decide +kernel), List.mem_of_getElem? (i := 1145) (by decide +kernel), List.mem_of_getElem? (i := 1146) (by decide +kernel)⟩
theorem lw_p58 : lw_okq (⟨"WhoComplainsCarriesModel", "bearsSo", "(III)Z"⟩, 42) := ⟨⟨by decide +kernel, by decide +kernel⟩, List.mem_of_getElem? (i := 812) (by decide +kernel), List.mem_of_getElem? (i := 1157) (by decide +kernel), List.mem_of_getElem? (i := 1158) (by decide +kernel)⟩
theorem lw_p59 : lw_okq (⟨"WhoComplainsCarriesModel", "overWithout", "(I)I"⟩, 42) := ⟨⟨by decide +kernel, by decide +kernel⟩, List.mem_of_getElem? (i := 812) (by decide +kernel), List.mem_of_getElem? (i := 1165) (by decide +kernel), List.mem_of_getElem? (i := 1166) (by decide +kernel)⟩
theorem lw_p60 : lw_okq (⟨"WhoComplainsCarriesModel", "overBy", "(I)I"⟩, 42) := ⟨⟨by decide +kernel, by decide +kernel⟩, List.mem_of_getElem? (i := 812) (by decide +kernel), List.mem_of_getElem? (i := 1173) (by decide +kernel), List.mem_of_getElem? (i := 1174) (by decide +kernel)⟩
theorem lw_p61 : lw_okq (⟨"WhoComplainsCarriesModel", "barsOfTalk", "(IIZ)I"⟩, 42) := ⟨⟨by decide +kernel, by decide +kernel⟩, List.mem_of_getElem? (i := 812) (by decide +kernel), List.mem_of_getElem? (i := 1185) (by decide +kernel), List.mem_of_getElem? (i := 1186) (by decide +kernel)⟩
theorem lw_p62 : lw_okq (⟨"WhoComplainsCarriesModel", "talks", "(II)I"⟩, 42) := ⟨⟨by decide +kernel, by decide +kernel⟩, List.mem_of_getElem? (i := 812) (by decide +kernel), List.mem_of_getElem? (i := 1189) (by decide +kernel), List.mem_of_getElem? (i := 1190) (by decide +kernel)⟩
theorem lw_p63 : lw_okq (⟨"WhoComplainsCarriesModel", "speaks", "(II)V"⟩, 42) := ⟨⟨by decide +kernel, by decide +kernel⟩, List.mem_of_getElem? (i := 812) (by decide +kernel), List.mem_of_getElem? (i := 1193) (by decide +kernel), List.mem_of_getElem? (i := 1194) (by decide +kernel)⟩
def lw_privs_4 : List (MethodName × Nat) := [(⟨"WhoComplainsCarriesModel", "wouldSigh", "(II)Z"⟩, 42), (⟨"WhoComplainsCarriesModel", "step", "(Z)V"⟩, 42), (⟨"WhoComplainsCarriesModel", "tires", "(II)V"⟩, 42), (⟨"WhoComplainsCarriesModel", "isOver", "()I"⟩, 42), (⟨"WhoComplainsCarriesModel", "tillAbove", "(I)I"⟩, 42), (⟨"WhoComplainsCarriesModel", "legs", "(III)V"⟩, 42), (⟨"WhoComplainsCarriesModel", "goesLeg", "(I)Z"⟩, 42), (⟨"WhoComplainsCarriesModel", "barsOfCases", "(IIZ)I"⟩, 42), (⟨"WhoComplainsCarriesModel", "intAt", "(II)I"⟩, 42), (⟨"WhoComplainsCarriesModel", "clashIn", "(II)I"⟩, 42), (⟨"WhoComplainsCarriesModel", "bearsSo", "(III)Z"⟩, 42), (⟨"WhoComplainsCarriesModel", "overWithout", "(I)I"⟩, 42), (⟨"WhoComplainsCarriesModel", "overBy", "(I)I"⟩, 42), (⟨"WhoComplainsCarriesModel", "barsOfTalk", "(IIZ)I"⟩, 42), (⟨"WhoComplainsCarriesModel", "talks", "(II)I"⟩, 42), (⟨"WhoComplainsCarriesModel", "speaks", "(II)V"⟩, 42)]
theorem lw_r4 : ∀ q ∈ lw_privs_4, lw_okq q := List.forall_mem_cons.mpr ⟨lw_p48, List.forall_mem_cons.mpr ⟨lw_p49, List.forall_mem_cons.mpr ⟨lw_p50, List.forall_mem_cons.mpr ⟨lw_p51, List.forall_mem_cons.mpr ⟨lw_p52, List.forall_mem_cons.mpr ⟨lw_p53, List.forall_mem_cons.mpr ⟨lw_p54, List.forall_mem_cons.mpr ⟨lw_p55, List.forall_mem_cons.mpr ⟨lw_p56, List.forall_mem_cons.mpr ⟨lw_p57, List.forall_mem_cons.mpr ⟨lw_p58, List.forall_mem_cons.mpr ⟨lw_p59, List.forall_mem_cons.mpr ⟨lw_p60, List.forall_mem_cons.mpr ⟨lw_p61, List.forall_mem_cons.mpr ⟨lw_p62, List.forall_mem_cons.mpr ⟨lw_p63, fun _ h => absurd h List.not_mem_nil⟩⟩⟩⟩⟩⟩⟩⟩⟩⟩⟩⟩⟩⟩⟩⟩
theorem lw_p64 : lw_okq (⟨"WhoComplainsCarriesModel", "draw", "(I)I"⟩, 42) := ⟨⟨by decide +kernel, by decide +kernel⟩, List.mem_of_getElem? (i := 812) (by decide +kernel), List.mem_of_getElem? (i := 1217) (by decide +kernel), List.mem_of_getElem? (i := 1218) (by decide +kernel)⟩
theorem lw_p65 : lw_okq (⟨"WhoComplainsCarriesModel", "walking", "(II)I"⟩, 42) := ⟨⟨by decide +kernel, by decide +kernel⟩, List.mem_of_getElem? (i := 812) (by decide +kernel), List.mem_of_getElem? (i := 1230) (by decide +kernel), List.mem_of_getElem? (i := 1231) (by decide +kernel)⟩
theorem lw_p66 : lw_okq (⟨"WhoComplainsCarriesModel", "body", "(I)V"⟩, 42) := ⟨⟨by decide +kernel, by decide +kernel⟩, List.mem_of_getElem? (i := 812) (by decide +kernel), List.mem_of_getElem? (i := 1234) (by decide +kernel), List.mem_of_getElem? (i := 1235) (by decide +kernel)⟩
theorem lw_p67 : lw_okq (⟨"WhoComplainsCarriesModel", "bearing", "(II)I"⟩, 42) := ⟨⟨by decide +kernel, by decide +kernel⟩, List.mem_of_getElem? (i := 812) (by decide +kernel), List.mem_of_getElem? (i := 1238) (by decide +kernel), List.mem_of_getElem? (i := 1239) (by decide +kernel)⟩
theorem lw_p68 : lw_okq (⟨"WhoComplainsCarriesModel", "speaking", "(II)I"⟩, 42) := ⟨⟨by decide +kernel, by decide +kernel⟩, List.mem_of_getElem? (i := 812) (by decide +kernel), List.mem_of_getElem? (i := 1242) (by decide +kernel), List.mem_of_getElem? (i := 1243) (by decide +kernel)⟩
def lw_privs_5 : List (MethodName × Nat) := [(⟨"WhoComplainsCarriesModel", "draw", "(I)I"⟩, 42), (⟨"WhoComplainsCarriesModel", "walking", "(II)I"⟩, 42), (⟨"WhoComplainsCarriesModel", "body", "(I)V"⟩, 42), (⟨"WhoComplainsCarriesModel", "bearing", "(II)I"⟩, 42), (⟨"WhoComplainsCarriesModel", "speaking", "(II)I"⟩, 42)]
theorem lw_r5 : ∀ q ∈ lw_privs_5, lw_okq q := List.forall_mem_cons.mpr ⟨lw_p64, List.forall_mem_cons.mpr ⟨lw_p65, List.forall_mem_cons.mpr ⟨lw_p66, List.forall_mem_cons.mpr ⟨lw_p67, List.forall_mem_cons.mpr ⟨lw_p68, fun _ h => absurd h List.not_mem_nil⟩⟩⟩⟩⟩
def lw_privs : List (MethodName × Nat) := lw_privs_1 ++ (lw_privs_2 ++ (lw_privs_3 ++ (lw_privs_4 ++ (lw_privs_5))))
def lw_tbl : List Cond := k2_sels lw_privs ++ tables_1
theorem lw_privs_ok : ∀ q ∈ lw_privs, lw_okq q := by
  show ∀ q ∈ lw_privs_1 ++ (lw_privs_2 ++ (lw_privs_3 ++ (lw_privs_4 ++ (lw_privs_5)))), lw_okq q
  exact List.forall_mem_append.mpr ⟨lw_r1, List.forall_mem_append.mpr ⟨lw_r2, List.forall_mem_append.mpr ⟨lw_r3, List.forall_mem_append.mpr ⟨lw_r4, lw_r5⟩⟩⟩⟩
-- names
def RX0 : String := "WhoComplainsCarries$Moves"
def TX0 : u_T := fun k => match k with
  | 0 => ("WhoComplainsCarries$Moves", "kept", "[I", true)
  | 1 => ("WhoComplainsCarries$Moves", "ran", "I", false)
  | 2 => ("WhoComplainsCarries$Moves", "kind", "I", false)
  | 3 => ("WhoComplainsCarries$Moves", "m", "I", false)
  | _ => ("WhoComplainsCarries$Moves", "k", "I", false)
def tyX0 : Nat → FieldType := fun k => match k with
  | 0 => .array .int
  | 1 => .int
  | 2 => .int
  | 3 => .int
  | _ => .int
theorem nmX0 : ∀ a, a < 5 → ∀ b, b < 5 → a ≠ b → (TX0 a).2.1 ≠ (TX0 b).2.1 := by decide +kernel
theorem tyX0_ok : ∀ k, k < 5 → parseFieldDescriptor (TX0 k).2.2.1 = some (tyX0 k) := by decide +kernel
abbrev cX0_init : ByteArray := prog_2_method_1_code
def yX0_init : MethodName := ⟨RX0, "<init>", "()V"⟩
abbrev cX0_forget : ByteArray := prog_2_method_2_code
def yX0_forget : MethodName := ⟨RX0, "forget", "()V"⟩
abbrev cX0_bodyKept : ByteArray := prog_2_method_3_code
def yX0_bodyKept : MethodName := ⟨RX0, "bodyKept", "(I)I"⟩
abbrev cX0_run : ByteArray := prog_2_method_4_code
def yX0_run : MethodName := ⟨RX0, "run", "(LWhoComplainsCarries$Person;III)I"⟩
abbrev cX0_runFrom : ByteArray := prog_2_method_5_code
def yX0_runFrom : MethodName := ⟨RX0, "runFrom", "(LWhoComplainsCarries$Moves;IIII)I"⟩
abbrev cX0_bodyAt : ByteArray := prog_2_method_6_code
def yX0_bodyAt : MethodName := ⟨RX0, "bodyAt", "(II)I"⟩
abbrev cX0_begin : ByteArray := prog_2_method_7_code
def yX0_begin : MethodName := ⟨RX0, "begin", "(I)V"⟩
def RX1 : String := "WhoComplainsCarries$Person"
def TX1 : u_T := fun k => match k with
  | 0 => ("WhoComplainsCarries$Person", "kind", "I", false)
  | 1 => ("WhoComplainsCarries$Person", "a", "I", false)
  | 2 => ("WhoComplainsCarries$Person", "strength", "I", false)
  | 3 => ("WhoComplainsCarries$Person", "patience", "I", false)
  | _ => ("WhoComplainsCarries$Person", "tired", "I", false)
def tyX1 : Nat → FieldType := fun k => match k with
  | 0 => .int
  | 1 => .int
  | 2 => .int
  | 3 => .int
  | _ => .int
theorem nmX1 : ∀ a, a < 5 → ∀ b, b < 5 → a ≠ b → (TX1 a).2.1 ≠ (TX1 b).2.1 := by decide +kernel
theorem tyX1_ok : ∀ k, k < 5 → parseFieldDescriptor (TX1 k).2.2.1 = some (tyX1 k) := by decide +kernel
abbrev cX1_init : ByteArray := prog_3_method_1_code
def yX1_init : MethodName := ⟨RX1, "<init>", "()V"⟩
abbrev cX1_become : ByteArray := prog_3_method_2_code
def yX1_become : MethodName := ⟨RX1, "become", "(IIII)V"⟩
abbrev cX1_load : ByteArray := prog_3_method_3_code
def yX1_load : MethodName := ⟨RX1, "load", "(LWhoComplainsCarries$Person;)V"⟩
abbrev cX1_pace : ByteArray := prog_3_method_4_code
def yX1_pace : MethodName := ⟨RX1, "pace", "(I)I"⟩
abbrev cX1_toil : ByteArray := prog_3_method_5_code
def yX1_toil : MethodName := ⟨RX1, "toil", "(I)I"⟩
abbrev cX1_limit : ByteArray := prog_3_method_6_code
def yX1_limit : MethodName := ⟨RX1, "limit", "()I"⟩
abbrev cX1_isSighing : ByteArray := prog_3_method_7_code
def yX1_isSighing : MethodName := ⟨RX1, "isSighing", "()Z"⟩
abbrev cX1_missingToSigh : ByteArray := prog_3_method_8_code
def yX1_missingToSigh : MethodName := ⟨RX1, "missingToSigh", "()I"⟩
abbrev cX1_grow : ByteArray := prog_3_method_9_code
def yX1_grow : MethodName := ⟨RX1, "grow", "(I)V"⟩
abbrev cX1_rest : ByteArray := prog_3_method_10_code
def yX1_rest : MethodName := ⟨RX1, "rest", "(I)V"⟩
abbrev cX1_stepsToLimit : ByteArray := prog_3_method_11_code
def yX1_stepsToLimit : MethodName := ⟨RX1, "stepsToLimit", "(I)I"⟩
def RX2 : String := "WhoComplainsCarries$RelaySearch"
def TX2 : u_T := fun k => match k with
  | 0 => ("WhoComplainsCarries$RelaySearch", "standings", "[LWhoComplainsCarries$Vow;", true)
  | 1 => ("WhoComplainsCarries$RelaySearch", "who", "[I", true)
  | 2 => ("WhoComplainsCarries$RelaySearch", "bestWho", "[I", true)
  | _ => ("WhoComplainsCarries$RelaySearch", "bestDone", "I", false)
def tyX2 : Nat → FieldType := fun k => match k with
  | 0 => .array (.object "WhoComplainsCarries$Vow")
  | 1 => .array .int
  | 2 => .array .int
  | _ => .int
theorem nmX2 : ∀ a, a < 4 → ∀ b, b < 4 → a ≠ b → (TX2 a).2.1 ≠ (TX2 b).2.1 := by decide +kernel
theorem tyX2_ok : ∀ k, k < 4 → parseFieldDescriptor (TX2 k).2.2.1 = some (tyX2 k) := by decide +kernel
abbrev cX2_init : ByteArray := prog_4_method_1_code
def yX2_init : MethodName := ⟨RX2, "<init>", "()V"⟩
abbrev cX2_seek : ByteArray := prog_4_method_2_code
def yX2_seek : MethodName := ⟨RX2, "seek", "(LWhoComplainsCarries$Vow;II)V"⟩
abbrev cX2_bestOnLeg : ByteArray := prog_4_method_3_code
def yX2_bestOnLeg : MethodName := ⟨RX2, "bestOnLeg", "(I)I"⟩
abbrev cX2_tryLeg : ByteArray := prog_4_method_4_code
def yX2_tryLeg : MethodName := ⟨RX2, "tryLeg", "(LWhoComplainsCarries$RelaySearch;III)V"⟩
abbrev cX2_keepIfBetter : ByteArray := prog_4_method_5_code
def yX2_keepIfBetter : MethodName := ⟨RX2, "keepIfBetter", "(I)V"⟩
def RX3 : String := "WhoComplainsCarries$Shelf"
def TX3 : u_T := fun k => match k with
  | 0 => ("WhoComplainsCarries$Shelf", "what", "I", false)
  | 1 => ("WhoComplainsCarries$Shelf", "sort", "I", false)
  | 2 => ("WhoComplainsCarries$Shelf", "size", "I", false)
  | 3 => ("WhoComplainsCarries$Shelf", "person", "I", false)
  | _ => ("WhoComplainsCarries$Shelf", "elements", "[J", true)
def tyX3 : Nat → FieldType := fun k => match k with
  | 0 => .int
  | 1 => .int
  | 2 => .int
  | 3 => .int
  | _ => .array .long
theorem nmX3 : ∀ a, a < 5 → ∀ b, b < 5 → a ≠ b → (TX3 a).2.1 ≠ (TX3 b).2.1 := by decide +kernel
theorem tyX3_ok : ∀ k, k < 5 → parseFieldDescriptor (TX3 k).2.2.1 = some (tyX3 k) := by decide +kernel
abbrev cX3_init : ByteArray := prog_5_method_1_code
def yX3_init : MethodName := ⟨RX3, "<init>", "()V"⟩
abbrev cX3_isRow : ByteArray := prog_5_method_2_code
def yX3_isRow : MethodName := ⟨RX3, "isRow", "()Z"⟩
abbrev cX3_isPerson : ByteArray := prog_5_method_3_code
def yX3_isPerson : MethodName := ⟨RX3, "isPerson", "()Z"⟩
abbrev cX3_holdNothing : ByteArray := prog_5_method_4_code
def yX3_holdNothing : MethodName := ⟨RX3, "holdNothing", "()V"⟩
abbrev cX3_holdPerson : ByteArray := prog_5_method_5_code
def yX3_holdPerson : MethodName := ⟨RX3, "holdPerson", "(I)V"⟩
abbrev cX3_holdRow : ByteArray := prog_5_method_6_code
def yX3_holdRow : MethodName := ⟨RX3, "holdRow", "(II)V"⟩
abbrev cX3_hasElement : ByteArray := prog_5_method_7_code
def yX3_hasElement : MethodName := ⟨RX3, "hasElement", "(I)Z"⟩
abbrev cX3_hasStretch : ByteArray := prog_5_method_8_code
def yX3_hasStretch : MethodName := ⟨RX3, "hasStretch", "(II)Z"⟩
abbrev cX3_put : ByteArray := prog_5_method_9_code
def yX3_put : MethodName := ⟨RX3, "put", "(IJ)V"⟩
abbrev cX3_takeFrom : ByteArray := prog_5_method_10_code
def yX3_takeFrom : MethodName := ⟨RX3, "takeFrom", "(LWhoComplainsCarries$Shelf;III)V"⟩
abbrev cX3_longAt : ByteArray := prog_5_method_11_code
def yX3_longAt : MethodName := ⟨RX3, "longAt", "(I)J"⟩
abbrev cX3_intAt : ByteArray := prog_5_method_12_code
def yX3_intAt : MethodName := ⟨RX3, "intAt", "(I)I"⟩
def RX4 : String := "WhoComplainsCarries$Vow"
def TX4 : u_T := fun k => match k with
  | 0 => ("WhoComplainsCarries$Vow", "people", "[LWhoComplainsCarries$Person;", true)
  | 1 => ("WhoComplainsCarries$Vow", "count", "I", false)
  | 2 => ("WhoComplainsCarries$Vow", "weight", "I", false)
  | 3 => ("WhoComplainsCarries$Vow", "way", "I", false)
  | 4 => ("WhoComplainsCarries$Vow", "done", "I", false)
  | 5 => ("WhoComplainsCarries$Vow", "bearer", "I", false)
  | 6 => ("WhoComplainsCarries$Vow", "steps", "I", false)
  | 7 => ("WhoComplainsCarries$Vow", "rule", "I", false)
  | _ => ("WhoComplainsCarries$Vow", "seed", "I", false)
def tyX4 : Nat → FieldType := fun k => match k with
  | 0 => .array (.object "WhoComplainsCarries$Person")
  | 1 => .int
  | 2 => .int
  | 3 => .int
  | 4 => .int
  | 5 => .int
  | 6 => .int
  | 7 => .int
  | _ => .int
theorem nmX4 : ∀ a, a < 9 → ∀ b, b < 9 → a ≠ b → (TX4 a).2.1 ≠ (TX4 b).2.1 := by decide +kernel
theorem tyX4_ok : ∀ k, k < 9 → parseFieldDescriptor (TX4 k).2.2.1 = some (tyX4 k) := by decide +kernel
abbrev cX4_init : ByteArray := prog_6_method_1_code
def yX4_init : MethodName := ⟨RX4, "<init>", "()V"⟩
abbrev cX4_load : ByteArray := prog_6_method_2_code
def yX4_load : MethodName := ⟨RX4, "load", "(LWhoComplainsCarries$Vow;)V"⟩
abbrev cX4_addPerson : ByteArray := prog_6_method_3_code
def yX4_addPerson : MethodName := ⟨RX4, "addPerson", "(IIII)V"⟩
abbrev cX4_isBorne : ByteArray := prog_6_method_4_code
def yX4_isBorne : MethodName := ⟨RX4, "isBorne", "()Z"⟩
abbrev cX4_counts : ByteArray := prog_6_method_5_code
def yX4_counts : MethodName := ⟨RX4, "counts", "(I)Z"⟩
abbrev cX4_takeSteps : ByteArray := prog_6_method_6_code
def yX4_takeSteps : MethodName := ⟨RX4, "takeSteps", "(I)V"⟩
abbrev cX4_step : ByteArray := prog_6_method_7_code
def yX4_step : MethodName := ⟨RX4, "step", "(I)V"⟩
abbrev cX4_bearOrRest : ByteArray := prog_6_method_8_code
def yX4_bearOrRest : MethodName := ⟨RX4, "bearOrRest", "()V"⟩
abbrev cX4_comeToSigher : ByteArray := prog_6_method_9_code
def yX4_comeToSigher : MethodName := ⟨RX4, "comeToSigher", "(I)V"⟩
abbrev cX4_stepsToWay : ByteArray := prog_6_method_10_code
def yX4_stepsToWay : MethodName := ⟨RX4, "stepsToWay", "(II)I"⟩
abbrev cX4_hear : ByteArray := prog_6_method_11_code
def yX4_hear : MethodName := ⟨RX4, "hear", "(II)V"⟩
abbrev cX4_hearThatItIsLight : ByteArray := prog_6_method_12_code
def yX4_hearThatItIsLight : MethodName := ⟨RX4, "hearThatItIsLight", "(I)V"⟩
abbrev cX4_growHeavier : ByteArray := prog_6_method_13_code
def yX4_growHeavier : MethodName := ⟨RX4, "growHeavier", "()V"⟩
abbrev cX4_hearTalk : ByteArray := prog_6_method_14_code
def yX4_hearTalk : MethodName := ⟨RX4, "hearTalk", "(LWhoComplainsCarries$Shelf;I)V"⟩
abbrev cX4_passDay : ByteArray := prog_6_method_15_code
def yX4_passDay : MethodName := ⟨RX4, "passDay", "()V"⟩
abbrev cX4_draw : ByteArray := prog_6_method_16_code
def yX4_draw : MethodName := ⟨RX4, "draw", "(I)I"⟩
abbrev cX4_tiredTogether : ByteArray := prog_6_method_17_code
def yX4_tiredTogether : MethodName := ⟨RX4, "tiredTogether", "()I"⟩
abbrev cX4_bearLeg : ByteArray := prog_6_method_18_code
def yX4_bearLeg : MethodName := ⟨RX4, "bearLeg", "(II)Z"⟩
def RX5 : String := "WhoComplainsCarries$VowReader"
def TX5 : u_T := fun k => match k with
  | 0 => ("WhoComplainsCarries$VowReader", "letters", "[I", true)
  | 1 => ("WhoComplainsCarries$VowReader", "size", "I", false)
  | 2 => ("WhoComplainsCarries$VowReader", "draft", "LWhoComplainsCarries$Vow;", true)
  | 3 => ("WhoComplainsCarries$VowReader", "place", "I", false)
  | _ => ("WhoComplainsCarries$VowReader", "fault", "I", false)
def tyX5 : Nat → FieldType := fun k => match k with
  | 0 => .array .int
  | 1 => .int
  | 2 => .object "WhoComplainsCarries$Vow"
  | 3 => .int
  | _ => .int
theorem nmX5 : ∀ a, a < 5 → ∀ b, b < 5 → a ≠ b → (TX5 a).2.1 ≠ (TX5 b).2.1 := by decide +kernel
theorem tyX5_ok : ∀ k, k < 5 → parseFieldDescriptor (TX5 k).2.2.1 = some (tyX5 k) := by decide +kernel
abbrev cX5_init : ByteArray := prog_7_method_1_code
def yX5_init : MethodName := ⟨RX5, "<init>", "()V"⟩
abbrev cX5_readItems : ByteArray := prog_7_method_2_code
def yX5_readItems : MethodName := ⟨RX5, "readItems", "(LWhoComplainsCarries$Shelf;LWhoComplainsCarries$Vow;)I"⟩
abbrev cX5_takeLetters : ByteArray := prog_7_method_3_code
def yX5_takeLetters : MethodName := ⟨RX5, "takeLetters", "(LWhoComplainsCarries$Shelf;)V"⟩
abbrev cX5_readItem : ByteArray := prog_7_method_4_code
def yX5_readItem : MethodName := ⟨RX5, "readItem", "()V"⟩
abbrev cX5_readPerson : ByteArray := prog_7_method_5_code
def yX5_readPerson : MethodName := ⟨RX5, "readPerson", "(I)V"⟩
abbrev cX5_tellWeight : ByteArray := prog_7_method_6_code
def yX5_tellWeight : MethodName := ⟨RX5, "tellWeight", "(I)V"⟩
abbrev cX5_tellWay : ByteArray := prog_7_method_7_code
def yX5_tellWay : MethodName := ⟨RX5, "tellWay", "(I)V"⟩
abbrev cX5_tellBearer : ByteArray := prog_7_method_8_code
def yX5_tellBearer : MethodName := ⟨RX5, "tellBearer", "(I)V"⟩
abbrev cX5_tellSort : ByteArray := prog_7_method_9_code
def yX5_tellSort : MethodName := ⟨RX5, "tellSort", "(IZ)V"⟩
abbrev cX5_readWord : ByteArray := prog_7_method_10_code
def yX5_readWord : MethodName := ⟨RX5, "readWord", "()I"⟩
abbrev cX5_lettersOf : ByteArray := prog_7_method_11_code
def yX5_lettersOf : MethodName := ⟨RX5, "lettersOf", "(I)Ljava/lang/String;"⟩
abbrev cX5_readNumber : ByteArray := prog_7_method_12_code
def yX5_readNumber : MethodName := ⟨RX5, "readNumber", "(II)I"⟩
abbrev cX5_expect : ByteArray := prog_7_method_13_code
def yX5_expect : MethodName := ⟨RX5, "expect", "(I)V"⟩
abbrev cX5_isDigit : ByteArray := prog_7_method_14_code
def yX5_isDigit : MethodName := ⟨RX5, "isDigit", "(I)Z"⟩
abbrev cX5_letterHere : ByteArray := prog_7_method_15_code
def yX5_letterHere : MethodName := ⟨RX5, "letterHere", "()I"⟩
def RX6 : String := "WhoComplainsCarries"
def TX6 : u_T := fun k => match k with
  | 0 => ("WhoComplainsCarries", "shelves", "[LWhoComplainsCarries$Shelf;", true)
  | 1 => ("WhoComplainsCarries", "now", "LWhoComplainsCarries$Vow;", true)
  | 2 => ("WhoComplainsCarries", "image", "LWhoComplainsCarries$Vow;", true)
  | 3 => ("WhoComplainsCarries", "trial", "LWhoComplainsCarries$Vow;", true)
  | 4 => ("WhoComplainsCarries", "relaySearch", "LWhoComplainsCarries$RelaySearch;", true)
  | 5 => ("WhoComplainsCarries", "reader", "LWhoComplainsCarries$VowReader;", true)
  | 6 => ("WhoComplainsCarries", "moves", "LWhoComplainsCarries$Moves;", true)
  | 7 => ("WhoComplainsCarries", "refusals", "[I", true)
  | 8 => ("WhoComplainsCarries", "imageTaken", "Z", false)
  | _ => ("WhoComplainsCarries", "fault", "I", false)
def tyX6 : Nat → FieldType := fun k => match k with
  | 0 => .array (.object "WhoComplainsCarries$Shelf")
  | 1 => .object "WhoComplainsCarries$Vow"
  | 2 => .object "WhoComplainsCarries$Vow"
  | 3 => .object "WhoComplainsCarries$Vow"
  | 4 => .object "WhoComplainsCarries$RelaySearch"
  | 5 => .object "WhoComplainsCarries$VowReader"
  | 6 => .object "WhoComplainsCarries$Moves"
  | 7 => .array .int
  | 8 => .boolean
  | _ => .int
theorem nmX6 : ∀ a, a < 10 → ∀ b, b < 10 → a ≠ b → (TX6 a).2.1 ≠ (TX6 b).2.1 := by decide +kernel
theorem tyX6_ok : ∀ k, k < 10 → parseFieldDescriptor (TX6 k).2.2.1 = some (tyX6 k) := by decide +kernel
abbrev cX6_init : ByteArray := prog_1_method_1_code
def yX6_init : MethodName := ⟨RX6, "<init>", "()V"⟩
abbrev cX6_row : ByteArray := prog_1_method_2_code
def yX6_row : MethodName := ⟨RX6, "row", "(III)I"⟩
abbrev cX6_set : ByteArray := prog_1_method_3_code
def yX6_set : MethodName := ⟨RX6, "set", "(IIJ)I"⟩
abbrev cX6_copy : ByteArray := prog_1_method_4_code
def yX6_copy : MethodName := ⟨RX6, "copy", "(IIIII)I"⟩
abbrev cX6_element : ByteArray := prog_1_method_5_code
def yX6_element : MethodName := ⟨RX6, "element", "(II)J"⟩
abbrev cX6_show : ByteArray := prog_1_method_6_code
def yX6_show : MethodName := ⟨RX6, "show", "(II)I"⟩
abbrev cX6_holds : ByteArray := prog_1_method_7_code
def yX6_holds : MethodName := ⟨RX6, "holds", "(I)I"⟩
abbrev cX6_says : ByteArray := prog_1_method_8_code
def yX6_says : MethodName := ⟨RX6, "says", "(II)I"⟩
abbrev cX6_person : ByteArray := prog_1_method_9_code
def yX6_person : MethodName := ⟨RX6, "person", "(IIII)I"⟩
abbrev cX6_ask : ByteArray := prog_1_method_10_code
def yX6_ask : MethodName := ⟨RX6, "ask", "(II)I"⟩
abbrev cX6_tire : ByteArray := prog_1_method_11_code
def yX6_tire : MethodName := ⟨RX6, "tire", "(II)I"⟩
abbrev cX6_give : ByteArray := prog_1_method_12_code
def yX6_give : MethodName := ⟨RX6, "give", "(I)I"⟩
abbrev cX6_personOf : ByteArray := prog_1_method_13_code
def yX6_personOf : MethodName := ⟨RX6, "personOf", "(II)I"⟩
abbrev cX6_vow : ByteArray := prog_1_method_14_code
def yX6_vow : MethodName := ⟨RX6, "vow", "(I)I"⟩
abbrev cX6_fault : ByteArray := prog_1_method_15_code
def yX6_fault : MethodName := ⟨RX6, "fault", "()I"⟩
abbrev cX6_sighs : ByteArray := prog_1_method_16_code
def yX6_sighs : MethodName := ⟨RX6, "sighs", "(I)I"⟩
abbrev cX6_ready : ByteArray := prog_1_method_17_code
def yX6_ready : MethodName := ⟨RX6, "ready", "(I)I"⟩
abbrev cX6_ahead : ByteArray := prog_1_method_18_code
def yX6_ahead : MethodName := ⟨RX6, "ahead", "(II)I"⟩
abbrev cX6_tired : ByteArray := prog_1_method_19_code
def yX6_tired : MethodName := ⟨RX6, "tired", "(II)I"⟩
abbrev cX6_over : ByteArray := prog_1_method_20_code
def yX6_over : MethodName := ⟨RX6, "over", "()I"⟩
abbrev cX6_alone : ByteArray := prog_1_method_21_code
def yX6_alone : MethodName := ⟨RX6, "alone", "(II)I"⟩
abbrev cX6_relay : ByteArray := prog_1_method_22_code
def yX6_relay : MethodName := ⟨RX6, "relay", "(III)I"⟩
abbrev cX6_cases : ByteArray := prog_1_method_23_code
def yX6_cases : MethodName := ⟨RX6, "cases", "(III)I"⟩
abbrev cX6_clash : ByteArray := prog_1_method_24_code
def yX6_clash : MethodName := ⟨RX6, "clash", "(II)I"⟩
abbrev cX6_borne : ByteArray := prog_1_method_25_code
def yX6_borne : MethodName := ⟨RX6, "borne", "(II)I"⟩
abbrev cX6_without : ByteArray := prog_1_method_26_code
def yX6_without : MethodName := ⟨RX6, "without", "()I"⟩
abbrev cX6_weights : ByteArray := prog_1_method_27_code
def yX6_weights : MethodName := ⟨RX6, "weights", "(II)I"⟩
abbrev cX6_praise : ByteArray := prog_1_method_28_code
def yX6_praise : MethodName := ⟨RX6, "praise", "(I)I"⟩
abbrev cX6_judge : ByteArray := prog_1_method_29_code
def yX6_judge : MethodName := ⟨RX6, "judge", "(II)I"⟩
abbrev cX6_behind : ByteArray := prog_1_method_30_code
def yX6_behind : MethodName := ⟨RX6, "behind", "(III)I"⟩
abbrev cX6_done : ByteArray := prog_1_method_31_code
def yX6_done : MethodName := ⟨RX6, "done", "(II)I"⟩
abbrev cX6_say : ByteArray := prog_1_method_32_code
def yX6_say : MethodName := ⟨RX6, "say", "(II)I"⟩
abbrev cX6_steps : ByteArray := prog_1_method_33_code
def yX6_steps : MethodName := ⟨RX6, "steps", "(I)I"⟩
abbrev cX6_days : ByteArray := prog_1_method_34_code
def yX6_days : MethodName := ⟨RX6, "days", "(I)I"⟩
abbrev cX6_seed : ByteArray := prog_1_method_35_code
def yX6_seed : MethodName := ⟨RX6, "seed", "(I)I"⟩
abbrev cX6_act : ByteArray := prog_1_method_36_code
def yX6_act : MethodName := ⟨RX6, "act", "(III)I"⟩
abbrev cX6_trace : ByteArray := prog_1_method_37_code
def yX6_trace : MethodName := ⟨RX6, "trace", "(I)I"⟩
abbrev cX6_image : ByteArray := prog_1_method_38_code
def yX6_image : MethodName := ⟨RX6, "image", "()I"⟩
abbrev cX6_restore : ByteArray := prog_1_method_39_code
def yX6_restore : MethodName := ⟨RX6, "restore", "()I"⟩
abbrev cX6_status : ByteArray := prog_1_method_40_code
def yX6_status : MethodName := ⟨RX6, "status", "(I)I"⟩
abbrev cX6_isIn : ByteArray := prog_1_method_41_code
def yX6_isIn : MethodName := ⟨RX6, "isIn", "(III)Z"⟩
abbrev cX6_isShelf : ByteArray := prog_1_method_42_code
def yX6_isShelf : MethodName := ⟨RX6, "isShelf", "(I)Z"⟩
abbrev cX6_isKind : ByteArray := prog_1_method_43_code
def yX6_isKind : MethodName := ⟨RX6, "isKind", "(I)Z"⟩
abbrev cX6_isPerson : ByteArray := prog_1_method_44_code
def yX6_isPerson : MethodName := ⟨RX6, "isPerson", "(I)Z"⟩
abbrev cX6_isPersonOrNone : ByteArray := prog_1_method_45_code
def yX6_isPersonOrNone : MethodName := ⟨RX6, "isPersonOrNone", "(I)Z"⟩
abbrev cX6_kindAbove : ByteArray := prog_1_method_46_code
def yX6_kindAbove : MethodName := ⟨RX6, "kindAbove", "(I)I"⟩
abbrev cX6_isUnder : ByteArray := prog_1_method_47_code
def yX6_isUnder : MethodName := ⟨RX6, "isUnder", "(II)Z"⟩
abbrev cX6_upward : ByteArray := prog_1_method_48_code
def yX6_upward : MethodName := ⟨RX6, "upward", "(II)I"⟩
abbrev cX6_refuse : ByteArray := prog_1_method_49_code
def yX6_refuse : MethodName := ⟨RX6, "refuse", "(I)I"⟩
abbrev cX6_refuseFar : ByteArray := prog_1_method_50_code
def yX6_refuseFar : MethodName := ⟨RX6, "refuseFar", "(I)I"⟩
abbrev cX6_rowRefusal : ByteArray := prog_1_method_51_code
def yX6_rowRefusal : MethodName := ⟨RX6, "rowRefusal", "(I)I"⟩
abbrev cX6_copyRefusal : ByteArray := prog_1_method_52_code
def yX6_copyRefusal : MethodName := ⟨RX6, "copyRefusal", "(IIIII)I"⟩
abbrev cX6_toldRefusal : ByteArray := prog_1_method_53_code
def yX6_toldRefusal : MethodName := ⟨RX6, "toldRefusal", "(IIJZ)I"⟩
abbrev cX6_casesRefusal : ByteArray := prog_1_method_54_code
def yX6_casesRefusal : MethodName := ⟨RX6, "casesRefusal", "(IIZ)I"⟩
abbrev cX6_talkRefusal : ByteArray := prog_1_method_55_code
def yX6_talkRefusal : MethodName := ⟨RX6, "talkRefusal", "(IIZ)I"⟩
abbrev cX6_firstClash : ByteArray := prog_1_method_56_code
def yX6_firstClash : MethodName := ⟨RX6, "firstClash", "(LWhoComplainsCarries$Shelf;I)I"⟩
abbrev cX6_sortsTold : ByteArray := prog_1_method_57_code
def yX6_sortsTold : MethodName := ⟨RX6, "sortsTold", "(LWhoComplainsCarries$Shelf;II)I"⟩
abbrev cX6_firstWrong : ByteArray := prog_1_method_58_code
def yX6_firstWrong : MethodName := ⟨RX6, "firstWrong", "(LWhoComplainsCarries$Shelf;I)I"⟩
abbrev cX6_goesAsTold : ByteArray := prog_1_method_59_code
def yX6_goesAsTold : MethodName := ⟨RX6, "goesAsTold", "(ILWhoComplainsCarries$Shelf;I)Z"⟩
abbrev cX6_overWithin : ByteArray := prog_1_method_60_code
def yX6_overWithin : MethodName := ⟨RX6, "overWithin", "(II)I"⟩
def RX7 : String := "WhoComplainsCarriesModel"
def TX7 : u_T := fun k => match k with
  | 0 => ("WhoComplainsCarriesModel", "people", "I", false)
  | 1 => ("WhoComplainsCarriesModel", "weight", "I", false)
  | 2 => ("WhoComplainsCarriesModel", "way", "I", false)
  | 3 => ("WhoComplainsCarriesModel", "gone", "I", false)
  | 4 => ("WhoComplainsCarriesModel", "bearer", "I", false)
  | 5 => ("WhoComplainsCarriesModel", "taken", "I", false)
  | 6 => ("WhoComplainsCarriesModel", "rule", "I", false)
  | 7 => ("WhoComplainsCarriesModel", "seed", "I", false)
  | 8 => ("WhoComplainsCarriesModel", "fault", "I", false)
  | 9 => ("WhoComplainsCarriesModel", "refused", "[I", true)
  | 10 => ("WhoComplainsCarriesModel", "kind", "[I", true)
  | 11 => ("WhoComplainsCarriesModel", "part", "[I", true)
  | 12 => ("WhoComplainsCarriesModel", "strength", "[I", true)
  | 13 => ("WhoComplainsCarriesModel", "patience", "[I", true)
  | 14 => ("WhoComplainsCarriesModel", "tiredness", "[I", true)
  | 15 => ("WhoComplainsCarriesModel", "held", "[I", true)
  | 16 => ("WhoComplainsCarriesModel", "sort", "[I", true)
  | 17 => ("WhoComplainsCarriesModel", "size", "[I", true)
  | 18 => ("WhoComplainsCarriesModel", "shown", "[I", true)
  | 19 => ("WhoComplainsCarriesModel", "cells", "[J", true)
  | 20 => ("WhoComplainsCarriesModel", "carried", "[J", true)
  | 21 => ("WhoComplainsCarriesModel", "words", "[I", true)
  | 22 => ("WhoComplainsCarriesModel", "numbers", "[I", true)
  | 23 => ("WhoComplainsCarriesModel", "mosts", "[I", true)
  | 24 => ("WhoComplainsCarriesModel", "told", "[I", true)
  | 25 => ("WhoComplainsCarriesModel", "base", "I", false)
  | 26 => ("WhoComplainsCarriesModel", "place", "I", false)
  | 27 => ("WhoComplainsCarriesModel", "end", "I", false)
  | 28 => ("WhoComplainsCarriesModel", "number", "I", false)
  | 29 => ("WhoComplainsCarriesModel", "wrongAt", "I", false)
  | 30 => ("WhoComplainsCarriesModel", "was", "[I", true)
  | 31 => ("WhoComplainsCarriesModel", "kept", "[I", true)
  | 32 => ("WhoComplainsCarriesModel", "later", "[I", true)
  | 33 => ("WhoComplainsCarriesModel", "muted", "I", false)
  | 34 => ("WhoComplainsCarriesModel", "leg", "[I", true)
  | 35 => ("WhoComplainsCarriesModel", "bestLeg", "[I", true)
  | 36 => ("WhoComplainsCarriesModel", "farthest", "I", false)
  | 37 => ("WhoComplainsCarriesModel", "counting", "I", false)
  | 38 => ("WhoComplainsCarriesModel", "freed", "I", false)
  | 39 => ("WhoComplainsCarriesModel", "trace", "[I", true)
  | 40 => ("WhoComplainsCarriesModel", "ran", "I", false)
  | _ => ("WhoComplainsCarriesModel", "isThere", "Z", false)
def tyX7 : Nat → FieldType := fun k => match k with
  | 0 => .int
  | 1 => .int
  | 2 => .int
  | 3 => .int
  | 4 => .int
  | 5 => .int
  | 6 => .int
  | 7 => .int
  | 8 => .int
  | 9 => .array .int
  | 10 => .array .int
  | 11 => .array .int
  | 12 => .array .int
  | 13 => .array .int
  | 14 => .array .int
  | 15 => .array .int
  | 16 => .array .int
  | 17 => .array .int
  | 18 => .array .int
  | 19 => .array .long
  | 20 => .array .long
  | 21 => .array .int
  | 22 => .array .int
  | 23 => .array .int
  | 24 => .array .int
  | 25 => .int
  | 26 => .int
  | 27 => .int
  | 28 => .int
  | 29 => .int
  | 30 => .array .int
  | 31 => .array .int
  | 32 => .array .int
  | 33 => .int
  | 34 => .array .int
  | 35 => .array .int
  | 36 => .int
  | 37 => .int
  | 38 => .int
  | 39 => .array .int
  | 40 => .int
  | _ => .boolean
theorem nmX7 : ∀ a, a < 42 → ∀ b, b < 42 → a ≠ b → (TX7 a).2.1 ≠ (TX7 b).2.1 := by decide +kernel
theorem tyX7_ok : ∀ k, k < 42 → parseFieldDescriptor (TX7 k).2.2.1 = some (tyX7 k) := by decide +kernel
abbrev cX7_init : ByteArray := prog_9_method_1_code
def yX7_init : MethodName := ⟨RX7, "<init>", "()V"⟩
abbrev cX7_no : ByteArray := prog_9_method_2_code
def yX7_no : MethodName := ⟨RX7, "no", "(I)I"⟩
abbrev cX7_noTen : ByteArray := prog_9_method_3_code
def yX7_noTen : MethodName := ⟨RX7, "noTen", "(I)I"⟩
abbrev cX7_isShelf : ByteArray := prog_9_method_4_code
def yX7_isShelf : MethodName := ⟨RX7, "isShelf", "(I)Z"⟩
abbrev cX7_isOne : ByteArray := prog_9_method_5_code
def yX7_isOne : MethodName := ⟨RX7, "isOne", "(I)Z"⟩
abbrev cX7_isFrom : ByteArray := prog_9_method_6_code
def yX7_isFrom : MethodName := ⟨RX7, "isFrom", "(III)Z"⟩
abbrev cX7_row : ByteArray := prog_9_method_7_code
def yX7_row : MethodName := ⟨RX7, "row", "(III)I"⟩
abbrev cX7_set : ByteArray := prog_9_method_8_code
def yX7_set : MethodName := ⟨RX7, "set", "(IIJ)I"⟩
abbrev cX7_copy : ByteArray := prog_9_method_9_code
def yX7_copy : MethodName := ⟨RX7, "copy", "(IIIII)I"⟩
abbrev cX7_element : ByteArray := prog_9_method_10_code
def yX7_element : MethodName := ⟨RX7, "element", "(II)J"⟩
abbrev cX7_show : ByteArray := prog_9_method_11_code
def yX7_show : MethodName := ⟨RX7, "show", "(II)I"⟩
abbrev cX7_holds : ByteArray := prog_9_method_12_code
def yX7_holds : MethodName := ⟨RX7, "holds", "(I)I"⟩
abbrev cX7_says : ByteArray := prog_9_method_13_code
def yX7_says : MethodName := ⟨RX7, "says", "(II)I"⟩
abbrev cX7_wanted : ByteArray := prog_9_method_14_code
def yX7_wanted : MethodName := ⟨RX7, "wanted", "(I)I"⟩
abbrev cX7_intAt : ByteArray := prog_9_method_15_code
def yX7_intAt : MethodName := ⟨RX7, "intAt", "(II)I"⟩
abbrev cX7_adds : ByteArray := prog_9_method_16_code
def yX7_adds : MethodName := ⟨RX7, "adds", "(IIII)I"⟩
abbrev cX7_person : ByteArray := prog_9_method_17_code
def yX7_person : MethodName := ⟨RX7, "person", "(IIII)I"⟩
abbrev cX7_ask : ByteArray := prog_9_method_18_code
def yX7_ask : MethodName := ⟨RX7, "ask", "(II)I"⟩
abbrev cX7_tire : ByteArray := prog_9_method_19_code
def yX7_tire : MethodName := ⟨RX7, "tire", "(II)I"⟩
abbrev cX7_give : ByteArray := prog_9_method_20_code
def yX7_give : MethodName := ⟨RX7, "give", "(I)I"⟩
abbrev cX7_personOf : ByteArray := prog_9_method_21_code
def yX7_personOf : MethodName := ⟨RX7, "personOf", "(II)I"⟩
abbrev cX7_wrong : ByteArray := prog_9_method_22_code
def yX7_wrong : MethodName := ⟨RX7, "wrong", "(I)Z"⟩
abbrev cX7_stands : ByteArray := prog_9_method_23_code
def yX7_stands : MethodName := ⟨RX7, "stands", "(I)Z"⟩
abbrev cX7_word : ByteArray := prog_9_method_24_code
def yX7_word : MethodName := ⟨RX7, "word", "()I"⟩
abbrev cX7_isDigit : ByteArray := prog_9_method_25_code
def yX7_isDigit : MethodName := ⟨RX7, "isDigit", "()Z"⟩
abbrev cX7_reads : ByteArray := prog_9_method_26_code
def yX7_reads : MethodName := ⟨RX7, "reads", "()Z"⟩
abbrev cX7_isSo : ByteArray := prog_9_method_27_code
def yX7_isSo : MethodName := ⟨RX7, "isSo", "(II)Z"⟩
abbrev cX7_item : ByteArray := prog_9_method_28_code
def yX7_item : MethodName := ⟨RX7, "item", "()Z"⟩
abbrev cX7_carries : ByteArray := prog_9_method_29_code
def yX7_carries : MethodName := ⟨RX7, "carries", "([I[IIZ)I"⟩
abbrev cX7_all : ByteArray := prog_9_method_30_code
def yX7_all : MethodName := ⟨RX7, "all", "([IZ)V"⟩
abbrev cX7_vow : ByteArray := prog_9_method_31_code
def yX7_vow : MethodName := ⟨RX7, "vow", "(I)I"⟩
abbrev cX7_fault : ByteArray := prog_9_method_32_code
def yX7_fault : MethodName := ⟨RX7, "fault", "()I"⟩
abbrev cX7_pace : ByteArray := prog_9_method_33_code
def yX7_pace : MethodName := ⟨RX7, "pace", "(I)I"⟩
abbrev cX7_toil : ByteArray := prog_9_method_34_code
def yX7_toil : MethodName := ⟨RX7, "toil", "(I)I"⟩
abbrev cX7_limit : ByteArray := prog_9_method_35_code
def yX7_limit : MethodName := ⟨RX7, "limit", "(I)I"⟩
abbrev cX7_wouldSigh : ByteArray := prog_9_method_36_code
def yX7_wouldSigh : MethodName := ⟨RX7, "wouldSigh", "(II)Z"⟩
abbrev cX7_tires : ByteArray := prog_9_method_37_code
def yX7_tires : MethodName := ⟨RX7, "tires", "(II)V"⟩
abbrev cX7_step : ByteArray := prog_9_method_38_code
def yX7_step : MethodName := ⟨RX7, "step", "(Z)V"⟩
abbrev cX7_sighs : ByteArray := prog_9_method_39_code
def yX7_sighs : MethodName := ⟨RX7, "sighs", "(I)I"⟩
abbrev cX7_ready : ByteArray := prog_9_method_40_code
def yX7_ready : MethodName := ⟨RX7, "ready", "(I)I"⟩
abbrev cX7_ahead : ByteArray := prog_9_method_41_code
def yX7_ahead : MethodName := ⟨RX7, "ahead", "(II)I"⟩
abbrev cX7_tired : ByteArray := prog_9_method_42_code
def yX7_tired : MethodName := ⟨RX7, "tired", "(II)I"⟩
abbrev cX7_isOver : ByteArray := prog_9_method_43_code
def yX7_isOver : MethodName := ⟨RX7, "isOver", "()I"⟩
abbrev cX7_over : ByteArray := prog_9_method_44_code
def yX7_over : MethodName := ⟨RX7, "over", "()I"⟩
abbrev cX7_tillAbove : ByteArray := prog_9_method_45_code
def yX7_tillAbove : MethodName := ⟨RX7, "tillAbove", "(I)I"⟩
abbrev cX7_alone : ByteArray := prog_9_method_46_code
def yX7_alone : MethodName := ⟨RX7, "alone", "(II)I"⟩
abbrev cX7_goesLeg : ByteArray := prog_9_method_47_code
def yX7_goesLeg : MethodName := ⟨RX7, "goesLeg", "(I)Z"⟩
abbrev cX7_legs : ByteArray := prog_9_method_48_code
def yX7_legs : MethodName := ⟨RX7, "legs", "(III)V"⟩
abbrev cX7_relay : ByteArray := prog_9_method_49_code
def yX7_relay : MethodName := ⟨RX7, "relay", "(III)I"⟩
abbrev cX7_barsOfCases : ByteArray := prog_9_method_50_code
def yX7_barsOfCases : MethodName := ⟨RX7, "barsOfCases", "(IIZ)I"⟩
abbrev cX7_clashIn : ByteArray := prog_9_method_51_code
def yX7_clashIn : MethodName := ⟨RX7, "clashIn", "(II)I"⟩
abbrev cX7_cases : ByteArray := prog_9_method_52_code
def yX7_cases : MethodName := ⟨RX7, "cases", "(III)I"⟩
abbrev cX7_clash : ByteArray := prog_9_method_53_code
def yX7_clash : MethodName := ⟨RX7, "clash", "(II)I"⟩
abbrev cX7_bearsSo : ByteArray := prog_9_method_54_code
def yX7_bearsSo : MethodName := ⟨RX7, "bearsSo", "(III)Z"⟩
abbrev cX7_borne : ByteArray := prog_9_method_55_code
def yX7_borne : MethodName := ⟨RX7, "borne", "(II)I"⟩
abbrev cX7_overWithout : ByteArray := prog_9_method_56_code
def yX7_overWithout : MethodName := ⟨RX7, "overWithout", "(I)I"⟩
abbrev cX7_without : ByteArray := prog_9_method_57_code
def yX7_without : MethodName := ⟨RX7, "without", "()I"⟩
abbrev cX7_overBy : ByteArray := prog_9_method_58_code
def yX7_overBy : MethodName := ⟨RX7, "overBy", "(I)I"⟩
abbrev cX7_weights : ByteArray := prog_9_method_59_code
def yX7_weights : MethodName := ⟨RX7, "weights", "(II)I"⟩
abbrev cX7_praise : ByteArray := prog_9_method_60_code
def yX7_praise : MethodName := ⟨RX7, "praise", "(I)I"⟩
abbrev cX7_speaks : ByteArray := prog_9_method_61_code
def yX7_speaks : MethodName := ⟨RX7, "speaks", "(II)V"⟩
abbrev cX7_talks : ByteArray := prog_9_method_62_code
def yX7_talks : MethodName := ⟨RX7, "talks", "(II)I"⟩
abbrev cX7_barsOfTalk : ByteArray := prog_9_method_63_code
def yX7_barsOfTalk : MethodName := ⟨RX7, "barsOfTalk", "(IIZ)I"⟩
abbrev cX7_judge : ByteArray := prog_9_method_64_code
def yX7_judge : MethodName := ⟨RX7, "judge", "(II)I"⟩
abbrev cX7_behind : ByteArray := prog_9_method_65_code
def yX7_behind : MethodName := ⟨RX7, "behind", "(III)I"⟩
abbrev cX7_done : ByteArray := prog_9_method_66_code
def yX7_done : MethodName := ⟨RX7, "done", "(II)I"⟩
abbrev cX7_say : ByteArray := prog_9_method_67_code
def yX7_say : MethodName := ⟨RX7, "say", "(II)I"⟩
abbrev cX7_steps : ByteArray := prog_9_method_68_code
def yX7_steps : MethodName := ⟨RX7, "steps", "(I)I"⟩
abbrev cX7_draw : ByteArray := prog_9_method_69_code
def yX7_draw : MethodName := ⟨RX7, "draw", "(I)I"⟩
abbrev cX7_days : ByteArray := prog_9_method_70_code
def yX7_days : MethodName := ⟨RX7, "days", "(I)I"⟩
abbrev cX7_seed : ByteArray := prog_9_method_71_code
def yX7_seed : MethodName := ⟨RX7, "seed", "(I)I"⟩
abbrev cX7_body : ByteArray := prog_9_method_72_code
def yX7_body : MethodName := ⟨RX7, "body", "(I)V"⟩
abbrev cX7_walking : ByteArray := prog_9_method_73_code
def yX7_walking : MethodName := ⟨RX7, "walking", "(II)I"⟩
abbrev cX7_bearing : ByteArray := prog_9_method_74_code
def yX7_bearing : MethodName := ⟨RX7, "bearing", "(II)I"⟩
abbrev cX7_speaking : ByteArray := prog_9_method_75_code
def yX7_speaking : MethodName := ⟨RX7, "speaking", "(II)I"⟩
abbrev cX7_act : ByteArray := prog_9_method_76_code
def yX7_act : MethodName := ⟨RX7, "act", "(III)I"⟩
abbrev cX7_trace : ByteArray := prog_9_method_77_code
def yX7_trace : MethodName := ⟨RX7, "trace", "(I)I"⟩
abbrev cX7_image : ByteArray := prog_9_method_78_code
def yX7_image : MethodName := ⟨RX7, "image", "()I"⟩
abbrev cX7_restore : ByteArray := prog_9_method_79_code
def yX7_restore : MethodName := ⟨RX7, "restore", "()I"⟩
abbrev cX7_status : ByteArray := prog_9_method_80_code
def yX7_status : MethodName := ⟨RX7, "status", "(I)I"⟩
def RJ9 : String := "java/lang/Math"
abbrev cJ9_max_7cf53 : ByteArray := prog_10_method_65_code
def yJ9_max_7cf53 : MethodName := ⟨RJ9, "max", "(II)I"⟩
abbrev cJ9_min_7cf53 : ByteArray := prog_10_method_69_code
def yJ9_min_7cf53 : MethodName := ⟨RJ9, "min", "(II)I"⟩
def RJ0 : String := "java/lang/String"
abbrev cJ0_length_8abf5 : ByteArray := prog_11_method_54_code
def yJ0_length_8abf5 : MethodName := ⟨RJ0, "length", "()I"⟩
abbrev cJ0_charAt_5068e : ByteArray := prog_11_method_56_code
def yJ0_charAt_5068e : MethodName := ⟨RJ0, "charAt", "(I)C"⟩
abbrev cJ0_coder_7d493 : ByteArray := prog_11_method_152_code
def yJ0_coder_7d493 : MethodName := ⟨RJ0, "coder", "()B"⟩
abbrev cJ0_isLatin1_aae02 : ByteArray := prog_11_method_154_code
def yJ0_isLatin1_aae02 : MethodName := ⟨RJ0, "isLatin1", "()Z"⟩
abbrev cJ0_checkIndex_df160 : ByteArray := prog_11_method_155_code
def yJ0_checkIndex_df160 : MethodName := ⟨RJ0, "checkIndex", "(II)V"⟩
def RJ1 : String := "java/lang/StringLatin1"
abbrev cJ1_charAt_3b067 : ByteArray := prog_12_method_2_code
def yJ1_charAt_3b067 : MethodName := ⟨RJ1, "charAt", "([BI)C"⟩
def RJ2 : String := "java/lang/StringUTF16"
abbrev cJ2_getChar_3b067 : ByteArray := prog_13_method_5_code
def yJ2_getChar_3b067 : MethodName := ⟨RJ2, "getChar", "([BI)C"⟩
abbrev cJ2_length_9d52b : ByteArray := prog_13_method_6_code
def yJ2_length_9d52b : MethodName := ⟨RJ2, "length", "([B)I"⟩
abbrev cJ2_charAt_3b067 : ByteArray := prog_13_method_83_code
def yJ2_charAt_3b067 : MethodName := ⟨RJ2, "charAt", "([BI)C"⟩
abbrev cJ2_checkIndex_2214a : ByteArray := prog_13_method_91_code
def yJ2_checkIndex_2214a : MethodName := ⟨RJ2, "checkIndex", "(I[B)V"⟩
def RJ10 : String := "java/lang/System"
def RJ3 : String := "jdk/internal/util/Preconditions"
abbrev cJ3_checkIndex_8e157 : ByteArray := prog_15_method_11_code
def yJ3_checkIndex_8e157 : MethodName := ⟨RJ3, "checkIndex", "(IILjava/util/function/BiFunction;)I"⟩
def RL : String := "WhoComplainsCarriesLaw"
