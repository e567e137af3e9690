section
-- ===== PART A: goes FIRST, ahead of the names: the tables' words, and 'selects' of the private methods out of them =====
/-- a private method of a class that the tables say can be made, by its rows of tables_1 -/
def lw_okq (q : MethodName × Nat) : Prop := (q.1.cls ≠ "java/lang/invoke/MethodHandle" ∧ q.1.cls ≠ "java/lang/invoke/VarHandle") ∧ Cond.instantiable q.1.cls q.2 ∈ tables_1 ∧ Cond.privateMethod q.1 ∈ tables_1 ∧ Cond.instanceMethod q.1 ∈ tables_1
theorem lw_p0 : lw_okq (⟨"WhoComplainsCarries", "refuse", "(I)I"⟩, 10) := ⟨⟨by decide +kernel, by decide +kernel⟩, List.mem_of_getElem? (i := 16) (by decide +kernel), List.mem_of_getElem? (i := 254) (by decide +kernel), List.mem_of_getElem? (i := 255) (by decide +kernel)⟩
theorem lw_p1 : lw_okq (⟨"WhoComplainsCarries", "rowRefusal", "(I)I"⟩, 10) := ⟨⟨by decide +kernel, by decide +kernel⟩, List.mem_of_getElem? (i := 16) (by decide +kernel), List.mem_of_getElem? (i := 272) (by decide +kernel), List.mem_of_getElem? (i := 273) (by decide +kernel)⟩
theorem lw_p2 : lw_okq (⟨"WhoComplainsCarries", "copyRefusal", "(IIIII)I"⟩, 10) := ⟨⟨by decide +kernel, by decide +kernel⟩, List.mem_of_getElem? (i := 16) (by decide +kernel), List.mem_of_getElem? (i := 298) (by decide +kernel), List.mem_of_getElem? (i := 299) (by decide +kernel)⟩
theorem lw_p3 : lw_okq (⟨"WhoComplainsCarries", "isPersonOrNone", "(I)Z"⟩, 10) := ⟨⟨by decide +kernel, by decide +kernel⟩, List.mem_of_getElem? (i := 16) (by decide +kernel), List.mem_of_getElem? (i := 326) (by decide +kernel), List.mem_of_getElem? (i := 327) (by decide +kernel)⟩
theorem lw_p4 : lw_okq (⟨"WhoComplainsCarries", "isPerson", "(I)Z"⟩, 10) := ⟨⟨by decide +kernel, by decide +kernel⟩, List.mem_of_getElem? (i := 16) (by decide +kernel), List.mem_of_getElem? (i := 330) (by decide +kernel), List.mem_of_getElem? (i := 331) (by decide +kernel)⟩
theorem lw_p5 : lw_okq (⟨"WhoComplainsCarries", "refuseFar", "(I)I"⟩, 10) := ⟨⟨by decide +kernel, by decide +kernel⟩, List.mem_of_getElem? (i := 16) (by decide +kernel), List.mem_of_getElem? (i := 399) (by decide +kernel), List.mem_of_getElem? (i := 400) (by decide +kernel)⟩
theorem lw_p6 : lw_okq (⟨"WhoComplainsCarries$VowReader", "takeLetters", "(LWhoComplainsCarries$Shelf;)V"⟩, 5) := ⟨⟨by decide +kernel, by decide +kernel⟩, List.mem_of_getElem? (i := 164) (by decide +kernel), List.mem_of_getElem? (i := 415) (by decide +kernel), List.mem_of_getElem? (i := 416) (by decide +kernel)⟩
theorem lw_p7 : lw_okq (⟨"WhoComplainsCarries$VowReader", "readItem", "()V"⟩, 5) := ⟨⟨by decide +kernel, by decide +kernel⟩, List.mem_of_getElem? (i := 164) (by decide +kernel), List.mem_of_getElem? (i := 433) (by decide +kernel), List.mem_of_getElem? (i := 434) (by decide +kernel)⟩
theorem lw_p8 : lw_okq (⟨"WhoComplainsCarries$VowReader", "readWord", "()I"⟩, 5) := ⟨⟨by decide +kernel, by decide +kernel⟩, List.mem_of_getElem? (i := 164) (by decide +kernel), List.mem_of_getElem? (i := 437) (by decide +kernel), List.mem_of_getElem? (i := 438) (by decide +kernel)⟩
theorem lw_p9 : lw_okq (⟨"WhoComplainsCarries$VowReader", "letterHere", "()I"⟩, 5) := ⟨⟨by decide +kernel, by decide +kernel⟩, List.mem_of_getElem? (i := 164) (by decide +kernel), List.mem_of_getElem? (i := 441) (by decide +kernel), List.mem_of_getElem? (i := 442) (by decide +kernel)⟩
theorem lw_p10 : lw_okq (⟨"WhoComplainsCarries$VowReader", "readPerson", "(I)V"⟩, 5) := ⟨⟨by decide +kernel, by decide +kernel⟩, List.mem_of_getElem? (i := 164) (by decide +kernel), List.mem_of_getElem? (i := 505) (by decide +kernel), List.mem_of_getElem? (i := 506) (by decide +kernel)⟩
theorem lw_p11 : lw_okq (⟨"WhoComplainsCarries$VowReader", "readNumber", "(II)I"⟩, 5) := ⟨⟨by decide +kernel, by decide +kernel⟩, List.mem_of_getElem? (i := 164) (by decide +kernel), List.mem_of_getElem? (i := 509) (by decide +kernel), List.mem_of_getElem? (i := 510) (by decide +kernel)⟩
theorem lw_p12 : lw_okq (⟨"WhoComplainsCarries$VowReader", "expect", "(I)V"⟩, 5) := ⟨⟨by decide +kernel, by decide +kernel⟩, List.mem_of_getElem? (i := 164) (by decide +kernel), List.mem_of_getElem? (i := 513) (by decide +kernel), List.mem_of_getElem? (i := 514) (by decide +kernel)⟩
theorem lw_p13 : lw_okq (⟨"WhoComplainsCarries$VowReader", "tellWeight", "(I)V"⟩, 5) := ⟨⟨by decide +kernel, by decide +kernel⟩, List.mem_of_getElem? (i := 164) (by decide +kernel), List.mem_of_getElem? (i := 521) (by decide +kernel), List.mem_of_getElem? (i := 522) (by decide +kernel)⟩
theorem lw_p14 : lw_okq (⟨"WhoComplainsCarries$VowReader", "tellWay", "(I)V"⟩, 5) := ⟨⟨by decide +kernel, by decide +kernel⟩, List.mem_of_getElem? (i := 164) (by decide +kernel), List.mem_of_getElem? (i := 525) (by decide +kernel), List.mem_of_getElem? (i := 526) (by decide +kernel)⟩
theorem lw_p15 : lw_okq (⟨"WhoComplainsCarries$VowReader", "tellBearer", "(I)V"⟩, 5) := ⟨⟨by decide +kernel, by decide +kernel⟩, List.mem_of_getElem? (i := 164) (by decide +kernel), List.mem_of_getElem? (i := 529) (by decide +kernel), List.mem_of_getElem? (i := 530) (by decide +kernel)⟩
def lw_privs_1 : List (MethodName × Nat) := [(⟨"WhoComplainsCarries", "refuse", "(I)I"⟩, 10), (⟨"WhoComplainsCarries", "rowRefusal", "(I)I"⟩, 10), (⟨"WhoComplainsCarries", "copyRefusal", "(IIIII)I"⟩, 10), (⟨"WhoComplainsCarries", "isPersonOrNone", "(I)Z"⟩, 10), (⟨"WhoComplainsCarries", "isPerson", "(I)Z"⟩, 10), (⟨"WhoComplainsCarries", "refuseFar", "(I)I"⟩, 10), (⟨"WhoComplainsCarries$VowReader", "takeLetters", "(LWhoComplainsCarries$Shelf;)V"⟩, 5), (⟨"WhoComplainsCarries$VowReader", "readItem", "()V"⟩, 5), (⟨"WhoComplainsCarries$VowReader", "readWord", "()I"⟩, 5), (⟨"WhoComplainsCarries$VowReader", "letterHere", "()I"⟩, 5), (⟨"WhoComplainsCarries$VowReader", "readPerson", "(I)V"⟩, 5), (⟨"WhoComplainsCarries$VowReader", "readNumber", "(II)I"⟩, 5), (⟨"WhoComplainsCarries$VowReader", "expect", "(I)V"⟩, 5), (⟨"WhoComplainsCarries$VowReader", "tellWeight", "(I)V"⟩, 5), (⟨"WhoComplainsCarries$VowReader", "tellWay", "(I)V"⟩, 5), (⟨"WhoComplainsCarries$VowReader", "tellBearer", "(I)V"⟩, 5)]
theorem lw_r1 : ∀ q ∈ lw_privs_1, lw_okq q := List.forall_mem_cons.mpr ⟨lw_p0, List.forall_mem_cons.mpr ⟨lw_p1, List.forall_mem_cons.mpr ⟨lw_p2, List.forall_mem_cons.mpr ⟨lw_p3, List.forall_mem_cons.mpr ⟨lw_p4, List.forall_mem_cons.mpr ⟨lw_p5, List.forall_mem_cons.mpr ⟨lw_p6, List.forall_mem_cons.mpr ⟨lw_p7, List.forall_mem_cons.mpr ⟨lw_p8, List.forall_mem_cons.mpr ⟨lw_p9, List.forall_mem_cons.mpr ⟨lw_p10, List.forall_mem_cons.mpr ⟨lw_p11, List.forall_mem_cons.mpr ⟨lw_p12, List.forall_mem_cons.mpr ⟨lw_p13, List.forall_mem_cons.mpr ⟨lw_p14, List.forall_mem_cons.mpr ⟨lw_p15, fun _ h => absurd h List.not_mem_nil⟩⟩⟩⟩⟩⟩⟩⟩⟩⟩⟩⟩⟩⟩⟩⟩
theorem lw_p16 : lw_okq (⟨"WhoComplainsCarries$VowReader", "tellSort", "(IZ)V"⟩, 5) := ⟨⟨by decide +kernel, by decide +kernel⟩, List.mem_of_getElem? (i := 164) (by decide +kernel), List.mem_of_getElem? (i := 533) (by decide +kernel), List.mem_of_getElem? (i := 534) (by decide +kernel)⟩
theorem lw_p17 : lw_okq (⟨"WhoComplainsCarries$Vow", "comeToSigher", "(I)V"⟩, 9) := ⟨⟨by decide +kernel, by decide +kernel⟩, List.mem_of_getElem? (i := 52) (by decide +kernel), List.mem_of_getElem? (i := 592) (by decide +kernel), List.mem_of_getElem? (i := 593) (by decide +kernel)⟩
theorem lw_p18 : lw_okq (⟨"WhoComplainsCarries$RelaySearch", "keepIfBetter", "(I)V"⟩, 4) := ⟨⟨by decide +kernel, by decide +kernel⟩, List.mem_of_getElem? (i := 140) (by decide +kernel), List.mem_of_getElem? (i := 635) (by decide +kernel), List.mem_of_getElem? (i := 636) (by decide +kernel)⟩
theorem lw_p19 : lw_okq (⟨"WhoComplainsCarries", "casesRefusal", "(IIZ)I"⟩, 10) := ⟨⟨by decide +kernel, by decide +kernel⟩, List.mem_of_getElem? (i := 16) (by decide +kernel), List.mem_of_getElem? (i := 652) (by decide +kernel), List.mem_of_getElem? (i := 653) (by decide +kernel)⟩
theorem lw_p20 : lw_okq (⟨"WhoComplainsCarries", "toldRefusal", "(IIJZ)I"⟩, 10) := ⟨⟨by decide +kernel, by decide +kernel⟩, List.mem_of_getElem? (i := 16) (by decide +kernel), List.mem_of_getElem? (i := 657) (by decide +kernel), List.mem_of_getElem? (i := 658) (by decide +kernel)⟩
theorem lw_p21 : lw_okq (⟨"WhoComplainsCarries", "goesAsTold", "(ILWhoComplainsCarries$Shelf;I)Z"⟩, 10) := ⟨⟨by decide +kernel, by decide +kernel⟩, List.mem_of_getElem? (i := 16) (by decide +kernel), List.mem_of_getElem? (i := 676) (by decide +kernel), List.mem_of_getElem? (i := 677) (by decide +kernel)⟩
theorem lw_p22 : lw_okq (⟨"WhoComplainsCarries", "overWithin", "(II)I"⟩, 10) := ⟨⟨by decide +kernel, by decide +kernel⟩, List.mem_of_getElem? (i := 16) (by decide +kernel), List.mem_of_getElem? (i := 689) (by decide +kernel), List.mem_of_getElem? (i := 690) (by decide +kernel)⟩
theorem lw_p23 : lw_okq (⟨"WhoComplainsCarries", "talkRefusal", "(IIZ)I"⟩, 10) := ⟨⟨by decide +kernel, by decide +kernel⟩, List.mem_of_getElem? (i := 16) (by decide +kernel), List.mem_of_getElem? (i := 701) (by decide +kernel), List.mem_of_getElem? (i := 702) (by decide +kernel)⟩
theorem lw_p24 : lw_okq (⟨"WhoComplainsCarries", "firstWrong", "(LWhoComplainsCarries$Shelf;I)I"⟩, 10) := ⟨⟨by decide +kernel, by decide +kernel⟩, List.mem_of_getElem? (i := 16) (by decide +kernel), List.mem_of_getElem? (i := 705) (by decide +kernel), List.mem_of_getElem? (i := 706) (by decide +kernel)⟩
theorem lw_p25 : lw_okq (⟨"WhoComplainsCarries$Vow", "hearThatItIsLight", "(I)V"⟩, 9) := ⟨⟨by decide +kernel, by decide +kernel⟩, List.mem_of_getElem? (i := 52) (by decide +kernel), List.mem_of_getElem? (i := 722) (by decide +kernel), List.mem_of_getElem? (i := 723) (by decide +kernel)⟩
theorem lw_p26 : lw_okq (⟨"WhoComplainsCarries$Vow", "growHeavier", "()V"⟩, 9) := ⟨⟨by decide +kernel, by decide +kernel⟩, List.mem_of_getElem? (i := 52) (by decide +kernel), List.mem_of_getElem? (i := 726) (by decide +kernel), List.mem_of_getElem? (i := 727) (by decide +kernel)⟩
theorem lw_p27 : lw_okq (⟨"WhoComplainsCarries$Vow", "draw", "(I)I"⟩, 9) := ⟨⟨by decide +kernel, by decide +kernel⟩, List.mem_of_getElem? (i := 52) (by decide +kernel), List.mem_of_getElem? (i := 751) (by decide +kernel), List.mem_of_getElem? (i := 752) (by decide +kernel)⟩
theorem lw_p28 : lw_okq (⟨"WhoComplainsCarries$Moves", "begin", "(I)V"⟩, 5) := ⟨⟨by decide +kernel, by decide +kernel⟩, List.mem_of_getElem? (i := 190) (by decide +kernel), List.mem_of_getElem? (i := 783) (by decide +kernel), List.mem_of_getElem? (i := 784) (by decide +kernel)⟩
theorem lw_p29 : lw_okq (⟨"WhoComplainsCarriesModel", "isShelf", "(I)Z"⟩, 42) := ⟨⟨by decide +kernel, by decide +kernel⟩, List.mem_of_getElem? (i := 812) (by decide +kernel), List.mem_of_getElem? (i := 949) (by decide +kernel), List.mem_of_getElem? (i := 950) (by decide +kernel)⟩
theorem lw_p30 : lw_okq (⟨"WhoComplainsCarriesModel", "no", "(I)I"⟩, 42) := ⟨⟨by decide +kernel, by decide +kernel⟩, List.mem_of_getElem? (i := 812) (by decide +kernel), List.mem_of_getElem? (i := 953) (by decide +kernel), List.mem_of_getElem? (i := 954) (by decide +kernel)⟩
theorem lw_p31 : lw_okq (⟨"WhoComplainsCarriesModel", "isOne", "(I)Z"⟩, 42) := ⟨⟨by decide +kernel, by decide +kernel⟩, List.mem_of_getElem? (i := 812) (by decide +kernel), List.mem_of_getElem? (i := 973) (by decide +kernel), List.mem_of_getElem? (i := 974) (by decide +kernel)⟩
def lw_privs_2 : List (MethodName × Nat) := [(⟨"WhoComplainsCarries$VowReader", "tellSort", "(IZ)V"⟩, 5), (⟨"WhoComplainsCarries$Vow", "comeToSigher", "(I)V"⟩, 9), (⟨"WhoComplainsCarries$RelaySearch", "keepIfBetter", "(I)V"⟩, 4), (⟨"WhoComplainsCarries", "casesRefusal", "(IIZ)I"⟩, 10), (⟨"WhoComplainsCarries", "toldRefusal", "(IIJZ)I"⟩, 10), (⟨"WhoComplainsCarries", "goesAsTold", "(ILWhoComplainsCarries$Shelf;I)Z"⟩, 10), (⟨"WhoComplainsCarries", "overWithin", "(II)I"⟩, 10), (⟨"WhoComplainsCarries", "talkRefusal", "(IIZ)I"⟩, 10), (⟨"WhoComplainsCarries", "firstWrong", "(LWhoComplainsCarries$Shelf;I)I"⟩, 10), (⟨"WhoComplainsCarries$Vow", "hearThatItIsLight", "(I)V"⟩, 9), (⟨"WhoComplainsCarries$Vow", "growHeavier", "()V"⟩, 9), (⟨"WhoComplainsCarries$Vow", "draw", "(I)I"⟩, 9), (⟨"WhoComplainsCarries$Moves", "begin", "(I)V"⟩, 5), (⟨"WhoComplainsCarriesModel", "isShelf", "(I)Z"⟩, 42), (⟨"WhoComplainsCarriesModel", "no", "(I)I"⟩, 42), (⟨"WhoComplainsCarriesModel", "isOne", "(I)Z"⟩, 42)]
theorem lw_r2 : ∀ q ∈ lw_privs_2, lw_okq q := List.forall_mem_cons.mpr ⟨lw_p16, List.forall_mem_cons.mpr ⟨lw_p17, List.forall_mem_cons.mpr ⟨lw_p18, List.forall_mem_cons.mpr ⟨lw_p19, List.forall_mem_cons.mpr ⟨lw_p20, List.forall_mem_cons.mpr ⟨lw_p21, List.forall_mem_cons.mpr ⟨lw_p22, List.forall_mem_cons.mpr ⟨lw_p23, List.forall_mem_cons.mpr ⟨lw_p24, List.forall_mem_cons.mpr ⟨lw_p25, List.forall_mem_cons.mpr ⟨lw_p26, List.forall_mem_cons.mpr ⟨lw_p27, List.forall_mem_cons.mpr ⟨lw_p28, List.forall_mem_cons.mpr ⟨lw_p29, List.forall_mem_cons.mpr ⟨lw_p30, List.forall_mem_cons.mpr ⟨lw_p31, fun _ h => absurd h List.not_mem_nil⟩⟩⟩⟩⟩⟩⟩⟩⟩⟩⟩⟩⟩⟩⟩⟩
theorem lw_p32 : lw_okq (⟨"WhoComplainsCarriesModel", "limit", "(I)I"⟩, 42) := ⟨⟨by decide +kernel, by decide +kernel⟩, List.mem_of_getElem? (i := 812) (by decide +kernel), List.mem_of_getElem? (i := 985) (by decide +kernel), List.mem_of_getElem? (i := 986) (by decide +kernel)⟩
theorem lw_p33 : lw_okq (⟨"WhoComplainsCarriesModel", "toil", "(I)I"⟩, 42) := ⟨⟨by decide +kernel, by decide +kernel⟩, List.mem_of_getElem? (i := 812) (by decide +kernel), List.mem_of_getElem? (i := 989) (by decide +kernel), List.mem_of_getElem? (i := 990) (by decide +kernel)⟩
theorem lw_p34 : lw_okq (⟨"WhoComplainsCarriesModel", "pace", "(I)I"⟩, 42) := ⟨⟨by decide +kernel, by decide +kernel⟩, List.mem_of_getElem? (i := 812) (by decide +kernel), List.mem_of_getElem? (i := 993) (by decide +kernel), List.mem_of_getElem? (i := 994) (by decide +kernel)⟩
theorem lw_p35 : lw_okq (⟨"WhoComplainsCarriesModel", "isFrom", "(III)Z"⟩, 42) := ⟨⟨by decide +kernel, by decide +kernel⟩, List.mem_of_getElem? (i := 812) (by decide +kernel), List.mem_of_getElem? (i := 1001) (by decide +kernel), List.mem_of_getElem? (i := 1002) (by decide +kernel)⟩
theorem lw_p36 : lw_okq (⟨"WhoComplainsCarriesModel", "adds", "(IIII)I"⟩, 42) := ⟨⟨by decide +kernel, by decide +kernel⟩, List.mem_of_getElem? (i := 812) (by decide +kernel), List.mem_of_getElem? (i := 1005) (by decide +kernel), List.mem_of_getElem? (i := 1006) (by decide +kernel)⟩
theorem lw_p37 : lw_okq (⟨"WhoComplainsCarriesModel", "noTen", "(I)I"⟩, 42) := ⟨⟨by decide +kernel, by decide +kernel⟩, List.mem_of_getElem? (i := 812) (by decide +kernel), List.mem_of_getElem? (i := 1021) (by decide +kernel), List.mem_of_getElem? (i := 1022) (by decide +kernel)⟩
theorem lw_p38 : lw_okq (⟨"WhoComplainsCarriesModel", "wanted", "(I)I"⟩, 42) := ⟨⟨by decide +kernel, by decide +kernel⟩, List.mem_of_getElem? (i := 812) (by decide +kernel), List.mem_of_getElem? (i := 1033) (by decide +kernel), List.mem_of_getElem? (i := 1034) (by decide +kernel)⟩
theorem lw_p39 : lw_okq (⟨"WhoComplainsCarriesModel", "all", "([IZ)V"⟩, 42) := ⟨⟨by decide +kernel, by decide +kernel⟩, List.mem_of_getElem? (i := 812) (by decide +kernel), List.mem_of_getElem? (i := 1037) (by decide +kernel), List.mem_of_getElem? (i := 1038) (by decide +kernel)⟩
theorem lw_p40 : lw_okq (⟨"WhoComplainsCarriesModel", "carries", "([I[IIZ)I"⟩, 42) := ⟨⟨by decide +kernel, by decide +kernel⟩, List.mem_of_getElem? (i := 812) (by decide +kernel), List.mem_of_getElem? (i := 1041) (by decide +kernel), List.mem_of_getElem? (i := 1042) (by decide +kernel)⟩
theorem lw_p41 : lw_okq (⟨"WhoComplainsCarriesModel", "item", "()Z"⟩, 42) := ⟨⟨by decide +kernel, by decide +kernel⟩, List.mem_of_getElem? (i := 812) (by decide +kernel), List.mem_of_getElem? (i := 1045) (by decide +kernel), List.mem_of_getElem? (i := 1046) (by decide +kernel)⟩
theorem lw_p42 : lw_okq (⟨"WhoComplainsCarriesModel", "stands", "(I)Z"⟩, 42) := ⟨⟨by decide +kernel, by decide +kernel⟩, List.mem_of_getElem? (i := 812) (by decide +kernel), List.mem_of_getElem? (i := 1049) (by decide +kernel), List.mem_of_getElem? (i := 1050) (by decide +kernel)⟩
theorem lw_p43 : lw_okq (⟨"WhoComplainsCarriesModel", "wrong", "(I)Z"⟩, 42) := ⟨⟨by decide +kernel, by decide +kernel⟩, List.mem_of_getElem? (i := 812) (by decide +kernel), List.mem_of_getElem? (i := 1053) (by decide +kernel), List.mem_of_getElem? (i := 1054) (by decide +kernel)⟩
theorem lw_p44 : lw_okq (⟨"WhoComplainsCarriesModel", "word", "()I"⟩, 42) := ⟨⟨by decide +kernel, by decide +kernel⟩, List.mem_of_getElem? (i := 812) (by decide +kernel), List.mem_of_getElem? (i := 1057) (by decide +kernel), List.mem_of_getElem? (i := 1058) (by decide +kernel)⟩
theorem lw_p45 : lw_okq (⟨"WhoComplainsCarriesModel", "reads", "()Z"⟩, 42) := ⟨⟨by decide +kernel, by decide +kernel⟩, List.mem_of_getElem? (i := 812) (by decide +kernel), List.mem_of_getElem? (i := 1061) (by decide +kernel), List.mem_of_getElem? (i := 1062) (by decide +kernel)⟩
theorem lw_p46 : lw_okq (⟨"WhoComplainsCarriesModel", "isDigit", "()Z"⟩, 42) := ⟨⟨by decide +kernel, by decide +kernel⟩, List.mem_of_getElem? (i := 812) (by decide +kernel), List.mem_of_getElem? (i := 1065) (by decide +kernel), List.mem_of_getElem? (i := 1066) (by decide +kernel)⟩
theorem lw_p47 : lw_okq (⟨"WhoComplainsCarriesModel", "isSo", "(II)Z"⟩, 42) := ⟨⟨by decide +kernel, by decide +kernel⟩, List.mem_of_getElem? (i := 812) (by decide +kernel), List.mem_of_getElem? (i := 1069) (by decide +kernel), List.mem_of_getElem? (i := 1070) (by decide +kernel)⟩
def lw_privs_3 : List (MethodName × Nat) := [(⟨"WhoComplainsCarriesModel", "limit", "(I)I"⟩, 42), (⟨"WhoComplainsCarriesModel", "toil", "(I)I"⟩, 42), (⟨"WhoComplainsCarriesModel", "pace", "(I)I"⟩, 42), (⟨"WhoComplainsCarriesModel", "isFrom", "(III)Z"⟩, 42), (⟨"WhoComplainsCarriesModel", "adds", "(IIII)I"⟩, 42), (⟨"WhoComplainsCarriesModel", "noTen", "(I)I"⟩, 42), (⟨"WhoComplainsCarriesModel", "wanted", "(I)I"⟩, 42), (⟨"WhoComplainsCarriesModel", "all", "([IZ)V"⟩, 42), (⟨"WhoComplainsCarriesModel", "carries", "([I[IIZ)I"⟩, 42), (⟨"WhoComplainsCarriesModel", "item", "()Z"⟩, 42), (⟨"WhoComplainsCarriesModel", "stands", "(I)Z"⟩, 42), (⟨"WhoComplainsCarriesModel", "wrong", "(I)Z"⟩, 42), (⟨"WhoComplainsCarriesModel", "word", "()I"⟩, 42), (⟨"WhoComplainsCarriesModel", "reads", "()Z"⟩, 42), (⟨"WhoComplainsCarriesModel", "isDigit", "()Z"⟩, 42), (⟨"WhoComplainsCarriesModel", "isSo", "(II)Z"⟩, 42)]
theorem lw_r3 : ∀ q ∈ lw_privs_3, lw_okq q := List.forall_mem_cons.mpr ⟨lw_p32, List.forall_mem_cons.mpr ⟨lw_p33, List.forall_mem_cons.mpr ⟨lw_p34, List.forall_mem_cons.mpr ⟨lw_p35, List.forall_mem_cons.mpr ⟨lw_p36, List.forall_mem_cons.mpr ⟨lw_p37, List.forall_mem_cons.mpr ⟨lw_p38, List.forall_mem_cons.mpr ⟨lw_p39, List.forall_mem_cons.mpr ⟨lw_p40, List.forall_mem_cons.mpr ⟨lw_p41, List.forall_mem_cons.mpr ⟨lw_p42, List.forall_mem_cons.mpr ⟨lw_p43, List.forall_mem_cons.mpr ⟨lw_p44, List.forall_mem_cons.mpr ⟨lw_p45, List.forall_mem_cons.mpr ⟨lw_p46, List.forall_mem_cons.mpr ⟨lw_p47, fun _ h => absurd h List.not_mem_nil⟩⟩⟩⟩⟩⟩⟩⟩⟩⟩⟩⟩⟩⟩⟩⟩
theorem lw_p48 : lw_okq (⟨"WhoComplainsCarriesModel", "wouldSigh", "(II)Z"⟩, 42) := ⟨⟨by decide +kernel, by decide +kernel⟩, List.mem_of_getElem? (i := 812) (by decide +kernel), List.mem_of_getElem? (i := 1081) (by decide +kernel), List.mem_of_getElem? (i := 1082) (by decide +kernel)⟩
theorem lw_p49 : lw_okq (⟨"WhoComplainsCarriesModel", "step", "(Z)V"⟩, 42) := ⟨⟨by decide +kernel, by decide +kernel⟩, List.mem_of_getElem? (i := 812) (by decide +kernel), List.mem_of_getElem? (i := 1093) (by decide +kernel), List.mem_of_getElem? (i := 1094) (by decide +kernel)⟩
theorem lw_p50 : lw_okq (⟨"WhoComplainsCarriesModel", "tires", "(II)V"⟩, 42) := ⟨⟨by decide +kernel, by decide +kernel⟩, List.mem_of_getElem? (i := 812) (by decide +kernel), List.mem_of_getElem? (i := 1097) (by decide +kernel), List.mem_of_getElem? (i := 1098) (by decide +kernel)⟩
theorem lw_p51 : lw_okq (⟨"WhoComplainsCarriesModel", "isOver", "()I"⟩, 42) := ⟨⟨by decide +kernel, by decide +kernel⟩, List.mem_of_getElem? (i := 812) (by decide +kernel), List.mem_of_getElem? (i := 1109) (by decide +kernel), List.mem_of_getElem? (i := 1110) (by decide +kernel)⟩
theorem lw_p52 : lw_okq (⟨"WhoComplainsCarriesModel", "tillAbove", "(I)I"⟩, 42) := ⟨⟨by decide +kernel, by decide +kernel⟩, List.mem_of_getElem? (i := 812) (by decide +kernel), List.mem_of_getElem? (i := 1117) (by decide +kernel), List.mem_of_getElem? (i := 1118) (by decide +kernel)⟩
theorem lw_p53 : lw_okq (⟨"WhoComplainsCarriesModel", "legs", "(III)V"⟩, 42) := ⟨⟨by decide +kernel, by decide +kernel⟩, List.mem_of_getElem? (i := 812) (by decide +kernel), List.mem_of_getElem? (i := 1125) (by decide +kernel), List.mem_of_getElem? (i := 1126) (by decide +kernel)⟩
theorem lw_p54 : lw_okq (⟨"WhoComplainsCarriesModel", "goesLeg", "(I)Z"⟩, 42) := ⟨⟨by decide +kernel, by decide +kernel⟩, List.mem_of_getElem? (i := 812) (by decide +kernel), List.mem_of_getElem? (i := 1129) (by decide +kernel), List.mem_of_getElem? (i := 1130) (by decide +kernel)⟩
theorem lw_p55 : lw_okq (⟨"WhoComplainsCarriesModel", "barsOfCases", "(IIZ)I"⟩, 42) := ⟨⟨by decide +kernel, by decide +kernel⟩, List.mem_of_getElem? (i := 812) (by decide +kernel), List.mem_of_getElem? (i := 1137) (by decide +kernel), List.mem_of_getElem? (i := 1138) (by decide +kernel)⟩
theorem lw_p56 : lw_okq (⟨"WhoComplainsCarriesModel", "intAt", "(II)I"⟩, 42) := ⟨⟨by decide +kernel, by decide +kernel⟩, List.mem_of_getElem? (i := 812) (by decide +kernel), List.mem_of_getElem? (i := 1141) (by decide +kernel), List.mem_of_getElem? (i := 1142) (by decide +kernel)⟩
theorem lw_p57 : lw_okq (⟨"WhoComplainsCarriesModel", "clashIn", "(II)I"⟩, 42) := ⟨⟨by decide +kernel, by decide +kernel⟩, List.mem_of_getElem? (i := 812) (by decide +kernel), List.mem_of_getElem? (i := 1145) (by decide +kernel), List.mem_of_getElem? (i := 1146) (by decide +kernel)⟩
theorem lw_p58 : lw_okq (⟨"WhoComplainsCarriesModel", "bearsSo", "(III)Z"⟩, 42) := ⟨⟨by decide +kernel, by decide +kernel⟩, List.mem_of_getElem? (i := 812) (by decide +kernel), List.mem_of_getElem? (i := 1157) (by decide +kernel), List.mem_of_getElem? (i := 1158) (by decide +kernel)⟩
theorem lw_p59 : lw_okq (⟨"WhoComplainsCarriesModel", "overWithout", "(I)I"⟩, 42) := ⟨⟨by decide +kernel, by decide +kernel⟩, List.mem_of_getElem? (i := 812) (by decide +kernel), List.mem_of_getElem? (i := 1165) (by decide +kernel), List.mem_of_getElem? (i := 1166) (by decide +kernel)⟩
theorem lw_p60 : lw_okq (⟨"WhoComplainsCarriesModel", "overBy", "(I)I"⟩, 42) := ⟨⟨by decide +kernel, by decide +kernel⟩, List.mem_of_getElem? (i := 812) (by decide +kernel), List.mem_of_getElem? (i := 1173) (by decide +kernel), List.mem_of_getElem? (i := 1174) (by decide +kernel)⟩
theorem lw_p61 : lw_okq (⟨"WhoComplainsCarriesModel", "barsOfTalk", "(IIZ)I"⟩, 42) := ⟨⟨by decide +kernel, by decide +kernel⟩, List.mem_of_getElem? (i := 812) (by decide +kernel), List.mem_of_getElem? (i := 1185) (by decide +kernel), List.mem_of_getElem? (i := 1186) (by decide +kernel)⟩
theorem lw_p62 : lw_okq (⟨"WhoComplainsCarriesModel", "talks", "(II)I"⟩, 42) := ⟨⟨by decide +kernel, by decide +kernel⟩, List.mem_of_getElem? (i := 812) (by decide +kernel), List.mem_of_getElem? (i := 1189) (by decide +kernel), List.mem_of_getElem? (i := 1190) (by decide +kernel)⟩
theorem lw_p63 : lw_okq (⟨"WhoComplainsCarriesModel", "speaks", "(II)V"⟩, 42) := ⟨⟨by decide +kernel, by decide +kernel⟩, List.mem_of_getElem? (i := 812) (by decide +kernel), List.mem_of_getElem? (i := 1193) (by decide +kernel), List.mem_of_getElem? (i := 1194) (by decide +kernel)⟩
def lw_privs_4 : List (MethodName × Nat) := [(⟨"WhoComplainsCarriesModel", "wouldSigh", "(II)Z"⟩, 42), (⟨"WhoComplainsCarriesModel", "step", "(Z)V"⟩, 42), (⟨"WhoComplainsCarriesModel", "tires", "(II)V"⟩, 42), (⟨"WhoComplainsCarriesModel", "isOver", "()I"⟩, 42), (⟨"WhoComplainsCarriesModel", "tillAbove", "(I)I"⟩, 42), (⟨"WhoComplainsCarriesModel", "legs", "(III)V"⟩, 42), (⟨"WhoComplainsCarriesModel", "goesLeg", "(I)Z"⟩, 42), (⟨"WhoComplainsCarriesModel", "barsOfCases", "(IIZ)I"⟩, 42), (⟨"WhoComplainsCarriesModel", "intAt", "(II)I"⟩, 42), (⟨"WhoComplainsCarriesModel", "clashIn", "(II)I"⟩, 42), (⟨"WhoComplainsCarriesModel", "bearsSo", "(III)Z"⟩, 42), (⟨"WhoComplainsCarriesModel", "overWithout", "(I)I"⟩, 42), (⟨"WhoComplainsCarriesModel", "overBy", "(I)I"⟩, 42), (⟨"WhoComplainsCarriesModel", "barsOfTalk", "(IIZ)I"⟩, 42), (⟨"WhoComplainsCarriesModel", "talks", "(II)I"⟩, 42), (⟨"WhoComplainsCarriesModel", "speaks", "(II)V"⟩, 42)]
theorem lw_r4 : ∀ q ∈ lw_privs_4, lw_okq q := List.forall_mem_cons.mpr ⟨lw_p48, List.forall_mem_cons.mpr ⟨lw_p49, List.forall_mem_cons.mpr ⟨lw_p50, List.forall_mem_cons.mpr ⟨lw_p51, List.forall_mem_cons.mpr ⟨lw_p52, List.forall_mem_cons.mpr ⟨lw_p53, List.forall_mem_cons.mpr ⟨lw_p54, List.forall_mem_cons.mpr ⟨lw_p55, List.forall_mem_cons.mpr ⟨lw_p56, List.forall_mem_cons.mpr ⟨lw_p57, List.forall_mem_cons.mpr ⟨lw_p58, List.forall_mem_cons.mpr ⟨lw_p59, List.forall_mem_cons.mpr ⟨lw_p60, List.forall_mem_cons.mpr ⟨lw_p61, List.forall_mem_cons.mpr ⟨lw_p62, List.forall_mem_cons.mpr ⟨lw_p63, fun _ h => absurd h List.not_mem_nil⟩⟩⟩⟩⟩⟩⟩⟩⟩⟩⟩⟩⟩⟩⟩⟩
theorem lw_p64 : lw_okq (⟨"WhoComplainsCarriesModel", "draw", "(I)I"⟩, 42) := ⟨⟨by decide +kernel, by decide +kernel⟩, List.mem_of_getElem? (i := 812) (by decide +kernel), List.mem_of_getElem? (i := 1217) (by decide +kernel), List.mem_of_getElem? (i := 1218) (by decide +kernel)⟩
theorem lw_p65 : lw_okq (⟨"WhoComplainsCarriesModel", "walking", "(II)I"⟩, 42) := ⟨⟨by decide +kernel, by decide +kernel⟩, List.mem_of_getElem? (i := 812) (by decide +kernel), List.mem_of_getElem? (i := 1230) (by decide +kernel), List.mem_of_getElem? (i := 1231) (by decide +kernel)⟩
theorem lw_p66 : lw_okq (⟨"WhoComplainsCarriesModel", "body", "(I)V"⟩, 42) := ⟨⟨by decide +kernel, by decide +kernel⟩, List.mem_of_getElem? (i := 812) (by decide +kernel), List.mem_of_getElem? (i := 1234) (by decide +kernel), List.mem_of_getElem? (i := 1235) (by decide +kernel)⟩
theorem lw_p67 : lw_okq (⟨"WhoComplainsCarriesModel", "bearing", "(II)I"⟩, 42) := ⟨⟨by decide +kernel, by decide +kernel⟩, List.mem_of_getElem? (i := 812) (by decide +kernel), List.mem_of_getElem? (i := 1238) (by decide +kernel), List.mem_of_getElem? (i := 1239) (by decide +kernel)⟩
theorem lw_p68 : lw_okq (⟨"WhoComplainsCarriesModel", "speaking", "(II)I"⟩, 42) := ⟨⟨by decide +kernel, by decide +kernel⟩, List.mem_of_getElem? (i := 812) (by decide +kernel), List.mem_of_getElem? (i := 1242) (by decide +kernel), List.mem_of_getElem? (i := 1243) (by decide +kernel)⟩
def lw_privs_5 : List (MethodName × Nat) := [(⟨"WhoComplainsCarriesModel", "draw", "(I)I"⟩, 42), (⟨"WhoComplainsCarriesModel", "walking", "(II)I"⟩, 42), (⟨"WhoComplainsCarriesModel", "body", "(I)V"⟩, 42), (⟨"WhoComplainsCarriesModel", "bearing", "(II)I"⟩, 42), (⟨"WhoComplainsCarriesModel", "speaking", "(II)I"⟩, 42)]
theorem lw_r5 : ∀ q ∈ lw_privs_5, lw_okq q := List.forall_mem_cons.mpr ⟨lw_p64, List.forall_mem_cons.mpr ⟨lw_p65, List.forall_mem_cons.mpr ⟨lw_p66, List.forall_mem_cons.mpr ⟨lw_p67, List.forall_mem_cons.mpr ⟨lw_p68, fun _ h => absurd h List.not_mem_nil⟩⟩⟩⟩⟩
def lw_privs : List (MethodName × Nat) := lw_privs_1 ++ (lw_privs_2 ++ (lw_privs_3 ++ (lw_privs_4 ++ (lw_privs_5))))
def lw_tbl : List Cond := k2_sels lw_privs ++ tables_1
theorem lw_privs_ok : ∀ q ∈ lw_privs, lw_okq q := by
  show ∀ q ∈ lw_privs_1 ++ (lw_privs_2 ++ (lw_privs_3 ++ (lw_privs_4 ++ (lw_privs_5)))), lw_okq q
  exact List.forall_mem_append.mpr ⟨lw_r1, List.forall_mem_append.mpr ⟨lw_r2, List.forall_mem_append.mpr ⟨lw_r3, List.forall_mem_append.mpr ⟨lw_r4, lw_r5⟩⟩⟩⟩

-- names
def RX0 : String := "WhoComplainsCarries$Moves"
def TX0 : u_T := fun k => match k with
  | 0 => ("WhoComplainsCarries$Moves", "kept", "[I", true)
  | 1 => ("WhoComplainsCarries$Moves", "ran", "I", false)
  | 2 => ("WhoComplainsCarries$Moves", "kind", "I", false)
  | 3 => ("WhoComplainsCarries$Moves", "m", "I", false)
  | _ => ("WhoComplainsCarries$Moves", "k", "I", false)
def tyX0 : Nat → FieldType := fun k => match k with
  | 0 => .array .int
  | 1 => .int
  | 2 => .int
  | 3 => .int
  | _ => .int
theorem nmX0 : ∀ a, a < 5 → ∀ b, b < 5 → a ≠ b → (TX0 a).2.1 ≠ (TX0 b).2.1 := by decide +kernel
theorem tyX0_ok : ∀ k, k < 5 → parseFieldDescriptor (TX0 k).2.2.1 = some (tyX0 k) := by decide +kernel
abbrev cX0_init : ByteArray := prog_2_method_1_code
def yX0_init : MethodName := ⟨RX0, "<init>", "()V"⟩
abbrev cX0_forget : ByteArray := prog_2_method_2_code
def yX0_forget : MethodName := ⟨RX0, "forget", "()V"⟩
abbrev cX0_bodyKept : ByteArray := prog_2_method_3_code
def yX0_bodyKept : MethodName := ⟨RX0, "bodyKept", "(I)I"⟩
abbrev cX0_run : ByteArray := prog_2_method_4_code
def yX0_run : MethodName := ⟨RX0, "run", "(LWhoComplainsCarries$Person;III)I"⟩
abbrev cX0_runFrom : ByteArray := prog_2_method_5_code
def yX0_runFrom : MethodName := ⟨RX0, "runFrom", "(LWhoComplainsCarries$Moves;IIII)I"⟩
abbrev cX0_bodyAt : ByteArray := prog_2_method_6_code
def yX0_bodyAt : MethodName := ⟨RX0, "bodyAt", "(II)I"⟩
abbrev cX0_begin : ByteArray := prog_2_method_7_code
def yX0_begin : MethodName := ⟨RX0, "begin", "(I)V"⟩
def RX1 : String := "WhoComplainsCarries$Person"
def TX1 : u_T := fun k => match k with
  | 0 => ("WhoComplainsCarries$Person", "kind", "I", false)
  | 1 => ("WhoComplainsCarries$Person", "a", "I", false)
  | 2 => ("WhoComplainsCarries$Person", "strength", "I", false)
  | 3 => ("WhoComplainsCarries$Person", "patience", "I", false)
  | _ => ("WhoComplainsCarries$Person", "tired", "I", false)
def tyX1 : Nat → FieldType := fun k => match k with
  | 0 => .int
  | 1 => .int
  | 2 => .int
  | 3 => .int
  | _ => .int
theorem nmX1 : ∀ a, a < 5 → ∀ b, b < 5 → a ≠ b → (TX1 a).2.1 ≠ (TX1 b).2.1 := by decide +kernel
theorem tyX1_ok : ∀ k, k < 5 → parseFieldDescriptor (TX1 k).2.2.1 = some (tyX1 k) := by decide +kernel
abbrev cX1_init : ByteArray := prog_3_method_1_code
def yX1_init : MethodName := ⟨RX1, "<init>", "()V"⟩
abbrev cX1_become : ByteArray := prog_3_method_2_code
def yX1_become : MethodName := ⟨RX1, "become", "(IIII)V"⟩
abbrev cX1_load : ByteArray := prog_3_method_3_code
def yX1_load : MethodName := ⟨RX1, "load", "(LWhoComplainsCarries$Person;)V"⟩
abbrev cX1_pace : ByteArray := prog_3_method_4_code
def yX1_pace : MethodName := ⟨RX1, "pace", "(I)I"⟩
abbrev cX1_toil : ByteArray := prog_3_method_5_code
def yX1_toil : MethodName := ⟨RX1, "toil", "(I)I"⟩
abbrev cX1_limit : ByteArray := prog_3_method_6_code
def yX1_limit : MethodName := ⟨RX1, "limit", "()I"⟩
abbrev cX1_isSighing : ByteArray := prog_3_method_7_code
def yX1_isSighing : MethodName := ⟨RX1, "isSighing", "()Z"⟩
abbrev cX1_missingToSigh : ByteArray := prog_3_method_8_code
def yX1_missingToSigh : MethodName := ⟨RX1, "missingToSigh", "()I"⟩
abbrev cX1_grow : ByteArray := prog_3_method_9_code
def yX1_grow : MethodName := ⟨RX1, "grow", "(I)V"⟩
abbrev cX1_rest : ByteArray := prog_3_method_10_code
def yX1_rest : MethodName := ⟨RX1, "rest", "(I)V"⟩
abbrev cX1_stepsToLimit : ByteArray := prog_3_method_11_code
def yX1_stepsToLimit : MethodName := ⟨RX1, "stepsToLimit", "(I)I"⟩
def RX2 : String := "WhoComplainsCarries$RelaySearch"
def TX2 : u_T := fun k => match k with
  | 0 => ("WhoComplainsCarries$RelaySearch", "standings", "[LWhoComplainsCarries$Vow;", true)
  | 1 => ("WhoComplainsCarries$RelaySearch", "who", "[I", true)
  | 2 => ("WhoComplainsCarries$RelaySearch", "bestWho", "[I", true)
  | _ => ("WhoComplainsCarries$RelaySearch", "bestDone", "I", false)
def tyX2 : Nat → FieldType := fun k => match k with
  | 0 => .array (.object "WhoComplainsCarries$Vow")
  | 1 => .array .int
  | 2 => .array .int
  | _ => .int
theorem nmX2 : ∀ a, a < 4 → ∀ b, b < 4 → a ≠ b → (TX2 a).2.1 ≠ (TX2 b).2.1 := by decide +kernel
theorem tyX2_ok : ∀ k, k < 4 → parseFieldDescriptor (TX2 k).2.2.1 = some (tyX2 k) := by decide +kernel
abbrev cX2_init : ByteArray := prog_4_method_1_code
def yX2_init : MethodName := ⟨RX2, "<init>", "()V"⟩
abbrev cX2_seek : ByteArray := prog_4_method_2_code
def yX2_seek : MethodName := ⟨RX2, "seek", "(LWhoComplainsCarries$Vow;II)V"⟩
abbrev cX2_bestOnLeg : ByteArray := prog_4_method_3_code
def yX2_bestOnLeg : MethodName := ⟨RX2, "bestOnLeg", "(I)I"⟩
abbrev cX2_tryLeg : ByteArray := prog_4_method_4_code
def yX2_tryLeg : MethodName := ⟨RX2, "tryLeg", "(LWhoComplainsCarries$RelaySearch;III)V"⟩
abbrev cX2_keepIfBetter : ByteArray := prog_4_method_5_code
def yX2_keepIfBetter : MethodName := ⟨RX2, "keepIfBetter", "(I)V"⟩
def RX3 : String := "WhoComplainsCarries$Shelf"
def TX3 : u_T := fun k => match k with
  | 0 => ("WhoComplainsCarries$Shelf", "what", "I", false)
  | 1 => ("WhoComplainsCarries$Shelf", "sort", "I", false)
  | 2 => ("WhoComplainsCarries$Shelf", "size", "I", false)
  | 3 => ("WhoComplainsCarries$Shelf", "person", "I", false)
  | _ => ("WhoComplainsCarries$Shelf", "elements", "[J", true)
def tyX3 : Nat → FieldType := fun k => match k with
  | 0 => .int
  | 1 => .int
  | 2 => .int
  | 3 => .int
  | _ => .array .long
theorem nmX3 : ∀ a, a < 5 → ∀ b, b < 5 → a ≠ b → (TX3 a).2.1 ≠ (TX3 b).2.1 := by decide +kernel
theorem tyX3_ok : ∀ k, k < 5 → parseFieldDescriptor (TX3 k).2.2.1 = some (tyX3 k) := by decide +kernel
abbrev cX3_init : ByteArray := prog_5_method_1_code
def yX3_init : MethodName := ⟨RX3, "<init>", "()V"⟩
abbrev cX3_isRow : ByteArray := prog_5_method_2_code
def yX3_isRow : MethodName := ⟨RX3, "isRow", "()Z"⟩
abbrev cX3_isPerson : ByteArray := prog_5_method_3_code
def yX3_isPerson : MethodName := ⟨RX3, "isPerson", "()Z"⟩
abbrev cX3_holdNothing : ByteArray := prog_5_method_4_code
def yX3_holdNothing : MethodName := ⟨RX3, "holdNothing", "()V"⟩
abbrev cX3_holdPerson : ByteArray := prog_5_method_5_code
def yX3_holdPerson : MethodName := ⟨RX3, "holdPerson", "(I)V"⟩
abbrev cX3_holdRow : ByteArray := prog_5_method_6_code
def yX3_holdRow : MethodName := ⟨RX3, "holdRow", "(II)V"⟩
abbrev cX3_hasElement : ByteArray := prog_5_method_7_code
def yX3_hasElement : MethodName := ⟨RX3, "hasElement", "(I)Z"⟩
abbrev cX3_hasStretch : ByteArray := prog_5_method_8_code
def yX3_hasStretch : MethodName := ⟨RX3, "hasStretch", "(II)Z"⟩
abbrev cX3_put : ByteArray := prog_5_method_9_code
def yX3_put : MethodName := ⟨RX3, "put", "(IJ)V"⟩
abbrev cX3_takeFrom : ByteArray := prog_5_method_10_code
def yX3_takeFrom : MethodName := ⟨RX3, "takeFrom", "(LWhoComplainsCarries$Shelf;III)V"⟩
abbrev cX3_longAt : ByteArray := prog_5_method_11_code
def yX3_longAt : MethodName := ⟨RX3, "longAt", "(I)J"⟩
abbrev cX3_intAt : ByteArray := prog_5_method_12_code
def yX3_intAt : MethodName := ⟨RX3, "intAt", "(I)I"⟩
def RX4 : String := "WhoComplainsCarries$Vow"
def TX4 : u_T := fun k => match k with
  | 0 => ("WhoComplainsCarries$Vow", "people", "[LWhoComplainsCarries$Person;", true)
  | 1 => ("WhoComplainsCarries$Vow", "count", "I", false)
  | 2 => ("WhoComplainsCarries$Vow", "weight", "I", false)
  | 3 => ("WhoComplainsCarries$Vow", "way", "I", false)
  | 4 => ("WhoComplainsCarries$Vow", "done", "I", false)
  | 5 => ("WhoComplainsCarries$Vow", "bearer", "I", false)
  | 6 => ("WhoComplainsCarries$Vow", "steps", "I", false)
  | 7 => ("WhoComplainsCarries$Vow", "rule", "I", false)
  | _ => ("WhoComplainsCarries$Vow", "seed", "I", false)
def tyX4 : Nat → FieldType := fun k => match k with
  | 0 => .array (.object "WhoComplainsCarries$Person")
  | 1 => .int
  | 2 => .int
  | 3 => .int
  | 4 => .int
  | 5 => .int
  | 6 => .int
  | 7 => .int
  | _ => .int
theorem nmX4 : ∀ a, a < 9 → ∀ b, b < 9 → a ≠ b → (TX4 a).2.1 ≠ (TX4 b).2.1 := by decide +kernel
theorem tyX4_ok : ∀ k, k < 9 → parseFieldDescriptor (TX4 k).2.2.1 = some (tyX4 k) := by decide +kernel
abbrev cX4_init : ByteArray := prog_6_method_1_code
def yX4_init : MethodName := ⟨RX4, "<init>", "()V"⟩
abbrev cX4_load : ByteArray := prog_6_method_2_code
def yX4_load : MethodName := ⟨RX4, "load", "(LWhoComplainsCarries$Vow;)V"⟩
abbrev cX4_addPerson : ByteArray := prog_6_method_3_code
def yX4_addPerson : MethodName := ⟨RX4, "addPerson", "(IIII)V"⟩
abbrev cX4_isBorne : ByteArray := prog_6_method_4_code
def yX4_isBorne : MethodName := ⟨RX4, "isBorne", "()Z"⟩
abbrev cX4_counts : ByteArray := prog_6_method_5_code
def yX4_counts : MethodName := ⟨RX4, "counts", "(I)Z"⟩
abbrev cX4_takeSteps : ByteArray := prog_6_method_6_code
def yX4_takeSteps : MethodName := ⟨RX4, "takeSteps", "(I)V"⟩
abbrev cX4_step : ByteArray := prog_6_method_7_code
def yX4_step : MethodName := ⟨RX4, "step", "(I)V"⟩
abbrev cX4_bearOrRest : ByteArray := prog_6_method_8_code
def yX4_bearOrRest : MethodName := ⟨RX4, "bearOrRest", "()V"⟩
abbrev cX4_comeToSigher : ByteArray := prog_6_method_9_code
def yX4_comeToSigher : MethodName := ⟨RX4, "comeToSigher", "(I)V"⟩
abbrev cX4_stepsToWay : ByteArray := prog_6_method_10_code
def yX4_stepsToWay : MethodName := ⟨RX4, "stepsToWay", "(II)I"⟩
abbrev cX4_hear : ByteArray := prog_6_method_11_code
def yX4_hear : MethodName := ⟨RX4, "hear", "(II)V"⟩
abbrev cX4_hearThatItIsLight : ByteArray := prog_6_method_12_code
def yX4_hearThatItIsLight : MethodName := ⟨RX4, "hearThatItIsLight", "(I)V"⟩
abbrev cX4_growHeavier : ByteArray := prog_6_method_13_code
def yX4_growHeavier : MethodName := ⟨RX4, "growHeavier", "()V"⟩
abbrev cX4_hearTalk : ByteArray := prog_6_method_14_code
def yX4_hearTalk : MethodName := ⟨RX4, "hearTalk", "(LWhoComplainsCarries$Shelf;I)V"⟩
abbrev cX4_passDay : ByteArray := prog_6_method_15_code
def yX4_passDay : MethodName := ⟨RX4, "passDay", "()V"⟩
abbrev cX4_draw : ByteArray := prog_6_method_16_code
def yX4_draw : MethodName := ⟨RX4, "draw", "(I)I"⟩
abbrev cX4_tiredTogether : ByteArray := prog_6_method_17_code
def yX4_tiredTogether : MethodName := ⟨RX4, "tiredTogether", "()I"⟩
abbrev cX4_bearLeg : ByteArray := prog_6_method_18_code
def yX4_bearLeg : MethodName := ⟨RX4, "bearLeg", "(II)Z"⟩
def RX5 : String := "WhoComplainsCarries$VowReader"
def TX5 : u_T := fun k => match k with
  | 0 => ("WhoComplainsCarries$VowReader", "letters", "[I", true)
  | 1 => ("WhoComplainsCarries$VowReader", "size", "I", false)
  | 2 => ("WhoComplainsCarries$VowReader", "draft", "LWhoComplainsCarries$Vow;", true)
  | 3 => ("WhoComplainsCarries$VowReader", "place", "I", false)
  | _ => ("WhoComplainsCarries$VowReader", "fault", "I", false)
def tyX5 : Nat → FieldType := fun k => match k with
  | 0 => .array .int
  | 1 => .int
  | 2 => .object "WhoComplainsCarries$Vow"
  | 3 => .int
  | _ => .int
theorem nmX5 : ∀ a, a < 5 → ∀ b, b < 5 → a ≠ b → (TX5 a).2.1 ≠ (TX5 b).2.1 := by decide +kernel
theorem tyX5_ok : ∀ k, k < 5 → parseFieldDescriptor (TX5 k).2.2.1 = some (tyX5 k) := by decide +kernel
abbrev cX5_init : ByteArray := prog_7_method_1_code
def yX5_init : MethodName := ⟨RX5, "<init>", "()V"⟩
abbrev cX5_readItems : ByteArray := prog_7_method_2_code
def yX5_readItems : MethodName := ⟨RX5, "readItems", "(LWhoComplainsCarries$Shelf;LWhoComplainsCarries$Vow;)I"⟩
abbrev cX5_takeLetters : ByteArray := prog_7_method_3_code
def yX5_takeLetters : MethodName := ⟨RX5, "takeLetters", "(LWhoComplainsCarries$Shelf;)V"⟩
abbrev cX5_readItem : ByteArray := prog_7_method_4_code
def yX5_readItem : MethodName := ⟨RX5, "readItem", "()V"⟩
abbrev cX5_readPerson : ByteArray := prog_7_method_5_code
def yX5_readPerson : MethodName := ⟨RX5, "readPerson", "(I)V"⟩
abbrev cX5_tellWeight : ByteArray := prog_7_method_6_code
def yX5_tellWeight : MethodName := ⟨RX5, "tellWeight", "(I)V"⟩
abbrev cX5_tellWay : ByteArray := prog_7_method_7_code
def yX5_tellWay : MethodName := ⟨RX5, "tellWay", "(I)V"⟩
abbrev cX5_tellBearer : ByteArray := prog_7_method_8_code
def yX5_tellBearer : MethodName := ⟨RX5, "tellBearer", "(I)V"⟩
abbrev cX5_tellSort : ByteArray := prog_7_method_9_code
def yX5_tellSort : MethodName := ⟨RX5, "tellSort", "(IZ)V"⟩
abbrev cX5_readWord : ByteArray := prog_7_method_10_code
def yX5_readWord : MethodName := ⟨RX5, "readWord", "()I"⟩
abbrev cX5_lettersOf : ByteArray := prog_7_method_11_code
def yX5_lettersOf : MethodName := ⟨RX5, "lettersOf", "(I)Ljava/lang/String;"⟩
abbrev cX5_readNumber : ByteArray := prog_7_method_12_code
def yX5_readNumber : MethodName := ⟨RX5, "readNumber", "(II)I"⟩
abbrev cX5_expect : ByteArray := prog_7_method_13_code
def yX5_expect : MethodName := ⟨RX5, "expect", "(I)V"⟩
abbrev cX5_isDigit : ByteArray := prog_7_method_14_code
def yX5_isDigit : MethodName := ⟨RX5, "isDigit", "(I)Z"⟩
abbrev cX5_letterHere : ByteArray := prog_7_method_15_code
def yX5_letterHere : MethodName := ⟨RX5, "letterHere", "()I"⟩
def RX6 : String := "WhoComplainsCarries"
def TX6 : u_T := fun k => match k with
  | 0 => ("WhoComplainsCarries", "shelves", "[LWhoComplainsCarries$Shelf;", true)
  | 1 => ("WhoComplainsCarries", "now", "LWhoComplainsCarries$Vow;", true)
  | 2 => ("WhoComplainsCarries", "image", "LWhoComplainsCarries$Vow;", true)
  | 3 => ("WhoComplainsCarries", "trial", "LWhoComplainsCarries$Vow;", true)
  | 4 => ("WhoComplainsCarries", "relaySearch", "LWhoComplainsCarries$RelaySearch;", true)
  | 5 => ("WhoComplainsCarries", "reader", "LWhoComplainsCarries$VowReader;", true)
  | 6 => ("WhoComplainsCarries", "moves", "LWhoComplainsCarries$Moves;", true)
  | 7 => ("WhoComplainsCarries", "refusals", "[I", true)
  | 8 => ("WhoComplainsCarries", "imageTaken", "Z", false)
  | _ => ("WhoComplainsCarries", "fault", "I", false)
def tyX6 : Nat → FieldType := fun k => match k with
  | 0 => .array (.object "WhoComplainsCarries$Shelf")
  | 1 => .object "WhoComplainsCarries$Vow"
  | 2 => .object "WhoComplainsCarries$Vow"
  | 3 => .object "WhoComplainsCarries$Vow"
  | 4 => .object "WhoComplainsCarries$RelaySearch"
  | 5 => .object "WhoComplainsCarries$VowReader"
  | 6 => .object "WhoComplainsCarries$Moves"
  | 7 => .array .int
  | 8 => .boolean
  | _ => .int
theorem nmX6 : ∀ a, a < 10 → ∀ b, b < 10 → a ≠ b → (TX6 a).2.1 ≠ (TX6 b).2.1 := by decide +kernel
theorem tyX6_ok : ∀ k, k < 10 → parseFieldDescriptor (TX6 k).2.2.1 = some (tyX6 k) := by decide +kernel
abbrev cX6_init : ByteArray := prog_1_method_1_code
def yX6_init : MethodName := ⟨RX6, "<init>", "()V"⟩
abbrev cX6_row : ByteArray := prog_1_method_2_code
def yX6_row : MethodName := ⟨RX6, "row", "(III)I"⟩
abbrev cX6_set : ByteArray := prog_1_method_3_code
def yX6_set : MethodName := ⟨RX6, "set", "(IIJ)I"⟩
abbrev cX6_copy : ByteArray := prog_1_method_4_code
def yX6_copy : MethodName := ⟨RX6, "copy", "(IIIII)I"⟩
abbrev cX6_element : ByteArray := prog_1_method_5_code
def yX6_element : MethodName := ⟨RX6, "element", "(II)J"⟩
abbrev cX6_show : ByteArray := prog_1_method_6_code
def yX6_show : MethodName := ⟨RX6, "show", "(II)I"⟩
abbrev cX6_holds : ByteArray := prog_1_method_7_code
def yX6_holds : MethodName := ⟨RX6, "holds", "(I)I"⟩
abbrev cX6_says : ByteArray := prog_1_method_8_code
def yX6_says : MethodName := ⟨RX6, "says", "(II)I"⟩
abbrev cX6_person : ByteArray := prog_1_method_9_code
def yX6_person : MethodName := ⟨RX6, "person", "(IIII)I"⟩
abbrev cX6_ask : ByteArray := prog_1_method_10_code
def yX6_ask : MethodName := ⟨RX6, "ask", "(II)I"⟩
abbrev cX6_tire : ByteArray := prog_1_method_11_code
def yX6_tire : MethodName := ⟨RX6, "tire", "(II)I"⟩
abbrev cX6_give : ByteArray := prog_1_method_12_code
def yX6_give : MethodName := ⟨RX6, "give", "(I)I"⟩
abbrev cX6_personOf : ByteArray := prog_1_method_13_code
def yX6_personOf : MethodName := ⟨RX6, "personOf", "(II)I"⟩
abbrev cX6_vow : ByteArray := prog_1_method_14_code
def yX6_vow : MethodName := ⟨RX6, "vow", "(I)I"⟩
abbrev cX6_fault : ByteArray := prog_1_method_15_code
def yX6_fault : MethodName := ⟨RX6, "fault", "()I"⟩
abbrev cX6_sighs : ByteArray := prog_1_method_16_code
def yX6_sighs : MethodName := ⟨RX6, "sighs", "(I)I"⟩
abbrev cX6_ready : ByteArray := prog_1_method_17_code
def yX6_ready : MethodName := ⟨RX6, "ready", "(I)I"⟩
abbrev cX6_ahead : ByteArray := prog_1_method_18_code
def yX6_ahead : MethodName := ⟨RX6, "ahead", "(II)I"⟩
abbrev cX6_tired : ByteArray := prog_1_method_19_code
def yX6_tired : MethodName := ⟨RX6, "tired", "(II)I"⟩
abbrev cX6_over : ByteArray := prog_1_method_20_code
def yX6_over : MethodName := ⟨RX6, "over", "()I"⟩
abbrev cX6_alone : ByteArray := prog_1_method_21_code
def yX6_alone : MethodName := ⟨RX6, "alone", "(II)I"⟩
abbrev cX6_relay : ByteArray := prog_1_method_22_code
def yX6_relay : MethodName := ⟨RX6, "relay", "(III)I"⟩
abbrev cX6_cases : ByteArray := prog_1_method_23_code
def yX6_cases : MethodName := ⟨RX6, "cases", "(III)I"⟩
abbrev cX6_clash : ByteArray := prog_1_method_24_code
def yX6_clash : MethodName := ⟨RX6, "clash", "(II)I"⟩
abbrev cX6_borne : ByteArray := prog_1_method_25_code
def yX6_borne : MethodName := ⟨RX6, "borne", "(II)I"⟩
abbrev cX6_without : ByteArray := prog_1_method_26_code
def yX6_without : MethodName := ⟨RX6, "without", "()I"⟩
abbrev cX6_weights : ByteArray := prog_1_method_27_code
def yX6_weights : MethodName := ⟨RX6, "weights", "(II)I"⟩
abbrev cX6_praise : ByteArray := prog_1_method_28_code
def yX6_praise : MethodName := ⟨RX6, "praise", "(I)I"⟩
abbrev cX6_judge : ByteArray := prog_1_method_29_code
def yX6_judge : MethodName := ⟨RX6, "judge", "(II)I"⟩
abbrev cX6_behind : ByteArray := prog_1_method_30_code
def yX6_behind : MethodName := ⟨RX6, "behind", "(III)I"⟩
abbrev cX6_done : ByteArray := prog_1_method_31_code
def yX6_done : MethodName := ⟨RX6, "done", "(II)I"⟩
abbrev cX6_say : ByteArray := prog_1_method_32_code
def yX6_say : MethodName := ⟨RX6, "say", "(II)I"⟩
abbrev cX6_steps : ByteArray := prog_1_method_33_code
def yX6_steps : MethodName := ⟨RX6, "steps", "(I)I"⟩
abbrev cX6_days : ByteArray := prog_1_method_34_code
def yX6_days : MethodName := ⟨RX6, "days", "(I)I"⟩
abbrev cX6_seed : ByteArray := prog_1_method_35_code
def yX6_seed : MethodName := ⟨RX6, "seed", "(I)I"⟩
abbrev cX6_act : ByteArray := prog_1_method_36_code
def yX6_act : MethodName := ⟨RX6, "act", "(III)I"⟩
abbrev cX6_trace : ByteArray := prog_1_method_37_code
def yX6_trace : MethodName := ⟨RX6, "trace", "(I)I"⟩
abbrev cX6_image : ByteArray := prog_1_method_38_code
def yX6_image : MethodName := ⟨RX6, "image", "()I"⟩
abbrev cX6_restore : ByteArray := prog_1_method_39_code
def yX6_restore : MethodName := ⟨RX6, "restore", "()I"⟩
abbrev cX6_status : ByteArray := prog_1_method_40_code
def yX6_status : MethodName := ⟨RX6, "status", "(I)I"⟩
abbrev cX6_isIn : ByteArray := prog_1_method_41_code
def yX6_isIn : MethodName := ⟨RX6, "isIn", "(III)Z"⟩
abbrev cX6_isShelf : ByteArray := prog_1_method_42_code
def yX6_isShelf : MethodName := ⟨RX6, "isShelf", "(I)Z"⟩
abbrev cX6_isKind : ByteArray := prog_1_method_43_code
def yX6_isKind : MethodName := ⟨RX6, "isKind", "(I)Z"⟩
abbrev cX6_isPerson : ByteArray := prog_1_method_44_code
def yX6_isPerson : MethodName := ⟨RX6, "isPerson", "(I)Z"⟩
abbrev cX6_isPersonOrNone : ByteArray := prog_1_method_45_code
def yX6_isPersonOrNone : MethodName := ⟨RX6, "isPersonOrNone", "(I)Z"⟩
abbrev cX6_kindAbove : ByteArray := prog_1_method_46_code
def yX6_kindAbove : MethodName := ⟨RX6, "kindAbove", "(I)I"⟩
abbrev cX6_isUnder : ByteArray := prog_1_method_47_code
def yX6_isUnder : MethodName := ⟨RX6, "isUnder", "(II)Z"⟩
abbrev cX6_upward : ByteArray := prog_1_method_48_code
def yX6_upward : MethodName := ⟨RX6, "upward", "(II)I"⟩
abbrev cX6_refuse : ByteArray := prog_1_method_49_code
def yX6_refuse : MethodName := ⟨RX6, "refuse", "(I)I"⟩
abbrev cX6_refuseFar : ByteArray := prog_1_method_50_code
def yX6_refuseFar : MethodName := ⟨RX6, "refuseFar", "(I)I"⟩
abbrev cX6_rowRefusal : ByteArray := prog_1_method_51_code
def yX6_rowRefusal : MethodName := ⟨RX6, "rowRefusal", "(I)I"⟩
abbrev cX6_copyRefusal : ByteArray := prog_1_method_52_code
def yX6_copyRefusal : MethodName := ⟨RX6, "copyRefusal", "(IIIII)I"⟩
abbrev cX6_toldRefusal : ByteArray := prog_1_method_53_code
def yX6_toldRefusal : MethodName := ⟨RX6, "toldRefusal", "(IIJZ)I"⟩
abbrev cX6_casesRefusal : ByteArray := prog_1_method_54_code
def yX6_casesRefusal : MethodName := ⟨RX6, "casesRefusal", "(IIZ)I"⟩
abbrev cX6_talkRefusal : ByteArray := prog_1_method_55_code
def yX6_talkRefusal : MethodName := ⟨RX6, "talkRefusal", "(IIZ)I"⟩
abbrev cX6_firstClash : ByteArray := prog_1_method_56_code
def yX6_firstClash : MethodName := ⟨RX6, "firstClash", "(LWhoComplainsCarries$Shelf;I)I"⟩
abbrev cX6_sortsTold : ByteArray := prog_1_method_57_code
def yX6_sortsTold : MethodName := ⟨RX6, "sortsTold", "(LWhoComplainsCarries$Shelf;II)I"⟩
abbrev cX6_firstWrong : ByteArray := prog_1_method_58_code
def yX6_firstWrong : MethodName := ⟨RX6, "firstWrong", "(LWhoComplainsCarries$Shelf;I)I"⟩
abbrev cX6_goesAsTold : ByteArray := prog_1_method_59_code
def yX6_goesAsTold : MethodName := ⟨RX6, "goesAsTold", "(ILWhoComplainsCarries$Shelf;I)Z"⟩
abbrev cX6_overWithin : ByteArray := prog_1_method_60_code
def yX6_overWithin : MethodName := ⟨RX6, "overWithin", "(II)I"⟩
def RX7 : String := "WhoComplainsCarriesModel"
def TX7 : u_T := fun k => match k with
  | 0 => ("WhoComplainsCarriesModel", "people", "I", false)
  | 1 => ("WhoComplainsCarriesModel", "weight", "I", false)
  | 2 => ("WhoComplainsCarriesModel", "way", "I", false)
  | 3 => ("WhoComplainsCarriesModel", "gone", "I", false)
  | 4 => ("WhoComplainsCarriesModel", "bearer", "I", false)
  | 5 => ("WhoComplainsCarriesModel", "taken", "I", false)
  | 6 => ("WhoComplainsCarriesModel", "rule", "I", false)
  | 7 => ("WhoComplainsCarriesModel", "seed", "I", false)
  | 8 => ("WhoComplainsCarriesModel", "fault", "I", false)
  | 9 => ("WhoComplainsCarriesModel", "refused", "[I", true)
  | 10 => ("WhoComplainsCarriesModel", "kind", "[I", true)
  | 11 => ("WhoComplainsCarriesModel", "part", "[I", true)
  | 12 => ("WhoComplainsCarriesModel", "strength", "[I", true)
  | 13 => ("WhoComplainsCarriesModel", "patience", "[I", true)
  | 14 => ("WhoComplainsCarriesModel", "tiredness", "[I", true)
  | 15 => ("WhoComplainsCarriesModel", "held", "[I", true)
  | 16 => ("WhoComplainsCarriesModel", "sort", "[I", true)
  | 17 => ("WhoComplainsCarriesModel", "size", "[I", true)
  | 18 => ("WhoComplainsCarriesModel", "shown", "[I", true)
  | 19 => ("WhoComplainsCarriesModel", "cells", "[J", true)
  | 20 => ("WhoComplainsCarriesModel", "carried", "[J", true)
  | 21 => ("WhoComplainsCarriesModel", "words", "[I", true)
  | 22 => ("WhoComplainsCarriesModel", "numbers", "[I", true)
  | 23 => ("WhoComplainsCarriesModel", "mosts", "[I", true)
  | 24 => ("WhoComplainsCarriesModel", "told", "[I", true)
  | 25 => ("WhoComplainsCarriesModel", "base", "I", false)
  | 26 => ("WhoComplainsCarriesModel", "place", "I", false)
  | 27 => ("WhoComplainsCarriesModel", "end", "I", false)
  | 28 => ("WhoComplainsCarriesModel", "number", "I", false)
  | 29 => ("WhoComplainsCarriesModel", "wrongAt", "I", false)
  | 30 => ("WhoComplainsCarriesModel", "was", "[I", true)
  | 31 => ("WhoComplainsCarriesModel", "kept", "[I", true)
  | 32 => ("WhoComplainsCarriesModel", "later", "[I", true)
  | 33 => ("WhoComplainsCarriesModel", "muted", "I", false)
  | 34 => ("WhoComplainsCarriesModel", "leg", "[I", true)
  | 35 => ("WhoComplainsCarriesModel", "bestLeg", "[I", true)
  | 36 => ("WhoComplainsCarriesModel", "farthest", "I", false)
  | 37 => ("WhoComplainsCarriesModel", "counting", "I", false)
  | 38 => ("WhoComplainsCarriesModel", "freed", "I", false)
  | 39 => ("WhoComplainsCarriesModel", "trace", "[I", true)
  | 40 => ("WhoComplainsCarriesModel", "ran", "I", false)
  | _ => ("WhoComplainsCarriesModel", "isThere", "Z", false)
def tyX7 : Nat → FieldType := fun k => match k with
  | 0 => .int
  | 1 => .int
  | 2 => .int
  | 3 => .int
  | 4 => .int
  | 5 => .int
  | 6 => .int
  | 7 => .int
  | 8 => .int
  | 9 => .array .int
  | 10 => .array .int
  | 11 => .array .int
  | 12 => .array .int
  | 13 => .array .int
  | 14 => .array .int
  | 15 => .array .int
  | 16 => .array .int
  | 17 => .array .int
  | 18 => .array .int
  | 19 => .array .long
  | 20 => .array .long
  | 21 => .array .int
  | 22 => .array .int
  | 23 => .array .int
  | 24 => .array .int
  | 25 => .int
  | 26 => .int
  | 27 => .int
  | 28 => .int
  | 29 => .int
  | 30 => .array .int
  | 31 => .array .int
  | 32 => .array .int
  | 33 => .int
  | 34 => .array .int
  | 35 => .array .int
  | 36 => .int
  | 37 => .int
  | 38 => .int
  | 39 => .array .int
  | 40 => .int
  | _ => .boolean
theorem nmX7 : ∀ a, a < 42 → ∀ b, b < 42 → a ≠ b → (TX7 a).2.1 ≠ (TX7 b).2.1 := by decide +kernel
theorem tyX7_ok : ∀ k, k < 42 → parseFieldDescriptor (TX7 k).2.2.1 = some (tyX7 k) := by decide +kernel
abbrev cX7_init : ByteArray := prog_9_method_1_code
def yX7_init : MethodName := ⟨RX7, "<init>", "()V"⟩
abbrev cX7_no : ByteArray := prog_9_method_2_code
def yX7_no : MethodName := ⟨RX7, "no", "(I)I"⟩
abbrev cX7_noTen : ByteArray := prog_9_method_3_code
def yX7_noTen : MethodName := ⟨RX7, "noTen", "(I)I"⟩
abbrev cX7_isShelf : ByteArray := prog_9_method_4_code
def yX7_isShelf : MethodName := ⟨RX7, "isShelf", "(I)Z"⟩
abbrev cX7_isOne : ByteArray := prog_9_method_5_code
def yX7_isOne : MethodName := ⟨RX7, "isOne", "(I)Z"⟩
abbrev cX7_isFrom : ByteArray := prog_9_method_6_code
def yX7_isFrom : MethodName := ⟨RX7, "isFrom", "(III)Z"⟩
abbrev cX7_row : ByteArray := prog_9_method_7_code
def yX7_row : MethodName := ⟨RX7, "row", "(III)I"⟩
abbrev cX7_set : ByteArray := prog_9_method_8_code
def yX7_set : MethodName := ⟨RX7, "set", "(IIJ)I"⟩
abbrev cX7_copy : ByteArray := prog_9_method_9_code
def yX7_copy : MethodName := ⟨RX7, "copy", "(IIIII)I"⟩
abbrev cX7_element : ByteArray := prog_9_method_10_code
def yX7_element : MethodName := ⟨RX7, "element", "(II)J"⟩
abbrev cX7_show : ByteArray := prog_9_method_11_code
def yX7_show : MethodName := ⟨RX7, "show", "(II)I"⟩
abbrev cX7_holds : ByteArray := prog_9_method_12_code
def yX7_holds : MethodName := ⟨RX7, "holds", "(I)I"⟩
abbrev cX7_says : ByteArray := prog_9_method_13_code
def yX7_says : MethodName := ⟨RX7, "says", "(II)I"⟩
abbrev cX7_wanted : ByteArray := prog_9_method_14_code
def yX7_wanted : MethodName := ⟨RX7, "wanted", "(I)I"⟩
abbrev cX7_intAt : ByteArray := prog_9_method_15_code
def yX7_intAt : MethodName := ⟨RX7, "intAt", "(II)I"⟩
abbrev cX7_adds : ByteArray := prog_9_method_16_code
def yX7_adds : MethodName := ⟨RX7, "adds", "(IIII)I"⟩
abbrev cX7_person : ByteArray := prog_9_method_17_code
def yX7_person : MethodName := ⟨RX7, "person", "(IIII)I"⟩
abbrev cX7_ask : ByteArray := prog_9_method_18_code
def yX7_ask : MethodName := ⟨RX7, "ask", "(II)I"⟩
abbrev cX7_tire : ByteArray := prog_9_method_19_code
def yX7_tire : MethodName := ⟨RX7, "tire", "(II)I"⟩
abbrev cX7_give : ByteArray := prog_9_method_20_code
def yX7_give : MethodName := ⟨RX7, "give", "(I)I"⟩
abbrev cX7_personOf : ByteArray := prog_9_method_21_code
def yX7_personOf : MethodName := ⟨RX7, "personOf", "(II)I"⟩
abbrev cX7_wrong : ByteArray := prog_9_method_22_code
def yX7_wrong : MethodName := ⟨RX7, "wrong", "(I)Z"⟩
abbrev cX7_stands : ByteArray := prog_9_method_23_code
def yX7_stands : MethodName := ⟨RX7, "stands", "(I)Z"⟩
abbrev cX7_word : ByteArray := prog_9_method_24_code
def yX7_word : MethodName := ⟨RX7, "word", "()I"⟩
abbrev cX7_isDigit : ByteArray := prog_9_method_25_code
def yX7_isDigit : MethodName := ⟨RX7, "isDigit", "()Z"⟩
abbrev cX7_reads : ByteArray := prog_9_method_26_code
def yX7_reads : MethodName := ⟨RX7, "reads", "()Z"⟩
abbrev cX7_isSo : ByteArray := prog_9_method_27_code
def yX7_isSo : MethodName := ⟨RX7, "isSo", "(II)Z"⟩
abbrev cX7_item : ByteArray := prog_9_method_28_code
def yX7_item : MethodName := ⟨RX7, "item", "()Z"⟩
abbrev cX7_carries : ByteArray := prog_9_method_29_code
def yX7_carries : MethodName := ⟨RX7, "carries", "([I[IIZ)I"⟩
abbrev cX7_all : ByteArray := prog_9_method_30_code
def yX7_all : MethodName := ⟨RX7, "all", "([IZ)V"⟩
abbrev cX7_vow : ByteArray := prog_9_method_31_code
def yX7_vow : MethodName := ⟨RX7, "vow", "(I)I"⟩
abbrev cX7_fault : ByteArray := prog_9_method_32_code
def yX7_fault : MethodName := ⟨RX7, "fault", "()I"⟩
abbrev cX7_pace : ByteArray := prog_9_method_33_code
def yX7_pace : MethodName := ⟨RX7, "pace", "(I)I"⟩
abbrev cX7_toil : ByteArray := prog_9_method_34_code
def yX7_toil : MethodName := ⟨RX7, "toil", "(I)I"⟩
abbrev cX7_limit : ByteArray := prog_9_method_35_code
def yX7_limit : MethodName := ⟨RX7, "limit", "(I)I"⟩
abbrev cX7_wouldSigh : ByteArray := prog_9_method_36_code
def yX7_wouldSigh : MethodName := ⟨RX7, "wouldSigh", "(II)Z"⟩
abbrev cX7_tires : ByteArray := prog_9_method_37_code
def yX7_tires : MethodName := ⟨RX7, "tires", "(II)V"⟩
abbrev cX7_step : ByteArray := prog_9_method_38_code
def yX7_step : MethodName := ⟨RX7, "step", "(Z)V"⟩
abbrev cX7_sighs : ByteArray := prog_9_method_39_code
def yX7_sighs : MethodName := ⟨RX7, "sighs", "(I)I"⟩
abbrev cX7_ready : ByteArray := prog_9_method_40_code
def yX7_ready : MethodName := ⟨RX7, "ready", "(I)I"⟩
abbrev cX7_ahead : ByteArray := prog_9_method_41_code
def yX7_ahead : MethodName := ⟨RX7, "ahead", "(II)I"⟩
abbrev cX7_tired : ByteArray := prog_9_method_42_code
def yX7_tired : MethodName := ⟨RX7, "tired", "(II)I"⟩
abbrev cX7_isOver : ByteArray := prog_9_method_43_code
def yX7_isOver : MethodName := ⟨RX7, "isOver", "()I"⟩
abbrev cX7_over : ByteArray := prog_9_method_44_code
def yX7_over : MethodName := ⟨RX7, "over", "()I"⟩
abbrev cX7_tillAbove : ByteArray := prog_9_method_45_code
def yX7_tillAbove : MethodName := ⟨RX7, "tillAbove", "(I)I"⟩
abbrev cX7_alone : ByteArray := prog_9_method_46_code
def yX7_alone : MethodName := ⟨RX7, "alone", "(II)I"⟩
abbrev cX7_goesLeg : ByteArray := prog_9_method_47_code
def yX7_goesLeg : MethodName := ⟨RX7, "goesLeg", "(I)Z"⟩
abbrev cX7_legs : ByteArray := prog_9_method_48_code
def yX7_legs : MethodName := ⟨RX7, "legs", "(III)V"⟩
abbrev cX7_relay : ByteArray := prog_9_method_49_code
def yX7_relay : MethodName := ⟨RX7, "relay", "(III)I"⟩
abbrev cX7_barsOfCases : ByteArray := prog_9_method_50_code
def yX7_barsOfCases : MethodName := ⟨RX7, "barsOfCases", "(IIZ)I"⟩
abbrev cX7_clashIn : ByteArray := prog_9_method_51_code
def yX7_clashIn : MethodName := ⟨RX7, "clashIn", "(II)I"⟩
abbrev cX7_cases : ByteArray := prog_9_method_52_code
def yX7_cases : MethodName := ⟨RX7, "cases", "(III)I"⟩
abbrev cX7_clash : ByteArray := prog_9_method_53_code
def yX7_clash : MethodName := ⟨RX7, "clash", "(II)I"⟩
abbrev cX7_bearsSo : ByteArray := prog_9_method_54_code
def yX7_bearsSo : MethodName := ⟨RX7, "bearsSo", "(III)Z"⟩
abbrev cX7_borne : ByteArray := prog_9_method_55_code
def yX7_borne : MethodName := ⟨RX7, "borne", "(II)I"⟩
abbrev cX7_overWithout : ByteArray := prog_9_method_56_code
def yX7_overWithout : MethodName := ⟨RX7, "overWithout", "(I)I"⟩
abbrev cX7_without : ByteArray := prog_9_method_57_code
def yX7_without : MethodName := ⟨RX7, "without", "()I"⟩
abbrev cX7_overBy : ByteArray := prog_9_method_58_code
def yX7_overBy : MethodName := ⟨RX7, "overBy", "(I)I"⟩
abbrev cX7_weights : ByteArray := prog_9_method_59_code
def yX7_weights : MethodName := ⟨RX7, "weights", "(II)I"⟩
abbrev cX7_praise : ByteArray := prog_9_method_60_code
def yX7_praise : MethodName := ⟨RX7, "praise", "(I)I"⟩
abbrev cX7_speaks : ByteArray := prog_9_method_61_code
def yX7_speaks : MethodName := ⟨RX7, "speaks", "(II)V"⟩
abbrev cX7_talks : ByteArray := prog_9_method_62_code
def yX7_talks : MethodName := ⟨RX7, "talks", "(II)I"⟩
abbrev cX7_barsOfTalk : ByteArray := prog_9_method_63_code
def yX7_barsOfTalk : MethodName := ⟨RX7, "barsOfTalk", "(IIZ)I"⟩
abbrev cX7_judge : ByteArray := prog_9_method_64_code
def yX7_judge : MethodName := ⟨RX7, "judge", "(II)I"⟩
abbrev cX7_behind : ByteArray := prog_9_method_65_code
def yX7_behind : MethodName := ⟨RX7, "behind", "(III)I"⟩
abbrev cX7_done : ByteArray := prog_9_method_66_code
def yX7_done : MethodName := ⟨RX7, "done", "(II)I"⟩
abbrev cX7_say : ByteArray := prog_9_method_67_code
def yX7_say : MethodName := ⟨RX7, "say", "(II)I"⟩
abbrev cX7_steps : ByteArray := prog_9_method_68_code
def yX7_steps : MethodName := ⟨RX7, "steps", "(I)I"⟩
abbrev cX7_draw : ByteArray := prog_9_method_69_code
def yX7_draw : MethodName := ⟨RX7, "draw", "(I)I"⟩
abbrev cX7_days : ByteArray := prog_9_method_70_code
def yX7_days : MethodName := ⟨RX7, "days", "(I)I"⟩
abbrev cX7_seed : ByteArray := prog_9_method_71_code
def yX7_seed : MethodName := ⟨RX7, "seed", "(I)I"⟩
abbrev cX7_body : ByteArray := prog_9_method_72_code
def yX7_body : MethodName := ⟨RX7, "body", "(I)V"⟩
abbrev cX7_walking : ByteArray := prog_9_method_73_code
def yX7_walking : MethodName := ⟨RX7, "walking", "(II)I"⟩
abbrev cX7_bearing : ByteArray := prog_9_method_74_code
def yX7_bearing : MethodName := ⟨RX7, "bearing", "(II)I"⟩
abbrev cX7_speaking : ByteArray := prog_9_method_75_code
def yX7_speaking : MethodName := ⟨RX7, "speaking", "(II)I"⟩
abbrev cX7_act : ByteArray := prog_9_method_76_code
def yX7_act : MethodName := ⟨RX7, "act", "(III)I"⟩
abbrev cX7_trace : ByteArray := prog_9_method_77_code
def yX7_trace : MethodName := ⟨RX7, "trace", "(I)I"⟩
abbrev cX7_image : ByteArray := prog_9_method_78_code
def yX7_image : MethodName := ⟨RX7, "image", "()I"⟩
abbrev cX7_restore : ByteArray := prog_9_method_79_code
def yX7_restore : MethodName := ⟨RX7, "restore", "()I"⟩
abbrev cX7_status : ByteArray := prog_9_method_80_code
def yX7_status : MethodName := ⟨RX7, "status", "(I)I"⟩
def RJ9 : String := "java/lang/Math"
abbrev cJ9_max_7cf53 : ByteArray := prog_10_method_65_code
def yJ9_max_7cf53 : MethodName := ⟨RJ9, "max", "(II)I"⟩
abbrev cJ9_min_7cf53 : ByteArray := prog_10_method_69_code
def yJ9_min_7cf53 : MethodName := ⟨RJ9, "min", "(II)I"⟩
def RJ0 : String := "java/lang/String"
abbrev cJ0_length_8abf5 : ByteArray := prog_11_method_54_code
def yJ0_length_8abf5 : MethodName := ⟨RJ0, "length", "()I"⟩
abbrev cJ0_charAt_5068e : ByteArray := prog_11_method_56_code
def yJ0_charAt_5068e : MethodName := ⟨RJ0, "charAt", "(I)C"⟩
abbrev cJ0_coder_7d493 : ByteArray := prog_11_method_152_code
def yJ0_coder_7d493 : MethodName := ⟨RJ0, "coder", "()B"⟩
abbrev cJ0_isLatin1_aae02 : ByteArray := prog_11_method_154_code
def yJ0_isLatin1_aae02 : MethodName := ⟨RJ0, "isLatin1", "()Z"⟩
abbrev cJ0_checkIndex_df160 : ByteArray := prog_11_method_155_code
def yJ0_checkIndex_df160 : MethodName := ⟨RJ0, "checkIndex", "(II)V"⟩
def RJ1 : String := "java/lang/StringLatin1"
abbrev cJ1_charAt_3b067 : ByteArray := prog_12_method_2_code
def yJ1_charAt_3b067 : MethodName := ⟨RJ1, "charAt", "([BI)C"⟩
def RJ2 : String := "java/lang/StringUTF16"
abbrev cJ2_getChar_3b067 : ByteArray := prog_13_method_5_code
def yJ2_getChar_3b067 : MethodName := ⟨RJ2, "getChar", "([BI)C"⟩
abbrev cJ2_length_9d52b : ByteArray := prog_13_method_6_code
def yJ2_length_9d52b : MethodName := ⟨RJ2, "length", "([B)I"⟩
abbrev cJ2_charAt_3b067 : ByteArray := prog_13_method_83_code
def yJ2_charAt_3b067 : MethodName := ⟨RJ2, "charAt", "([BI)C"⟩
abbrev cJ2_checkIndex_2214a : ByteArray := prog_13_method_91_code
def yJ2_checkIndex_2214a : MethodName := ⟨RJ2, "checkIndex", "(I[B)V"⟩
def RJ10 : String := "java/lang/System"
def RJ3 : String := "jdk/internal/util/Preconditions"
abbrev cJ3_checkIndex_8e157 : ByteArray := prog_15_method_11_code
def yJ3_checkIndex_8e157 : MethodName := ⟨RJ3, "checkIndex", "(IILjava/util/function/BiFunction;)I"⟩
def RL : String := "WhoComplainsCarriesLaw"
end
section
-- THE LOGICAL MEMORY: addresses 0, 1, .. in the order of making; ints, longs, references apart
abbrev ZMem : Type := (Nat → Nat → Int32) × (Nat → Nat → Int64) × (Nat → Nat → Option Nat)
def zI (μ : ZMem) (a k : Nat) : Int32 := μ.1 a k
def zL (μ : ZMem) (a k : Nat) : Int64 := μ.2.1 a k
def zR (μ : ZMem) (a k : Nat) : Option Nat := μ.2.2 a k
def zpI (μ : ZMem) (a k : Nat) (x : Int32) : ZMem := (fun b j => if b = a ∧ j = k then x else μ.1 b j, μ.2)
def zpL (μ : ZMem) (a k : Nat) (x : Int64) : ZMem := (μ.1, fun b j => if b = a ∧ j = k then x else μ.2.1 b j, μ.2.2)
def zpR (μ : ZMem) (a k : Nat) (x : Nat) : ZMem := (μ.1, μ.2.1, fun b j => if b = a ∧ j = k then some x else μ.2.2 b j)
def zmk (μ : ZMem) (a : Nat) : ZMem := (fun b j => if b = a then 0 else μ.1 b j, fun b j => if b = a then 0 else μ.2.1 b j, fun b j => if b = a then none else μ.2.2 b j)
def zcp (μ : ZMem) (a b i j n : Nat) : ZMem := (μ.1, fun x k => if x = b then va_cpy (μ.2.1 a) (μ.2.1 b) i j n k else μ.2.1 x k, μ.2.2)
/-- what lies at each address: (class, -) or (100 ints, 101 longs, 102 Person, 103 Vow, 104 Shelf; length) -/
def zSH : List (Nat × Nat) := [(6, 0), (104, 8), (3, 0), (101, 160), (3, 0), (101, 160), (3, 0), (101, 160), (3, 0), (101, 160), (3, 0), (101, 160), (3, 0), (101, 160), (3, 0), (101, 160), (3, 0), (101, 160), (4, 0), (102, 7), (1, 0), (1, 0), (1, 0), (1, 0), (1, 0), (1, 0), (1, 0), (4, 0), (102, 7), (1, 0), (1, 0), (1, 0), (1, 0), (1, 0), (1, 0), (1, 0), (4, 0), (102, 7), (1, 0), (1, 0), (1, 0), (1, 0), (1, 0), (1, 0), (1, 0), (2, 0), (103, 5), (4, 0), (102, 7), (1, 0), (1, 0), (1, 0), (1, 0), (1, 0), (1, 0), (1, 0), (4, 0), (102, 7), (1, 0), (1, 0), (1, 0), (1, 0), (1, 0), (1, 0), (1, 0), (4, 0), (102, 7), (1, 0), (1, 0), (1, 0), (1, 0), (1, 0), (1, 0), (1, 0), (4, 0), (102, 7), (1, 0), (1, 0), (1, 0), (1, 0), (1, 0), (1, 0), (1, 0), (4, 0), (102, 7), (1, 0), (1, 0), (1, 0), (1, 0), (1, 0), (1, 0), (1, 0), (100, 4), (100, 4), (5, 0), (100, 160), (4, 0), (102, 7), (1, 0), (1, 0), (1, 0), (1, 0), (1, 0), (1, 0), (1, 0), (0, 0), (100, 20), (100, 8), (7, 0), (100, 8), (100, 7), (100, 7), (100, 7), (100, 7), (100, 7), (100, 8), (100, 8), (100, 8), (100, 8), (101, 1280), (101, 160), (100, 47), (100, 7), (100, 4), (100, 4), (100, 45), (100, 45), (100, 45), (100, 4), (100, 4), (100, 20)]
def zcls (a : Nat) : Nat := match zSH[a]? with
  | some q => q.1
  | none => 999
def zsz (a : Nat) : Nat := match zSH[a]? with
  | some q => q.2
  | none => 0
def isC (n c a : Nat) : Bool := decide (a < n) && (zcls a == c)
def inb (i : Int32) (a : Nat) : Bool := !decide (i < 0) && decide (i.toNatClampNeg < zsz a)
def zcl : List vw_C := [(RX0, TX0, 5), (RX1, TX1, 5), (RX2, TX2, 4), (RX3, TX3, 5), (RX4, TX4, 9), (RX5, TX5, 5), (RX6, TX6, 10), (RX7, TX7, 42)]
def znf (c : Nat) : Nat := match zcl[c]? with
  | some q => q.2.2
  | none => 0
/-- which fields hold references -/
def zrf (c k : Nat) : Bool := match c with
  | 0 => [0].contains k
  | 2 => [0, 1, 2].contains k
  | 3 => [4].contains k
  | 4 => [0].contains k
  | 5 => [0, 2].contains k
  | 6 => [0, 1, 2, 3, 4, 5, 6, 7].contains k
  | 7 => [9, 10, 11, 12, 13, 14, 15, 16, 17, 18, 19, 20, 21, 22, 23, 24, 30, 31, 32, 34, 35, 39].contains k
  | _ => false
abbrev ZX : Type := va_G × (Nat → ClassId) × Nat × (Nat → Nat) × (Nat → Int32) × Nat
def zD (ξ : ZX) : va_G := ξ.1
def zcA (ξ : ZX) : Nat → ClassId := ξ.2.1
def zb (ξ : ZX) : Nat := ξ.2.2.1
def zsa (ξ : ZX) : Nat → Nat := ξ.2.2.2.1
def zxs (ξ : ZX) : Nat → Int32 := ξ.2.2.2.2.1
def zLn (ξ : ZX) : Nat := ξ.2.2.2.2.2
def zad (ξ : ZX) (k : Nat) : Nat := if k < 1000 then zb ξ + k else zsa ξ (k - 1000)
def zvm (ξ : ZX) (v : Value) : Value := match v with
  | .ref k => .ref (zad ξ k)
  | w => w
def zq (ξ : ZX) (q : Nat × Value) : Nat × Value := (q.1, zvm ξ q.2)
def zfv (ξ : ZX) (μ : ZMem) (a c k : Nat) : Value := if zrf c k = true then va_rf ((zR μ a k).map (zad ξ)) else .int (zI μ a k)
def zfs (ξ : ZX) (μ : ZMem) (a c : Nat) : List Value := (List.range (znf c)).map (zfv ξ μ a c)
def zent (ξ : ZX) (μ : ZMem) (a : Nat) : va_E :=
  if zcls a < 100 then .inr (zcls a, zfs ξ μ a (zcls a))
  else if zcls a = 100 then .inl (zcA ξ 0, zsz a, .inl (zI μ a))
  else if zcls a = 101 then .inl (zcA ξ 1, zsz a, .inr (.inl (zL μ a)))
  else .inl (zcA ξ (zcls a - 100), zsz a, .inr (.inr (.inr (.inr (fun k => (zR μ a k).map (zad ξ))))))
def zws (ξ : ZX) (n : Nat) (μ : ZMem) : va_W := (List.range n).map fun a => (zad ξ a, zent ξ μ a)
def ztys (ξ : ZX) : List (ClassId × FieldType) := [(zcA ξ 0, .int), (zcA ξ 1, .long), (zcA ξ 2, .object RX1), (zcA ξ 3, .object RX4), (zcA ξ 4, .object RX3)]
def zA (ξ : ZX) : Nat → Prop := fun q => zb ξ ≤ q
def zW (ξ : ZX) (fr : Bool) (n : Nat) (μ : ZMem) (H : Heap) : Prop := va_P (zD ξ) zcl (zws ξ n μ) H ∧ (fr = true → H.size = zb ξ + n) ∧ n ≤ 1000
-- the constants that lie in older cells
def zKA (j : Nat) : Int32 := ([-1, 0, 0, 1, 0, 2, 4] : List Int32).getD j 0
def zBO (j : Nat) : Int32 := ([10, 11, 12, 20, 0, 0, 0, 30, 0, 40, 0, 0, 51, 0, 50, 0, 0, 60, 70, 71, 0] : List Int32).getD j 0
def zNM : List (String × Nat × MethodName × String) := [(RX1, 40, yX6_upward, RX6), (RX5, 139, yX6_isIn, RX6), (RX4, 51, yX6_isIn, RX6), (RX2, 43, yX6_isIn, RX6), (RX0, 59, yX6_isKind, RX6), (RX0, 34, yX6_isIn, RX6), (RX0, 51, yX6_kindAbove, RX6)]
def zNest (U : State) : Prop := (∀ q ∈ zNM, va_Nw (.methodLinkNest q.1 q.2.1 q.2.2.1 q.2.2.2) U) ∧ va_Nw (.fieldLinkNest RX0 63 RX6 "BODIES" "[I" RX6) U
def zLen : List Nat := [6, 6, 3, 5, 4, 6, 4, 0]
def zByt : List (List Int32) := [[112, 101, 114, 115, 111, 110], [119, 101, 105, 103, 104, 116], [119, 97, 121], [98, 101, 97, 114, 115], [108, 105, 101, 115], [99, 111, 117, 110, 116, 115], [102, 114, 101, 101], []]
def zStx : List (Nat × String) := [(121, "person"), (123, "weight"), (124, "way"), (125, "bears"), (127, "lies"), (129, "counts"), (131, "free"), (133, "")]
def zStr (ξ : ZX) (U : State) : Prop := (∀ i : Nat, i < 8 → vk_R RX5 ((zStx.getD i (0, "")).1) ((zStx.getD i (0, "")).2) (zsa ξ (10 + i)) U) ∧ vk_S 8 zLen zByt (fun i => zsa ξ (10 + i)) (fun i => zsa ξ (30 + i)) (zA ξ) U U.heap ∧ va_Z RJ0 "COMPACT_STRINGS" "Z" (.int 1) (zA ξ) U U.heap ∧ (va_Z RJ3 "SIOOBE_FORMATTER" "Ljava/util/function/BiFunction;" .null (zA ξ) U U.heap ∨ va_Z RJ3 "SIOOBE_FORMATTER" "Ljava/util/function/BiFunction;" (.ref (zsa ξ 3)) (zA ξ) U U.heap)
def zE (ξ : ZX) (U : State) : Prop := va_K (zD ξ) zcl (ztys ξ) U ∧ (va_AO RX1 U ∧ va_AO RX4 U ∧ va_AO RX3 U) ∧ zb ξ ≤ U.heap.size ∧
  (va_Z RX6 "KIND_ABOVE" "[I" (.ref (zsa ξ 1)) (zA ξ) U U.heap ∧ va_T .int (zsa ξ 1) 7 (fun j => .int (zKA j)) (zA ξ) U U.heap) ∧
  (va_Z RX6 "BODIES" "[I" (.ref (zsa ξ 2)) (zA ξ) U U.heap ∧ va_T .int (zsa ξ 2) 21 (fun j => .int (zBO j)) (zA ξ) U U.heap) ∧
  (va_X (zsa ξ 0) (zLn ξ) (zxs ξ) U U.heap ∧ zsa ξ 0 < zb ξ ∧ zLn ξ ≤ 3072) ∧ zNest U ∧ zStr ξ U
-- THE JUDGEMENT: a method = (name, bytes, locals, answer); a frame = (launch, method, room, what it ends with)
abbrev ZM : Type := MethodName × ByteArray × Nat × Option FieldType
abbrev ZK : Type := Launch × ZM × Room × Nat × (Bool × Nat × ZMem × Option Value) × (ZX → Prop)
def zT : List Cond := lw_tbl.filter goodWord
def zwd (M : ZM) : List Cond := .code M.1 M.2.1 M.2.2.1 M.2.2.2 :: zT
def zPc (ξ : ZX) (av : List Value) (fr : Bool) (n : Nat) (μ : ZMem) : Array Value → State → Prop := va_Pc (av.map (zvm ξ)) (fun U => zW ξ fr n μ U.heap ∧ zE ξ U)
def zQc (ξ : ZX) (z : Bool × Nat × ZMem × Option Value) : Array Value → State → Outcome → State → Prop := fun _ st o t => o = .returned (z.2.2.2.map (zvm ξ)) ∧ zW ξ z.1 z.2.1 z.2.2.1 t.heap ∧ va_F (zA ξ) st t
def ZFn (l : Launch) (M : ZM) (R : Room) (av : List Value) (fr : Bool) (n : Nat) (μ : ZMem) (z : Bool × Nat × ZMem × Option Value) : Prop :=
  ∀ ξ : ZX, Met l M.1 (zwd M) R (zPc ξ av fr n μ) (zQc ξ z) R.cells R.slots (zA ξ)
def zC (κ : ZK) (ξ : ZX) (p : Program) (s : State) (m : MethodId) (args : Array Value) (meth : Method) (c : Code) : Prop :=
  p.tables.exec = Jvm.exec ∧ c.code = κ.2.1.2.1 ∧ meth.sig.returnType = κ.2.1.2.2.2 ∧ c.maxLocals = κ.2.1.2.2.1 ∧ s.vm.findClass κ.2.1.1.cls = some m.cls ∧ (∀ w ∈ zwd κ.2.1, w.before args s = true) ∧ meth.locks = false ∧ meth.name = κ.2.1.1.name ∧ zE ξ s
def zslot (a : Nat) : Nat := if zcls a < 100 then znf (zcls a) else zsz a
def zpre : Nat → Nat
  | 0 => 0
  | a + 1 => zpre a + zslot a
def zroom (κ : ZK) (n : Nat) : Prop := κ.2.2.2.1 ≤ n ∧ n - κ.2.2.2.1 ≤ κ.2.2.1.cells ∧ zpre n - zpre κ.2.2.2.1 ≤ κ.2.2.1.slots
def V (κ : ZK) (fr : Bool) (pc : Nat) (ls : List (Nat × Value)) (st : List Value) (n : Nat) (μ : ZMem) : Prop :=
  ∀ (ξ : ZX) (_ : κ.2.2.2.2.2 ξ) (p : Program) (e : Env) (s : State) (m : MethodId) (args : Array Value) (below : List Frame) (meth : Method) (c : Code) (H : Heap) (locs : List Loc) (lsA : Array Slot),
    (zC κ ξ p s m args meth c ∧ zroom κ n) → zW ξ fr n μ H → va_S (zA ξ) s.heap H locs → lv_has lsA κ.2.1.2.2.1 (ls.map (zq ξ)) →
    W p κ.1 e κ.2.2.1 s m args below meth c H locs (n - κ.2.2.2.1) (zpre n - zpre κ.2.2.2.1) (MQ below (zQc ξ κ.2.2.2.2.1) args s κ.2.2.1.cells κ.2.2.1.slots (zA ξ)) (F0 m pc lsA (st.map (zvm ξ)))
def zany : ZX → Prop := fun _ => True
-- what a function says
def chk {α : Type} (b : Bool) (x : Option α) : Option α := if b = true then x else none
def bd1 {α β : Type} (x : Option α) (f : α → Option β) : Option β := match x with
  | some a => f a
  | none => none
def bd2 {α β γ : Type} (x : Option (α × β)) (f : α → β → Option γ) : Option γ := match x with
  | some q => f q.1 q.2
  | none => none
def lt {α β : Type} (x : α) (f : α → Option β) : Option β := f x
theorem chk_some {α : Type} {b : Bool} {x : Option α} {r : α} (h : chk b x = some r) : b = true ∧ x = some r := by
  unfold chk at h
  split at h
  · exact ⟨by assumption, h⟩
  · cases h
theorem bd1_some {α β : Type} {x : Option α} {f : α → Option β} {r : β} (h : bd1 x f = some r) : ∃ a, x = some a ∧ f a = some r := by
  cases x with
  | none => cases h
  | some a => exact ⟨a, rfl, h⟩
theorem bd2_some {α β γ : Type} {x : Option (α × β)} {f : α → β → Option γ} {r : γ} (h : bd2 x f = some r) : ∃ a b, x = some (a, b) ∧ f a b = some r := by
  cases x with
  | none => cases h
  | some a => exact ⟨a.1, a.2, rfl, h⟩
theorem lt_some {α β : Type} {x : α} {f : α → Option β} {r : β} (h : lt x f = some r) : ∃ a, a = x ∧ f a = some r := ⟨x, rfl, h⟩
theorem ite_t {α : Type} {c : Prop} {i : Decidable c} {x y : Option α} {r : α} (h : (if c then x else y) = some r) (hc : c) : x = some r := by rw [if_pos hc] at h; exact h
theorem ite_f {α : Type} {c : Prop} {i : Decidable c} {x y : Option α} {r : α} (h : (if c then x else y) = some r) (hc : ¬ c) : y = some r := by rw [if_neg hc] at h; exact h
/-- a reference out of a cell, of the class that is looked for -/
def zRc (n c : Nat) (μ : ZMem) (a k : Nat) : Option Nat := match zR μ a k with
  | some x => if isC n c x = true then some x else none
  | none => none
theorem zRc_some {n c : Nat} {μ : ZMem} {a k x : Nat} (h : zRc n c μ a k = some x) : zR μ a k = some x ∧ isC n c x = true := by
  unfold zRc at h
  split at h
  · split at h
    · cases h
      exact ⟨by assumption, by assumption⟩
    · cases h
  · cases h
theorem zdk {cc : ByteArray} {tb : List (Nat × Instr × Nat)} (h : ∀ q ∈ tb, decode cc q.1 = .ok (q.2.1, q.2.2)) (i : Nat) {pc len : Nat} {op : Instr} (hi : tb[i]? = some (pc, op, len)) : decode cc pc = .ok (op, len) := h (pc, op, len) (List.mem_of_getElem? hi)
theorem zin {i : Nat} {w : Cond} (h : tables_1[i]? = some w) (hg : goodWord w = true) : w ∈ zT := List.mem_filter.mpr ⟨List.mem_append_right _ (List.mem_of_getElem? h), hg⟩
theorem zinP {i : Nat} {q : MethodName × Nat} (h : lw_privs[i]? = some q) (hg : goodWord (Cond.selects q.1.cls q.1 q.1) = true) : Cond.selects q.1.cls q.1 q.1 ∈ zT := List.mem_filter.mpr ⟨List.mem_append_left _ (List.mem_map.mpr ⟨q, List.mem_of_getElem? h, rfl⟩), hg⟩
theorem isC_lt {n c a : Nat} (h : isC n c a = true) : a < n := by
  unfold isC at h
  simp only [Bool.and_eq_true, decide_eq_true_eq] at h
  exact h.1
theorem isC_cl {n c a : Nat} (h : isC n c a = true) : zcls a = c := by
  unfold isC at h
  simp only [Bool.and_eq_true, decide_eq_true_eq, beq_iff_eq] at h
  exact h.2
theorem inb_in {i : Int32} {a : Nat} (h : inb i a = true) : vp_in i (zsz a) := by
  unfold inb at h
  simp only [Bool.and_eq_true, Bool.not_eq_true', decide_eq_false_iff_not, decide_eq_true_eq] at h
  rintro (q | q)
  · exact h.1 q
  · omega
-- THE WORLD
theorem zad_lt {ξ : ZX} {k : Nat} (h : k < 1000) : zad ξ k = zb ξ + k := by simp [zad, h]
theorem zws_get {ξ : ZX} {n : Nat} {μ : ZMem} {a : Nat} (h : a < n) : (zws ξ n μ)[a]? = some (zad ξ a, zent ξ μ a) := by
  simp [zws, List.getElem?_map, List.getElem?_range h]
theorem zws_of {ξ : ZX} {n : Nat} {μ : ZMem} {k : Nat} {q : Nat × va_E} (h : (zws ξ n μ)[k]? = some q) : k < n ∧ q = (zad ξ k, zent ξ μ k) := by
  have hk : k < n := by
    have := (List.getElem?_eq_some_iff.mp h).1
    simpa [zws] using this
  rw [zws_get hk] at h
  exact ⟨hk, (Option.some.inj h).symm⟩
theorem zws_len (ξ : ZX) (n : Nat) (μ : ZMem) : (zws ξ n μ).length = n := by simp [zws]
theorem zWD {ξ : ZX} {n : Nat} {μ : ZMem} (hn : n ≤ 1000) : va_D (zA ξ) (zws ξ n μ) := by
  refine ⟨fun i j p q hi hj hpq => ?_, fun k q hk => ?_⟩
  · obtain ⟨h1, rfl⟩ := zws_of hi
    obtain ⟨h2, rfl⟩ := zws_of hj
    dsimp only at hpq
    rw [zad_lt (by omega), zad_lt (by omega)] at hpq
    omega
  · obtain ⟨h1, rfl⟩ := zws_of hk
    show zb ξ ≤ zad ξ k
    rw [zad_lt (by omega)]
    omega
theorem zws_set {ξ : ZX} {n : Nat} {μ μ' : ZMem} {a : Nat} (h : ∀ b, b ≠ a → zent ξ μ b = zent ξ μ' b) : (zws ξ n μ).set a (zad ξ a, zent ξ μ' a) = zws ξ n μ' := by
  apply List.ext_getElem?
  intro i
  by_cases hi : i < n
  · by_cases hia : i = a
    · subst hia
      rw [List.getElem?_set_self (by rw [zws_len]; exact hi), zws_get hi]
    · rw [List.getElem?_set_ne (Ne.symm hia), zws_get hi, zws_get hi, h i hia]
  · rw [List.getElem?_eq_none (by rw [List.length_set, zws_len]; omega), List.getElem?_eq_none (by rw [zws_len]; omega)]
theorem zent_congr {ξ : ZX} {μ μ' : ZMem} {b : Nat} (h1 : ∀ k, zI μ b k = zI μ' b k) (h2 : ∀ k, zL μ b k = zL μ' b k) (h3 : ∀ k, zR μ b k = zR μ' b k) : zent ξ μ b = zent ξ μ' b := by
  have e1 : zI μ b = zI μ' b := funext h1
  have e2 : zL μ b = zL μ' b := funext h2
  have e3 : (fun k => (zR μ b k).map (zad ξ)) = (fun k => (zR μ' b k).map (zad ξ)) := funext fun k => by rw [h3 k]
  have e4 : ∀ c, zfv ξ μ b c = zfv ξ μ' b c := fun c => funext fun k => by simp only [zfv, h1 k, h3 k]
  unfold zent zfs
  rw [e1, e2, e3, e4]
theorem zent_obj {ξ : ZX} {μ : ZMem} {a c : Nat} (h : zcls a = c) (hc : c < 100) : zent ξ μ a = .inr (c, zfs ξ μ a c) := by
  unfold zent
  rw [h, if_pos hc]
theorem zent_int {ξ : ZX} {μ : ZMem} {a : Nat} (h : zcls a = 100) : zent ξ μ a = .inl (zcA ξ 0, zsz a, .inl (zI μ a)) := by
  unfold zent
  rw [h]
  rfl
theorem zent_lng {ξ : ZX} {μ : ZMem} {a : Nat} (h : zcls a = 101) : zent ξ μ a = .inl (zcA ξ 1, zsz a, .inr (.inl (zL μ a))) := by
  unfold zent
  rw [h]
  rfl
theorem zent_ref {ξ : ZX} {μ : ZMem} {a c : Nat} (h : zcls a = 100 + c) (hc : 2 ≤ c) : zent ξ μ a = .inl (zcA ξ c, zsz a, .inr (.inr (.inr (.inr (fun k => (zR μ a k).map (zad ξ)))))) := by
  unfold zent
  rw [h, if_neg (by omega), if_neg (by omega), if_neg (by omega), show 100 + c - 100 = c by omega]
theorem zfs_get {ξ : ZX} {μ : ZMem} {a c k : Nat} (h : k < znf c) : (zfs ξ μ a c)[k]? = some (zfv ξ μ a c k) := by
  simp [zfs, List.getElem?_map, List.getElem?_range h]
theorem zfs_set {ξ : ZX} {μ μ' : ZMem} {a c k : Nat} {v : Value} (hv : zfv ξ μ' a c k = v) (h : ∀ j, j ≠ k → zfv ξ μ a c j = zfv ξ μ' a c j) : (zfs ξ μ a c).set k v = zfs ξ μ' a c := by
  apply List.ext_getElem?
  intro i
  by_cases hi : i < znf c
  · by_cases hik : i = k
    · subst hik
      rw [List.getElem?_set_self (by simpa [zfs] using hi), zfs_get hi, hv]
    · rw [List.getElem?_set_ne (Ne.symm hik), zfs_get hi, zfs_get hi, h i hik]
  · rw [List.getElem?_eq_none (by simp [zfs]; omega), List.getElem?_eq_none (by simp [zfs]; omega)]
theorem zfs_len (ξ : ZX) (μ : ZMem) (a c : Nat) : (zfs ξ μ a c).length = znf c := by simp [zfs]
theorem zvm_cat (ξ : ZX) (v : Value) : (zvm ξ v).category = v.category := by cases v <;> rfl
theorem zvm_sum (ξ : ZX) (st : List Value) : ((st.map (zvm ξ)).map fun v => v.category).sum = (st.map fun v => v.category).sum := by
  rw [List.map_map]
  congr 1
  apply List.map_congr_left
  intro v _
  exact zvm_cat ξ v
theorem zq_filter (ξ : ZX) (P : Nat × Value → Bool) (hP : ∀ q, P (zq ξ q) = P q) (ls : List (Nat × Value)) : (ls.map (zq ξ)).filter P = (ls.filter P).map (zq ξ) := by
  rw [List.filter_map]
  congr 1
  apply List.filter_congr
  intro q _
  exact hP q
theorem zq_pick (ξ : ZX) (ls : List (Nat × Value)) (ks : List Nat) : lv_pick (ls.map (zq ξ)) ks = (lv_pick ls ks).map (zq ξ) := by
  simp only [lv_pick, List.getElem?_map]
  induction ks with
  | nil => rfl
  | cons k ks ih =>
    cases h : ls[k]? with
    | none => simp [List.filterMap_cons, h, ih]
    | some q => simp [List.filterMap_cons, h, ih]
section
variable {κ : ZK} {fr : Bool} {pc nn : Nat} {ls : List (Nat × Value)} {st : List Value} {μ : ZMem}
theorem V_iconst {n : Int} {v : Int32} (hdg : decode κ.2.1.2.1 pc = .ok (.iconst n, 1)) (hv : Int32.ofInt n = v) (k :  V κ fr (pc + 1) ls (.int v :: st) nn μ) : V κ fr pc ls (st) nn μ :=
  fun ξ hξ p e s m args below meth c H locs lsA C w S hL => lv_iconst C.1.1 C.1.2.1 hdg hv (k ξ hξ p e s m args below meth c H locs lsA C w S hL)
theorem V_bipush {n : Int} {v : Int32} (hdg : decode κ.2.1.2.1 pc = .ok (.bipush n, 2)) (hv : (Int8.ofInt n).toInt32 = v) (k :  V κ fr (pc + 2) ls (.int v :: st) nn μ) : V κ fr pc ls (st) nn μ :=
  fun ξ hξ p e s m args below meth c H locs lsA C w S hL => lv_bipush C.1.1 C.1.2.1 hdg hv (k ξ hξ p e s m args below meth c H locs lsA C w S hL)
theorem V_sipush {n : Int} {v : Int32} (hdg : decode κ.2.1.2.1 pc = .ok (.sipush n, 3)) (hv : (Int16.ofInt n).toInt32 = v) (k :  V κ fr (pc + 3) ls (.int v :: st) nn μ) : V κ fr pc ls (st) nn μ :=
  fun ξ hξ p e s m args below meth c H locs lsA C w S hL => lv_sipush C.1.1 C.1.2.1 hdg hv (k ξ hξ p e s m args below meth c H locs lsA C w S hL)
theorem V_lconst {n : Fin 2} {v : Int64} (hdg : decode κ.2.1.2.1 pc = .ok (.lconst n, 1)) (hv : Int64.ofNat (n : Nat) = v) (k :  V κ fr (pc + 1) ls (.long v :: st) nn μ) : V κ fr pc ls (st) nn μ :=
  fun ξ hξ p e s m args below meth c H locs lsA C w S hL => lv_lconst C.1.1 C.1.2.1 hdg hv (k ξ hξ p e s m args below meth c H locs lsA C w S hL)
theorem V_iadd {x y : Int32} (hdg : decode κ.2.1.2.1 pc = .ok (.iadd, 1)) (k :  V κ fr (pc + 1) ls (.int (x + y) :: st) nn μ) : V κ fr pc ls (.int y :: .int x :: st) nn μ :=
  fun ξ hξ p e s m args below meth c H locs lsA C w S hL => lv_iadd C.1.1 C.1.2.1 hdg (k ξ hξ p e s m args below meth c H locs lsA C w S hL)
theorem V_isub {x y : Int32} (hdg : decode κ.2.1.2.1 pc = .ok (.isub, 1)) (k :  V κ fr (pc + 1) ls (.int (x - y) :: st) nn μ) : V κ fr pc ls (.int y :: .int x :: st) nn μ :=
  fun ξ hξ p e s m args below meth c H locs lsA C w S hL => lv_isub C.1.1 C.1.2.1 hdg (k ξ hξ p e s m args below meth c H locs lsA C w S hL)
theorem V_imul {x y : Int32} (hdg : decode κ.2.1.2.1 pc = .ok (.imul, 1)) (k :  V κ fr (pc + 1) ls (.int (x * y) :: st) nn μ) : V κ fr pc ls (.int y :: .int x :: st) nn μ :=
  fun ξ hξ p e s m args below meth c H locs lsA C w S hL => lv_imul C.1.1 C.1.2.1 hdg (k ξ hξ p e s m args below meth c H locs lsA C w S hL)
theorem V_idiv {x y : Int32} (hdg : decode κ.2.1.2.1 pc = .ok (.idiv, 1)) (hne : ¬ y = 0) (k :  V κ fr (pc + 1) ls (.int (x / y) :: st) nn μ) : V κ fr pc ls (.int y :: .int x :: st) nn μ :=
  fun ξ hξ p e s m args below meth c H locs lsA C w S hL => lv_idiv C.1.1 C.1.2.1 hdg hne (k ξ hξ p e s m args below meth c H locs lsA C w S hL)
theorem V_irem {x y : Int32} (hdg : decode κ.2.1.2.1 pc = .ok (.irem, 1)) (hne : ¬ y = 0) (k :  V κ fr (pc + 1) ls (.int (x - x / y * y) :: st) nn μ) : V κ fr pc ls (.int y :: .int x :: st) nn μ :=
  fun ξ hξ p e s m args below meth c H locs lsA C w S hL => lv_irem C.1.1 C.1.2.1 hdg hne (k ξ hξ p e s m args below meth c H locs lsA C w S hL)
theorem V_ineg {x : Int32} (hdg : decode κ.2.1.2.1 pc = .ok (.ineg, 1)) (k :  V κ fr (pc + 1) ls (.int (-x) :: st) nn μ) : V κ fr pc ls (.int x :: st) nn μ :=
  fun ξ hξ p e s m args below meth c H locs lsA C w S hL => lv_ineg C.1.1 C.1.2.1 hdg (k ξ hξ p e s m args below meth c H locs lsA C w S hL)
theorem V_iand {x y : Int32} (hdg : decode κ.2.1.2.1 pc = .ok (.iand, 1)) (k :  V κ fr (pc + 1) ls (.int (x &&& y) :: st) nn μ) : V κ fr pc ls (.int y :: .int x :: st) nn μ :=
  fun ξ hξ p e s m args below meth c H locs lsA C w S hL => lv_iand C.1.1 C.1.2.1 hdg (k ξ hξ p e s m args below meth c H locs lsA C w S hL)
theorem V_ior {x y : Int32} (hdg : decode κ.2.1.2.1 pc = .ok (.ior, 1)) (k :  V κ fr (pc + 1) ls (.int (x ||| y) :: st) nn μ) : V κ fr pc ls (.int y :: .int x :: st) nn μ :=
  fun ξ hξ p e s m args below meth c H locs lsA C w S hL => lv_ior C.1.1 C.1.2.1 hdg (k ξ hξ p e s m args below meth c H locs lsA C w S hL)
theorem V_ixor {x y : Int32} (hdg : decode κ.2.1.2.1 pc = .ok (.ixor, 1)) (k :  V κ fr (pc + 1) ls (.int (x ^^^ y) :: st) nn μ) : V κ fr pc ls (.int y :: .int x :: st) nn μ :=
  fun ξ hξ p e s m args below meth c H locs lsA C w S hL => lv_ixor C.1.1 C.1.2.1 hdg (k ξ hξ p e s m args below meth c H locs lsA C w S hL)
theorem V_ishl {x y : Int32} (hdg : decode κ.2.1.2.1 pc = .ok (.ishl, 1)) (k :  V κ fr (pc + 1) ls (.int (x <<< (y &&& 31)) :: st) nn μ) : V κ fr pc ls (.int y :: .int x :: st) nn μ :=
  fun ξ hξ p e s m args below meth c H locs lsA C w S hL => lv_ishl C.1.1 C.1.2.1 hdg (k ξ hξ p e s m args below meth c H locs lsA C w S hL)
theorem V_ishr {x y : Int32} (hdg : decode κ.2.1.2.1 pc = .ok (.ishr, 1)) (k :  V κ fr (pc + 1) ls (.int (x >>> (y &&& 31)) :: st) nn μ) : V κ fr pc ls (.int y :: .int x :: st) nn μ :=
  fun ξ hξ p e s m args below meth c H locs lsA C w S hL => lv_ishr C.1.1 C.1.2.1 hdg (k ξ hξ p e s m args below meth c H locs lsA C w S hL)
theorem V_iushr {x y v : Int32} (hdg : decode κ.2.1.2.1 pc = .ok (.iushr, 1)) (hv : (x.toUInt32 >>> (y.toUInt32 &&& Int32.toUInt32 31)).toInt32 = v) (k :  V κ fr (pc + 1) ls (.int v :: st) nn μ) : V κ fr pc ls (.int y :: .int x :: st) nn μ :=
  fun ξ hξ p e s m args below meth c H locs lsA C w S hL => lv_iushr C.1.1 C.1.2.1 hdg hv (k ξ hξ p e s m args below meth c H locs lsA C w S hL)
theorem V_ladd {x y : Int64} (hdg : decode κ.2.1.2.1 pc = .ok (.ladd, 1)) (k :  V κ fr (pc + 1) ls (.long (x + y) :: st) nn μ) : V κ fr pc ls (.long y :: .long x :: st) nn μ :=
  fun ξ hξ p e s m args below meth c H locs lsA C w S hL => lv_ladd C.1.1 C.1.2.1 hdg (k ξ hξ p e s m args below meth c H locs lsA C w S hL)
theorem V_lmul {x y : Int64} (hdg : decode κ.2.1.2.1 pc = .ok (.lmul, 1)) (k :  V κ fr (pc + 1) ls (.long (x * y) :: st) nn μ) : V κ fr pc ls (.long y :: .long x :: st) nn μ :=
  fun ξ hξ p e s m args below meth c H locs lsA C w S hL => lv_lmul C.1.1 C.1.2.1 hdg (k ξ hξ p e s m args below meth c H locs lsA C w S hL)
theorem V_lshl {x v : Int64} {y : Int32} (hdg : decode κ.2.1.2.1 pc = .ok (.lshl, 1)) (hv : x <<< (y.toInt64 &&& 63) = v) (k :  V κ fr (pc + 1) ls (.long v :: st) nn μ) : V κ fr pc ls (.int y :: .long x :: st) nn μ :=
  fun ξ hξ p e s m args below meth c H locs lsA C w S hL => lv_lshl C.1.1 C.1.2.1 hdg hv (k ξ hξ p e s m args below meth c H locs lsA C w S hL)
theorem V_land {x y : Int64} (hdg : decode κ.2.1.2.1 pc = .ok (.land, 1)) (k :  V κ fr (pc + 1) ls (.long (x &&& y) :: st) nn μ) : V κ fr pc ls (.long y :: .long x :: st) nn μ :=
  fun ξ hξ p e s m args below meth c H locs lsA C w S hL => lv_land C.1.1 C.1.2.1 hdg (k ξ hξ p e s m args below meth c H locs lsA C w S hL)
theorem V_lor {x y : Int64} (hdg : decode κ.2.1.2.1 pc = .ok (.lor, 1)) (k :  V κ fr (pc + 1) ls (.long (x ||| y) :: st) nn μ) : V κ fr pc ls (.long y :: .long x :: st) nn μ :=
  fun ξ hξ p e s m args below meth c H locs lsA C w S hL => lv_lor C.1.1 C.1.2.1 hdg (k ξ hξ p e s m args below meth c H locs lsA C w S hL)
theorem V_i2l {x : Int32} {v : Int64} (hdg : decode κ.2.1.2.1 pc = .ok (.i2l, 1)) (hv : x.toInt64 = v) (k :  V κ fr (pc + 1) ls (.long v :: st) nn μ) : V κ fr pc ls (.int x :: st) nn μ :=
  fun ξ hξ p e s m args below meth c H locs lsA C w S hL => lv_i2l C.1.1 C.1.2.1 hdg hv (k ξ hξ p e s m args below meth c H locs lsA C w S hL)
theorem V_l2i {x : Int64} {v : Int32} (hdg : decode κ.2.1.2.1 pc = .ok (.l2i, 1)) (hv : x.toInt32 = v) (k :  V κ fr (pc + 1) ls (.int v :: st) nn μ) : V κ fr pc ls (.long x :: st) nn μ :=
  fun ξ hξ p e s m args below meth c H locs lsA C w S hL => lv_l2i C.1.1 C.1.2.1 hdg hv (k ξ hξ p e s m args below meth c H locs lsA C w S hL)
theorem V_i2b {x : Int32} {v : Int32} (hdg : decode κ.2.1.2.1 pc = .ok (.i2b, 1)) (hv : x.toInt8.toInt32 = v) (k :  V κ fr (pc + 1) ls (.int v :: st) nn μ) : V κ fr pc ls (.int x :: st) nn μ :=
  fun ξ hξ p e s m args below meth c H locs lsA C w S hL => lv_i2b C.1.1 C.1.2.1 hdg hv (k ξ hξ p e s m args below meth c H locs lsA C w S hL)
theorem V_i2s {x : Int32} {v : Int32} (hdg : decode κ.2.1.2.1 pc = .ok (.i2s, 1)) (hv : x.toInt16.toInt32 = v) (k :  V κ fr (pc + 1) ls (.int v :: st) nn μ) : V κ fr pc ls (.int x :: st) nn μ :=
  fun ξ hξ p e s m args below meth c H locs lsA C w S hL => lv_i2s C.1.1 C.1.2.1 hdg hv (k ξ hξ p e s m args below meth c H locs lsA C w S hL)
theorem V_i2c {x : Int32} {v : Int32} (hdg : decode κ.2.1.2.1 pc = .ok (.i2c, 1)) (hv : (x.toUInt32 % 65536).toInt32 = v) (k :  V κ fr (pc + 1) ls (.int v :: st) nn μ) : V κ fr pc ls (.int x :: st) nn μ :=
  fun ξ hξ p e s m args below meth c H locs lsA C w S hL => lv_i2c C.1.1 C.1.2.1 hdg hv (k ξ hξ p e s m args below meth c H locs lsA C w S hL)
theorem V_if_eq {x : Int32} {off : Int} {tgt : Nat} (hdg : decode κ.2.1.2.1 pc = .ok (.ifCond .eq off, 3)) (ht : (pc : Int) + off = (tgt : Int)) (kt : x = 0 → V κ fr tgt ls (st) nn μ) (kf : ¬ x = 0 → V κ fr (pc + 3) ls (st) nn μ) : V κ fr pc ls (.int x :: st) nn μ :=
  fun ξ hξ p e s m args below meth c H locs lsA C w S hL => lv_if_eq C.1.1 C.1.2.1 hdg ht (fun q_ => kt q_ ξ hξ p e s m args below meth c H locs lsA C w S hL) (fun q_ => kf q_ ξ hξ p e s m args below meth c H locs lsA C w S hL)
theorem V_if_ne {x : Int32} {off : Int} {tgt : Nat} (hdg : decode κ.2.1.2.1 pc = .ok (.ifCond .ne off, 3)) (ht : (pc : Int) + off = (tgt : Int)) (kt : ¬ x = 0 → V κ fr tgt ls (st) nn μ) (kf : x = 0 → V κ fr (pc + 3) ls (st) nn μ) : V κ fr pc ls (.int x :: st) nn μ :=
  fun ξ hξ p e s m args below meth c H locs lsA C w S hL => lv_if_ne C.1.1 C.1.2.1 hdg ht (fun q_ => kt q_ ξ hξ p e s m args below meth c H locs lsA C w S hL) (fun q_ => kf q_ ξ hξ p e s m args below meth c H locs lsA C w S hL)
theorem V_if_lt {x : Int32} {off : Int} {tgt : Nat} (hdg : decode κ.2.1.2.1 pc = .ok (.ifCond .lt off, 3)) (ht : (pc : Int) + off = (tgt : Int)) (kt : x < 0 → V κ fr tgt ls (st) nn μ) (kf : ¬ x < 0 → V κ fr (pc + 3) ls (st) nn μ) : V κ fr pc ls (.int x :: st) nn μ :=
  fun ξ hξ p e s m args below meth c H locs lsA C w S hL => lv_if_lt C.1.1 C.1.2.1 hdg ht (fun q_ => kt q_ ξ hξ p e s m args below meth c H locs lsA C w S hL) (fun q_ => kf q_ ξ hξ p e s m args below meth c H locs lsA C w S hL)
theorem V_if_ge {x : Int32} {off : Int} {tgt : Nat} (hdg : decode κ.2.1.2.1 pc = .ok (.ifCond .ge off, 3)) (ht : (pc : Int) + off = (tgt : Int)) (kt : 0 ≤ x → V κ fr tgt ls (st) nn μ) (kf : ¬ 0 ≤ x → V κ fr (pc + 3) ls (st) nn μ) : V κ fr pc ls (.int x :: st) nn μ :=
  fun ξ hξ p e s m args below meth c H locs lsA C w S hL => lv_if_ge C.1.1 C.1.2.1 hdg ht (fun q_ => kt q_ ξ hξ p e s m args below meth c H locs lsA C w S hL) (fun q_ => kf q_ ξ hξ p e s m args below meth c H locs lsA C w S hL)
theorem V_if_gt {x : Int32} {off : Int} {tgt : Nat} (hdg : decode κ.2.1.2.1 pc = .ok (.ifCond .gt off, 3)) (ht : (pc : Int) + off = (tgt : Int)) (kt : 0 < x → V κ fr tgt ls (st) nn μ) (kf : ¬ 0 < x → V κ fr (pc + 3) ls (st) nn μ) : V κ fr pc ls (.int x :: st) nn μ :=
  fun ξ hξ p e s m args below meth c H locs lsA C w S hL => lv_if_gt C.1.1 C.1.2.1 hdg ht (fun q_ => kt q_ ξ hξ p e s m args below meth c H locs lsA C w S hL) (fun q_ => kf q_ ξ hξ p e s m args below meth c H locs lsA C w S hL)
theorem V_if_le {x : Int32} {off : Int} {tgt : Nat} (hdg : decode κ.2.1.2.1 pc = .ok (.ifCond .le off, 3)) (ht : (pc : Int) + off = (tgt : Int)) (kt : x ≤ 0 → V κ fr tgt ls (st) nn μ) (kf : ¬ x ≤ 0 → V κ fr (pc + 3) ls (st) nn μ) : V κ fr pc ls (.int x :: st) nn μ :=
  fun ξ hξ p e s m args below meth c H locs lsA C w S hL => lv_if_le C.1.1 C.1.2.1 hdg ht (fun q_ => kt q_ ξ hξ p e s m args below meth c H locs lsA C w S hL) (fun q_ => kf q_ ξ hξ p e s m args below meth c H locs lsA C w S hL)
theorem V_icmp_eq {x y : Int32} {off : Int} {tgt : Nat} (hdg : decode κ.2.1.2.1 pc = .ok (.if_icmp .eq off, 3)) (ht : (pc : Int) + off = (tgt : Int)) (kt : x = y → V κ fr tgt ls (st) nn μ) (kf : ¬ x = y → V κ fr (pc + 3) ls (st) nn μ) : V κ fr pc ls (.int y :: .int x :: st) nn μ :=
  fun ξ hξ p e s m args below meth c H locs lsA C w S hL => lv_icmp_eq C.1.1 C.1.2.1 hdg ht (fun q_ => kt q_ ξ hξ p e s m args below meth c H locs lsA C w S hL) (fun q_ => kf q_ ξ hξ p e s m args below meth c H locs lsA C w S hL)
theorem V_icmp_ne {x y : Int32} {off : Int} {tgt : Nat} (hdg : decode κ.2.1.2.1 pc = .ok (.if_icmp .ne off, 3)) (ht : (pc : Int) + off = (tgt : Int)) (kt : ¬ x = y → V κ fr tgt ls (st) nn μ) (kf : x = y → V κ fr (pc + 3) ls (st) nn μ) : V κ fr pc ls (.int y :: .int x :: st) nn μ :=
  fun ξ hξ p e s m args below meth c H locs lsA C w S hL => lv_icmp_ne C.1.1 C.1.2.1 hdg ht (fun q_ => kt q_ ξ hξ p e s m args below meth c H locs lsA C w S hL) (fun q_ => kf q_ ξ hξ p e s m args below meth c H locs lsA C w S hL)
theorem V_icmp_lt {x y : Int32} {off : Int} {tgt : Nat} (hdg : decode κ.2.1.2.1 pc = .ok (.if_icmp .lt off, 3)) (ht : (pc : Int) + off = (tgt : Int)) (kt : x < y → V κ fr tgt ls (st) nn μ) (kf : ¬ x < y → V κ fr (pc + 3) ls (st) nn μ) : V κ fr pc ls (.int y :: .int x :: st) nn μ :=
  fun ξ hξ p e s m args below meth c H locs lsA C w S hL => lv_icmp_lt C.1.1 C.1.2.1 hdg ht (fun q_ => kt q_ ξ hξ p e s m args below meth c H locs lsA C w S hL) (fun q_ => kf q_ ξ hξ p e s m args below meth c H locs lsA C w S hL)
theorem V_icmp_ge {x y : Int32} {off : Int} {tgt : Nat} (hdg : decode κ.2.1.2.1 pc = .ok (.if_icmp .ge off, 3)) (ht : (pc : Int) + off = (tgt : Int)) (kt : y ≤ x → V κ fr tgt ls (st) nn μ) (kf : ¬ y ≤ x → V κ fr (pc + 3) ls (st) nn μ) : V κ fr pc ls (.int y :: .int x :: st) nn μ :=
  fun ξ hξ p e s m args below meth c H locs lsA C w S hL => lv_icmp_ge C.1.1 C.1.2.1 hdg ht (fun q_ => kt q_ ξ hξ p e s m args below meth c H locs lsA C w S hL) (fun q_ => kf q_ ξ hξ p e s m args below meth c H locs lsA C w S hL)
theorem V_icmp_gt {x y : Int32} {off : Int} {tgt : Nat} (hdg : decode κ.2.1.2.1 pc = .ok (.if_icmp .gt off, 3)) (ht : (pc : Int) + off = (tgt : Int)) (kt : y < x → V κ fr tgt ls (st) nn μ) (kf : ¬ y < x → V κ fr (pc + 3) ls (st) nn μ) : V κ fr pc ls (.int y :: .int x :: st) nn μ :=
  fun ξ hξ p e s m args below meth c H locs lsA C w S hL => lv_icmp_gt C.1.1 C.1.2.1 hdg ht (fun q_ => kt q_ ξ hξ p e s m args below meth c H locs lsA C w S hL) (fun q_ => kf q_ ξ hξ p e s m args below meth c H locs lsA C w S hL)
theorem V_icmp_le {x y : Int32} {off : Int} {tgt : Nat} (hdg : decode κ.2.1.2.1 pc = .ok (.if_icmp .le off, 3)) (ht : (pc : Int) + off = (tgt : Int)) (kt : x ≤ y → V κ fr tgt ls (st) nn μ) (kf : ¬ x ≤ y → V κ fr (pc + 3) ls (st) nn μ) : V κ fr pc ls (.int y :: .int x :: st) nn μ :=
  fun ξ hξ p e s m args below meth c H locs lsA C w S hL => lv_icmp_le C.1.1 C.1.2.1 hdg ht (fun q_ => kt q_ ξ hξ p e s m args below meth c H locs lsA C w S hL) (fun q_ => kf q_ ξ hξ p e s m args below meth c H locs lsA C w S hL)
theorem V_goto {off : Int} {tgt : Nat} (hdg : decode κ.2.1.2.1 pc = .ok (.goto off, 3)) (ht : (pc : Int) + off = (tgt : Int)) (k :  V κ fr tgt ls (st) nn μ) : V κ fr pc ls (st) nn μ :=
  fun ξ hξ p e s m args below meth c H locs lsA C w S hL => lv_goto C.1.1 C.1.2.1 hdg ht (k ξ hξ p e s m args below meth c H locs lsA C w S hL)
theorem V_tableOut {dflt lo hi : Int} {offs : Array Int} {len : Nat} {x : Int32} {tgt : Nat} (hdg : decode κ.2.1.2.1 pc = .ok (.tableswitch dflt lo hi offs, len)) (h : x.toInt < lo ∨ hi < x.toInt) (ht : (pc : Int) + dflt = (tgt : Int)) (k :  V κ fr tgt ls (st) nn μ) : V κ fr pc ls (.int x :: st) nn μ :=
  fun ξ hξ p e s m args below meth c H locs lsA C w S hL => lv_tableOut C.1.1 C.1.2.1 hdg h ht (k ξ hξ p e s m args below meth c H locs lsA C w S hL)
theorem V_tableIn {dflt lo hi : Int} {offs : Array Int} {len : Nat} {x : Int32} {off : Int} {tgt : Nat} (hdg : decode κ.2.1.2.1 pc = .ok (.tableswitch dflt lo hi offs, len)) (h1 : ¬ x.toInt < lo) (h2 : ¬ hi < x.toInt) (ho : offs[(x.toInt - lo).toNat]? = some off) (ht : (pc : Int) + off = (tgt : Int)) (k :  V κ fr tgt ls (st) nn μ) : V κ fr pc ls (.int x :: st) nn μ :=
  fun ξ hξ p e s m args below meth c H locs lsA C w S hL => lv_tableIn C.1.1 C.1.2.1 hdg h1 h2 ho ht (k ξ hξ p e s m args below meth c H locs lsA C w S hL)
theorem V_lookup {dflt : Int} {ps : Array (Int × Int)} {len : Nat} {x : Int32} {off : Int} {tgt : Nat} (hdg : decode κ.2.1.2.1 pc = .ok (.lookupswitch dflt ps, len)) (hp : (ps.toList.zip (ps.toList.drop 1)).all (fun (a, next) => a.1 < next.1) = true) (ho : Op.lookupswitch.offset ps.toList dflt x.toInt = off) (ht : (pc : Int) + off = (tgt : Int)) (k :  V κ fr tgt ls (st) nn μ) : V κ fr pc ls (.int x :: st) nn μ :=
  fun ξ hξ p e s m args below meth c H locs lsA C w S hL => lv_lookup C.1.1 C.1.2.1 hdg hp ho ht (k ξ hξ p e s m args below meth c H locs lsA C w S hL)
end
section
variable {κ : ZK} {fr : Bool} {pc n : Nat} {ls ls' : List (Nat × Value)} {st : List Value} {μ μ' : ZMem}
-- locals
theorem zat {ξ : ZX} {lsA : Array Slot} {nL i : Nat} {v : Value} (h : lv_has lsA nL (ls.map (zq ξ))) (k : Nat) (hk : ls[k]? = some (i, v)) : lsA[i]? = some (.val (zvm ξ v)) :=
  lv_at h k (by rw [List.getElem?_map, hk]; rfl)
theorem V_iload_n {x : Int32} {j : Fin 4} (k : Nat) (hdg : decode κ.2.1.2.1 pc = .ok (.iload_n j, 1)) (hl : ls[k]? = some ((j : Nat), .int x)) (kk : V κ fr (pc + 1) ls (.int x :: st) n μ) : V κ fr pc ls st n μ :=
  fun ξ hξ p e s m args below meth c H locs lsA C w S h => lv_iload_n C.1.1 C.1.2.1 hdg rfl (zat h k hl) (kk ξ hξ p e s m args below meth c H locs lsA C w S h)
theorem V_iload {x : Int32} {i : Nat} (k : Nat) (hdg : decode κ.2.1.2.1 pc = .ok (.iload i, 2)) (hl : ls[k]? = some (i, .int x)) (kk : V κ fr (pc + 2) ls (.int x :: st) n μ) : V κ fr pc ls st n μ :=
  fun ξ hξ p e s m args below meth c H locs lsA C w S h => lv_iload C.1.1 C.1.2.1 hdg (zat h k hl) (kk ξ hξ p e s m args below meth c H locs lsA C w S h)
theorem V_lload_n {x : Int64} {j : Fin 4} (k : Nat) (hdg : decode κ.2.1.2.1 pc = .ok (.lload_n j, 1)) (hl : ls[k]? = some ((j : Nat), .long x)) (kk : V κ fr (pc + 1) ls (.long x :: st) n μ) : V κ fr pc ls st n μ :=
  fun ξ hξ p e s m args below meth c H locs lsA C w S h => lv_lload_n C.1.1 C.1.2.1 hdg rfl (zat h k hl) (kk ξ hξ p e s m args below meth c H locs lsA C w S h)
theorem V_aload_n {x : Nat} {j : Fin 4} (k : Nat) (hdg : decode κ.2.1.2.1 pc = .ok (.aload_n j, 1)) (hl : ls[k]? = some ((j : Nat), .ref x)) (kk : V κ fr (pc + 1) ls (.ref x :: st) n μ) : V κ fr pc ls st n μ :=
  fun ξ hξ p e s m args below meth c H locs lsA C w S h => lv_aload_n C.1.1 C.1.2.1 hdg rfl (zat h k hl) (kk ξ hξ p e s m args below meth c H locs lsA C w S h)
theorem V_aload {x : Nat} {i : Nat} (k : Nat) (hdg : decode κ.2.1.2.1 pc = .ok (.aload i, 2)) (hl : ls[k]? = some (i, .ref x)) (kk : V κ fr (pc + 2) ls (.ref x :: st) n μ) : V κ fr pc ls st n μ :=
  fun ξ hξ p e s m args below meth c H locs lsA C w S h => lv_aload C.1.1 C.1.2.1 hdg (zat h k hl) (kk ξ hξ p e s m args below meth c H locs lsA C w S h)
def zst (i : Nat) (v : Value) (ls : List (Nat × Value)) : List (Nat × Value) := (i, v) :: ls.filter (fun q => !(q.1 == i) && !(q.1 + 1 == i && q.2.category == 2))
theorem zstored {ξ : ZX} {lsA : Array Slot} {nL i : Nat} {v : Value} (ks : List Nat) (hp : lv_pick (zst i v ls) ks = ls') (h : lv_has lsA nL ((i, zvm ξ v) :: (ls.map (zq ξ)).filter (fun q => !(q.1 == i) && !(q.1 + 1 == i && q.2.category == 2)))) : lv_has lsA nL (ls'.map (zq ξ)) := by
  rw [zq_filter ξ _ (fun q => by simp only [zq, zvm_cat])] at h
  have h2 : lv_has lsA nL ((zst i v ls).map (zq ξ)) := h
  refine lv_sub h2 ks ?_
  rw [zq_pick, hp]
theorem V_istore_n {x : Int32} {j : Fin 4} (ks : List Nat) (hdg : decode κ.2.1.2.1 pc = .ok (.istore_n j, 1)) (hn : (j : Nat) < κ.2.1.2.2.1) (hp : lv_pick (zst j (.int x) ls) ks = ls') (kk : V κ fr (pc + 1) ls' st n μ) : V κ fr pc ls (.int x :: st) n μ :=
  fun ξ hξ p e s m args below meth c H locs lsA C w S h => lv_istore_n C.1.1 C.1.2.1 hdg rfl h hn rfl (fun lsB hB => kk ξ hξ p e s m args below meth c H locs lsB C w S (zstored ks hp hB))
theorem V_istore {x : Int32} {i : Nat} (ks : List Nat) (hdg : decode κ.2.1.2.1 pc = .ok (.istore i, 2)) (hn : i < κ.2.1.2.2.1) (hp : lv_pick (zst i (.int x) ls) ks = ls') (kk : V κ fr (pc + 2) ls' st n μ) : V κ fr pc ls (.int x :: st) n μ :=
  fun ξ hξ p e s m args below meth c H locs lsA C w S h => lv_istore C.1.1 C.1.2.1 hdg h hn rfl (fun lsB hB => kk ξ hξ p e s m args below meth c H locs lsB C w S (zstored ks hp hB))
theorem V_astore_n {x : Nat} {j : Fin 4} (ks : List Nat) (hdg : decode κ.2.1.2.1 pc = .ok (.astore_n j, 1)) (hn : (j : Nat) < κ.2.1.2.2.1) (hp : lv_pick (zst j (.ref x) ls) ks = ls') (kk : V κ fr (pc + 1) ls' st n μ) : V κ fr pc ls (.ref x :: st) n μ :=
  fun ξ hξ p e s m args below meth c H locs lsA C w S h => lv_astore_n C.1.1 C.1.2.1 hdg rfl h hn rfl (fun lsB hB => kk ξ hξ p e s m args below meth c H locs lsB C w S (zstored ks hp hB))
theorem V_astore {x : Nat} {i : Nat} (ks : List Nat) (hdg : decode κ.2.1.2.1 pc = .ok (.astore i, 2)) (hn : i < κ.2.1.2.2.1) (hp : lv_pick (zst i (.ref x) ls) ks = ls') (kk : V κ fr (pc + 2) ls' st n μ) : V κ fr pc ls (.ref x :: st) n μ :=
  fun ξ hξ p e s m args below meth c H locs lsA C w S h => lv_astore C.1.1 C.1.2.1 hdg h hn rfl (fun lsB hB => kk ξ hξ p e s m args below meth c H locs lsB C w S (zstored ks hp hB))
theorem V_iinc {x : Int32} {i : Nat} {d : Int} (k : Nat) (ks : List Nat) (hdg : decode κ.2.1.2.1 pc = .ok (.iinc i d, 3)) (hl : ls[k]? = some (i, .int x)) (hn : i < κ.2.1.2.2.1) (hp : lv_pick (zst i (.int (x + Int32.ofInt d)) ls) ks = ls') (kk : V κ fr (pc + 3) ls' st n μ) : V κ fr pc ls st n μ :=
  fun ξ hξ p e s m args below meth c H locs lsA C w S h => lv_iinc C.1.1 C.1.2.1 hdg h (k := k) (by rw [List.getElem?_map, hl]; rfl) rfl hn rfl (fun lsB hB => kk ξ hξ p e s m args below meth c H locs lsB C w S (zstored ks hp hB))
theorem V_sub (ks : List Nat) (hp : lv_pick ls ks = ls') (kk : V κ fr pc ls' st n μ) : V κ fr pc ls st n μ :=
  fun ξ hξ p e s m args below meth c H locs lsA C w S h => kk ξ hξ p e s m args below meth c H locs lsA C w S (lv_sub h ks (by rw [zq_pick, hp]))
-- the stack
theorem V_dup_r {a : Nat} (hdg : decode κ.2.1.2.1 pc = .ok (.dup, 1)) (kk : V κ fr (pc + 1) ls (.ref a :: .ref a :: st) n μ) : V κ fr pc ls (.ref a :: st) n μ :=
  fun ξ hξ p e s m args below meth c H locs lsA C w S h => lv_dup C.1.1 C.1.2.1 hdg rfl (kk ξ hξ p e s m args below meth c H locs lsA C w S h)
theorem V_dup_i {x : Int32} (hdg : decode κ.2.1.2.1 pc = .ok (.dup, 1)) (kk : V κ fr (pc + 1) ls (.int x :: .int x :: st) n μ) : V κ fr pc ls (.int x :: st) n μ :=
  fun ξ hξ p e s m args below meth c H locs lsA C w S h => lv_dup C.1.1 C.1.2.1 hdg rfl (kk ξ hξ p e s m args below meth c H locs lsA C w S h)
theorem V_dup2 {a : Nat} {x : Int32} (hdg : decode κ.2.1.2.1 pc = .ok (.dup2, 1)) (kk : V κ fr (pc + 1) ls (.int x :: .ref a :: .int x :: .ref a :: st) n μ) : V κ fr pc ls (.int x :: .ref a :: st) n μ :=
  fun ξ hξ p e s m args below meth c H locs lsA C w S h => lv_dup2_11 C.1.1 C.1.2.1 hdg rfl rfl (kk ξ hξ p e s m args below meth c H locs lsA C w S h)
theorem V_dup_x1 {a : Nat} {x : Int32} (hdg : decode κ.2.1.2.1 pc = .ok (.dup_x1, 1)) (kk : V κ fr (pc + 1) ls (.int x :: .ref a :: .int x :: st) n μ) : V κ fr pc ls (.int x :: .ref a :: st) n μ :=
  fun ξ hξ p e s m args below meth c H locs lsA C w S h => lv_dup_x1 C.1.1 C.1.2.1 hdg rfl rfl (kk ξ hξ p e s m args below meth c H locs lsA C w S h)
theorem V_pop {x : Int32} (hdg : decode κ.2.1.2.1 pc = .ok (.pop, 1)) (kk : V κ fr (pc + 1) ls st n μ) : V κ fr pc ls (.int x :: st) n μ :=
  fun ξ hξ p e s m args below meth c H locs lsA C w S h => lv_pop C.1.1 C.1.2.1 hdg rfl (kk ξ hξ p e s m args below meth c H locs lsA C w S h)
theorem V_lcmp {x y : Int64} (hdg : decode κ.2.1.2.1 pc = .ok (.lcmp, 1)) (kk : V κ fr (pc + 1) ls (.int (lg_cmp x y) :: st) n μ) : V κ fr pc ls (.long y :: .long x :: st) n μ :=
  fun ξ hξ p e s m args below meth c H locs lsA C w S h => W.lcmp C.1.1 C.1.2.1 hdg (kk ξ hξ p e s m args below meth c H locs lsA C w S h)
theorem V_ldc {v : Int32} {index : Nat} (hdg : decode κ.2.1.2.1 pc = .ok (.ldc index, 2)) (hw : Cond.constant κ.2.1.1.cls index v ∈ zT) (kk : V κ fr (pc + 2) ls (.int v :: st) n μ) : V κ fr pc ls st n μ :=
  fun ξ hξ p e s m args below meth c H locs lsA C w S h => lv_ldc C.1.1 C.1.2.1 C.1.2.2.2.2.1 (C.1.2.2.2.2.2.1 _ (List.mem_cons_of_mem _ hw)) hdg (kk ξ hξ p e s m args below meth c H locs lsA C w S h)
theorem V_ldc2 {v : Int64} {index : Nat} (hdg : decode κ.2.1.2.1 pc = .ok (.ldc2_w index, 3)) (hw : Cond.constantLong κ.2.1.1.cls index v ∈ zT) (kk : V κ fr (pc + 3) ls (.long v :: st) n μ) : V κ fr pc ls st n μ :=
  fun ξ hξ p e s m args below meth c H locs lsA C w S h => lv_ldc2 C.1.1 C.1.2.1 C.1.2.2.2.2.1 (C.1.2.2.2.2.2.1 _ (List.mem_cons_of_mem _ hw)) hdg (kk ξ hξ p e s m args below meth c H locs lsA C w S h)
/-- switches: one case, by its number; else, all numbers being another -/
theorem V_tsw {dflt lo hi : Int} {offs : Array Int} {len : Nat} {x : Int32} {off : Int} {tgt : Nat} (v : Int32) (hx : x = v) (hdg : decode κ.2.1.2.1 pc = .ok (.tableswitch dflt lo hi offs, len)) (hb : ¬ v.toInt < lo ∧ ¬ hi < v.toInt) (ho : offs[(v.toInt - lo).toNat]? = some off) (ht : (pc : Int) + off = (tgt : Int)) (kk : V κ fr tgt ls st n μ) : V κ fr pc ls (.int x :: st) n μ := by
  subst hx
  exact V_tableIn hdg hb.1 hb.2 ho ht kk
theorem V_tsw0 {dflt lo hi : Int} {offs : Array Int} {len : Nat} {x : Int32} {tgt : Nat} (vs : List Int32) (hx : ∀ v ∈ vs, ¬ x = v) (hdg : decode κ.2.1.2.1 pc = .ok (.tableswitch dflt lo hi offs, len)) (hv : vs = (List.range (hi + 1 - lo).toNat).map (fun (j : Nat) => Int32.ofInt (lo + (j : Int)))) (hb : -2147483648 ≤ lo ∧ hi < 2147483648) (ht : (pc : Int) + dflt = (tgt : Int)) (kk : V κ fr tgt ls st n μ) : V κ fr pc ls (.int x :: st) n μ := by
  refine V_tableOut hdg ?_ ht kk
  rcases Int.lt_or_le x.toInt lo with h1 | h1
  · exact Or.inl h1
  · rcases Int.lt_or_le hi x.toInt with h2 | h2
    · exact Or.inr h2
    · refine absurd ?_ (hx x ?_)
      · rfl
      · rw [hv]
        refine List.mem_map.mpr ⟨(x.toInt - lo).toNat, List.mem_range.mpr (by omega), ?_⟩
        rw [Int.toNat_of_nonneg (by omega), show lo + (x.toInt - lo) = x.toInt by omega]
        exact Int32.ofInt_toInt x
-- the end of a method
theorem zend {ξ : ZX} {s t : State} {args : Array Value} {H : Heap} {locs : List Loc} {r : Option Value} (w : zW ξ fr n μ H) (S : va_S (zA ξ) s.heap H locs) (ht : t.heap = H) : zQc ξ (fr, n, μ, r) args s (.returned (r.map (zvm ξ))) t :=
  ⟨rfl, by rw [ht]; exact w, S.F ht⟩
theorem V_iret {v : Int32} (hdg : decode κ.2.1.2.1 pc = .ok (.ireturn, 1)) (hr : κ.2.1.2.2.2 = some .int) (hz : κ.2.2.2.2.1 = (fr, n, μ, some (.int v))) : V κ fr pc ls [.int v] n μ :=
  fun ξ hξ p e s m args below meth c H locs lsA C w S h => W.widen C.2.2.1 C.2.2.2 (by
    rw [hz]
    exact W.iret C.1.1 C.1.2.1 (C.1.2.2.1.trans hr) (fun t ht _ => zend w S ht) S.2.2 hdg C.1.2.2.2.2.2.2.1)
theorem V_zret {v : Int32} (hdg : decode κ.2.1.2.1 pc = .ok (.ireturn, 1)) (hr : κ.2.1.2.2.2 = some .boolean) (hv : narrow .boolean (.int v) = .int v) (hz : κ.2.2.2.2.1 = (fr, n, μ, some (.int v))) : V κ fr pc ls [.int v] n μ :=
  fun ξ hξ p e s m args below meth c H locs lsA C w S h => W.widen C.2.2.1 C.2.2.2 (by
    rw [hz]
    exact W.zret C.1.1 C.1.2.1 (C.1.2.2.1.trans hr) hv (fun t ht _ => zend w S ht) S.2.2 hdg C.1.2.2.2.2.2.2.1)
theorem V_lret {v : Int64} (hdg : decode κ.2.1.2.1 pc = .ok (.lreturn, 1)) (hr : κ.2.1.2.2.2 = some .long) (hz : κ.2.2.2.2.1 = (fr, n, μ, some (.long v))) : V κ fr pc ls [.long v] n μ :=
  fun ξ hξ p e s m args below meth c H locs lsA C w S h => W.widen C.2.2.1 C.2.2.2 (by
    rw [hz]
    exact W.lret C.1.1 C.1.2.1 (C.1.2.2.1.trans hr) (fun t ht _ => zend w S ht) S.2.2 hdg C.1.2.2.2.2.2.2.1)
theorem V_aret {v : Nat} {C0 : String} (hdg : decode κ.2.1.2.1 pc = .ok (.areturn, 1)) (hr : κ.2.1.2.2.2 = some (.object C0)) (hz : κ.2.2.2.2.1 = (fr, n, μ, some (.ref v))) : V κ fr pc ls [.ref v] n μ :=
  fun ξ hξ p e s m args below meth c H locs lsA C w S h => W.widen C.2.2.1 C.2.2.2 (by
    rw [hz]
    exact W.aret C.1.1 C.1.2.1 (C.1.2.2.1.trans hr) (Or.inl ⟨_, rfl⟩) (Or.inr ⟨_, rfl⟩) (fun t ht _ => zend w S ht) S.2.2 hdg C.1.2.2.2.2.2.2.1)
theorem V_vret (hdg : decode κ.2.1.2.1 pc = .ok (.return_, 1)) (hr : κ.2.1.2.2.2 = none) (hz : κ.2.2.2.2.1 = (fr, n, μ, none)) : V κ fr pc ls [] n μ :=
  fun ξ hξ p e s m args below meth c H locs lsA C w S h => W.widen C.2.2.1 C.2.2.2 (by
    rw [hz]
    exact W.vret C.1.1 C.1.2.1 (C.1.2.2.1.trans hr) (fun t ht _ => zend w S ht) S.2.2 hdg C.1.2.2.2.2.2.2.1)
theorem V_drop (kk : V κ false pc ls st n μ) : V κ true pc ls st n μ :=
  fun ξ hξ p e s m args below meth c H locs lsA C w S h => kk ξ hξ p e s m args below meth c H locs lsA C ⟨w.1, (fun q => by cases q), w.2.2⟩ S h
end
-- from V to a contract
theorem zpc_blind (ξ : ZX) (av : List Value) (fr : Bool) (n : Nat) (μ : ZMem) : FrameBlind (zPc ξ av fr n μ) := by
  intro a U g mk q
  obtain ⟨h1, h2, hK, hO, hb, ⟨h3, h4⟩, ⟨h5, h6⟩, h7, h8, h9⟩ := q
  exact ⟨h1, h2, va_K.moved (u := U) (U := U.calling g mk a) (Vm.Alike.refl U.vm) hK, ⟨va_AO.moved (u := U) (U := U.calling g mk a) (Vm.Alike.refl U.vm) hO.1, va_AO.moved (u := U) (U := U.calling g mk a) (Vm.Alike.refl U.vm) hO.2.1, va_AO.moved (u := U) (U := U.calling g mk a) (Vm.Alike.refl U.vm) hO.2.2⟩, hb, ⟨va_Z.moved (u := U) (U := U.calling g mk a) (Vm.Alike.refl U.vm) h3, va_T.moved (u := U) (U := U.calling g mk a) (Vm.Alike.refl U.vm) h4⟩, ⟨va_Z.moved (u := U) (U := U.calling g mk a) (Vm.Alike.refl U.vm) h5, va_T.moved (u := U) (U := U.calling g mk a) (Vm.Alike.refl U.vm) h6⟩, ⟨va_X.moved (u := U) (U := U.calling g mk a) (Vm.Alike.refl U.vm) h7.1, h7.2⟩, ⟨fun q hq => va_Nw.same (u := U) (U := U.calling g mk a) rfl rfl (h8.1 q hq), va_Nw.same (u := U) (U := U.calling g mk a) rfl rfl h8.2⟩, fun i hi => vk_R.same (u := U) (U := U.calling g mk a) rfl (h9.1 i hi), vk_S.moved (u := U) (U := U.calling g mk a) (Vm.Alike.refl U.vm) h9.2.1, va_Z.moved (u := U) (U := U.calling g mk a) (Vm.Alike.refl U.vm) h9.2.2.1, h9.2.2.2.imp (va_Z.moved (u := U) (U := U.calling g mk a) (Vm.Alike.refl U.vm)) (va_Z.moved (u := U) (U := U.calling g mk a) (Vm.Alike.refl U.vm))⟩
theorem zE_to {ξ : ZX} {s U : State} {H : Heap} {locs : List Loc} (h : zE ξ s) (hU : U.heap = H) (hW : s.WarmedH U.vm) (hS : va_S (zA ξ) s.heap H locs) : zE ξ U := by
  obtain ⟨hK, hO, hb, ⟨h3, h4⟩, ⟨h5, h6⟩, h7, h8, h9⟩ := h
  subst hU
  have hv : s.vm.Alike U.vm := hW.alike
  exact ⟨va_K.moved hv hK, ⟨va_AO.moved hv hO.1, va_AO.moved hv hO.2.1, va_AO.moved hv hO.2.2⟩, Nat.le_trans hb hS.1, ⟨va_Z.moved hv (va_Z.kept h3 hS.2.1), va_T.moved hv (va_T.kept h4 hS.2.1)⟩, ⟨va_Z.moved hv (va_Z.kept h5 hS.2.1), va_T.moved hv (va_T.kept h6 hS.2.1)⟩, ⟨va_X.moved hv (va_X.kept h7.1 (hS.2.1 _ (Nat.lt_of_lt_of_le h7.2.1 hb) (Nat.not_le.mpr h7.2.1))), h7.2⟩, ⟨fun q hq => va_Nw.warmM hW (h8.1 q hq), va_Nw.warmF hW h8.2⟩, fun i hi => vk_R.warm hW (h9.1 i hi), vk_S.moved hv (vk_S.kept h9.2.1 hS.2.1), va_Z.moved hv (va_Z.kept h9.2.2.1 hS.2.1), h9.2.2.2.imp (fun h => va_Z.moved hv (va_Z.kept h hS.2.1)) (fun h => va_Z.moved hv (va_Z.kept h hS.2.1))⟩
theorem ZFn.of {l : Launch} {M : ZM} {R : Room} {av : List Value} {fr : Bool} {n : Nat} {μ : ZMem} {z : Bool × Nat × ZMem × Option Value} {ls : List (Nat × Value)} (hy : plainName M.1.cls = true) (hl : ∀ ξ, (lg_sl (av.map (zvm ξ))).length ≤ M.2.2.1) (hls : ∀ ξ, lv_args 0 (av.map (zvm ξ)) = ls.map (zq ξ)) (k : V (l, M, R, n, z, zany) fr 0 ls [] n μ) : ZFn l M R av fr n μ z := by
  intro ξ
  refine Met.ofW (cc := M.2.1) (maxL := M.2.2.1) (ret := M.2.2.2) hy rfl ?_
  intro p e s m args below meth c s₁ B hml hv
  obtain ⟨rfl, hw, hE⟩ := hv
  have hts := atoms_spec (ws := zwd M) B.pre
  have h1 := k ξ trivial p e s m (av.map (zvm ξ)).toArray below meth c s.heap [] _ ⟨⟨B.exec, B.bytes, B.returns, hml, findClass_of_methodNamed B.named, hts, B.notSynchronized, (name_of_methodNamed B.named B.method).1, hE⟩, Nat.le_refl _, by show n - n ≤ _; omega, by show zpre n - zpre n ≤ _; omega⟩ hw va_S.rf (by rw [← hls ξ]; exact lv_entry (av.map (zvm ξ)) (hl ξ))
  rw [lg_entry_eq]
  have e1 : n - n = 0 := by omega
  have e2 : zpre n - zpre n = 0 := by omega
  dsimp only at h1
  rw [e1, e2] at h1
  exact h1
end
section
-- RULES OVER THE MEMORY, AND CALLS
def zty (c k : Nat) : FieldType := match c with
  | 0 => tyX0 k
  | 1 => tyX1 k
  | 2 => tyX2 k
  | 3 => tyX3 k
  | 4 => tyX4 k
  | 5 => tyX5 k
  | 6 => tyX6 k
  | _ => tyX7 k
theorem zu0 : ∀ w ∈ u_ws RX0 TX0 5, w ∈ zT := by decide +kernel
theorem zu1 : ∀ w ∈ u_ws RX1 TX1 5, w ∈ zT := by decide +kernel
theorem zu2 : ∀ w ∈ u_ws RX2 TX2 4, w ∈ zT := by decide +kernel
theorem zu3 : ∀ w ∈ u_ws RX3 TX3 5, w ∈ zT := by decide +kernel
theorem zu4 : ∀ w ∈ u_ws RX4 TX4 9, w ∈ zT := by decide +kernel
theorem zu5 : ∀ w ∈ u_ws RX5 TX5 5, w ∈ zT := by decide +kernel
theorem zu6 : ∀ w ∈ u_ws RX6 TX6 10, w ∈ zT := by decide +kernel
theorem zu7 : ∀ w ∈ u_ws RX7 TX7 42, w ∈ zT := by decide +kernel
/-- what is known of a class of ours -/
def zgood (c : Nat) (q : vw_C) : Prop := (∀ w ∈ u_ws q.1 q.2.1 q.2.2, w ∈ zT) ∧ (∀ k, k < q.2.2 → parseFieldDescriptor (q.2.1 k).2.2.1 = some (zty c k)) ∧ (∀ a, a < q.2.2 → ∀ b, b < q.2.2 → a ≠ b → (q.2.1 a).2.1 ≠ (q.2.1 b).2.1) ∧ znf c = q.2.2 ∧ c < 100
theorem zcl_good {c : Nat} {q : vw_C} (h : zcl[c]? = some q) : zgood c q := by
  match c, h with
  | 0, h => cases h; exact ⟨zu0, tyX0_ok, nmX0, rfl, by omega⟩
  | 1, h => cases h; exact ⟨zu1, tyX1_ok, nmX1, rfl, by omega⟩
  | 2, h => cases h; exact ⟨zu2, tyX2_ok, nmX2, rfl, by omega⟩
  | 3, h => cases h; exact ⟨zu3, tyX3_ok, nmX3, rfl, by omega⟩
  | 4, h => cases h; exact ⟨zu4, tyX4_ok, nmX4, rfl, by omega⟩
  | 5, h => cases h; exact ⟨zu5, tyX5_ok, nmX5, rfl, by omega⟩
  | 6, h => cases h; exact ⟨zu6, tyX6_ok, nmX6, rfl, by omega⟩
  | 7, h => cases h; exact ⟨zu7, tyX7_ok, nmX7, rfl, by omega⟩
  | k + 8, h => simp [zcl] at h
/-- a field by its place in the constant pool -/
def zF (own : String) (index c k : Nat) : Prop := ∃ q : vw_C, zcl[c]? = some q ∧ k < q.2.2 ∧ Cond.fieldLink own index (q.2.1 k).1 (q.2.1 k).2.1 (q.2.1 k).2.2.1 ∈ zT
def zFin (c k : Nat) : Bool := match zcl[c]? with
  | some q => (q.2.1 k).2.2.2
  | none => false
section
variable {κ : ZK} {fr : Bool} {pc n : Nat} {ls ls' : List (Nat × Value)} {st : List Value} {μ μ' : ZMem}
theorem zobj {ξ : ZX} {c a : Nat} {q : vw_C} (hc : isC n c a = true) (hq : zcl[c]? = some q) : (zws ξ n μ)[a]? = some (zad ξ a, .inr (c, zfs ξ μ a c)) := by
  rw [zws_get (isC_lt hc), zent_obj (isC_cl hc) (zcl_good hq).2.2.2.2]
theorem zgetf {a c k index : Nat} {v : Value} (hdg : decode κ.2.1.2.1 pc = .ok (.getfield index, 3)) (hc : isC n c a = true) (hf : zF κ.2.1.1.cls index c k) (hv : ∀ ξ, zfv ξ μ a c k = zvm ξ v) (kk : V κ fr (pc + 3) ls (v :: st) n μ) : V κ fr pc ls (.ref a :: st) n μ := by
  obtain ⟨q, hq, hk, hw⟩ := hf
  obtain ⟨g1, g2, g3, g4, g5⟩ := zcl_good hq
  intro ξ hξ p e s m args below meth c0 H locs lsA C w S h
  refine va_get C.1.1 C.1.2.1 C.1.2.2.2.2.2.1 (fun x hx => List.mem_cons_of_mem _ (g1 x hx)) C.1.2.2.2.2.1 C.1.2.2.2.2.2.2.2.2.1 w.1 a (zobj hc hq) hq k hk (C.1.2.2.2.2.2.1 _ (List.mem_cons_of_mem _ hw)) (fun x hx => hx) (zfs_get (by rw [g4]; exact hk)) hdg ?_
  rw [hv ξ]
  exact kk ξ hξ p e s m args below meth c0 H locs lsA C w S h
theorem V_getI {a c k index : Nat} (hdg : decode κ.2.1.2.1 pc = .ok (.getfield index, 3)) (hc : isC n c a = true) (hf : zF κ.2.1.1.cls index c k) (hr : zrf c k = false) (kk : V κ fr (pc + 3) ls (.int (zI μ a k) :: st) n μ) : V κ fr pc ls (.ref a :: st) n μ :=
  zgetf hdg hc hf (fun ξ => by unfold zfv; rw [hr]; rfl) kk
theorem V_getR {a c k index x : Nat} (hdg : decode κ.2.1.2.1 pc = .ok (.getfield index, 3)) (hc : isC n c a = true) (hf : zF κ.2.1.1.cls index c k) (hr : zrf c k = true) (hx : zR μ a k = some x) (kk : V κ fr (pc + 3) ls (.ref x :: st) n μ) : V κ fr pc ls (.ref a :: st) n μ :=
  zgetf hdg hc hf (fun ξ => by unfold zfv; rw [hr, hx]; rfl) kk
theorem zW_size {ξ : ZX} {H H1 : Heap} {μ μ' : ZMem} (w : zW ξ fr n μ H) (hP : va_P (zD ξ) zcl (zws ξ n μ') H1) (z : H1.size = H.size) : zW ξ fr n μ' H1 := ⟨hP, fun q => by rw [z]; exact w.2.1 q, w.2.2⟩
theorem zputf {a c k index : Nat} {v : Value} {ty : FieldType} (hdg : decode κ.2.1.2.1 pc = .ok (.putfield index, 3)) (hc : isC n c a = true) (hf : zF κ.2.1.1.cls index c k) (hfin : zFin c k = false ∨ (κ.2.1.1.name = "<init>" ∧ ∀ q, zcl[c]? = some q → (q.2.1 k).1 = κ.2.1.1.cls)) (hty : zty c k = ty)
    (hn : ∀ ξ, narrow ty (zvm ξ v) = zvm ξ v) (hfit : ∀ ξ, fits ty (zvm ξ v) = true) (hv : ∀ ξ, zfv ξ μ' a c k = zvm ξ v) (ho : ∀ ξ j, j ≠ k → zfv ξ μ a c j = zfv ξ μ' a c j) (hb : ∀ ξ b, b ≠ a → zent ξ μ b = zent ξ μ' b)
    (kk : V κ fr (pc + 3) ls st n μ') : V κ fr pc ls (v :: .ref a :: st) n μ := by
  obtain ⟨q, hq, hk, hw⟩ := hf
  obtain ⟨g1, g2, g3, g4, g5⟩ := zcl_good hq
  intro ξ hξ p e s m args below meth c0 H locs lsA C w S h
  have hts := C.1.2.2.2.2.2.1
  have hin : ∀ x ∈ u_ws q.1 q.2.1 q.2.2, x ∈ zwd κ.2.1 := fun x hx => List.mem_cons_of_mem _ (g1 x hx)
  have hK : va_K (zD ξ) zcl (ztys ξ) s := C.1.2.2.2.2.2.2.2.2.1
  have he := zobj (ξ := ξ) (μ := μ) hc hq
  have hD : va_D (zA ξ) (zws ξ n μ) := zWD w.2.2
  have hap := va_apart (own := κ.2.1.1.cls) hts hin (zty c) g2 g3 hK hq
  obtain ⟨r, h1, cell, q1, q2, q3, q4⟩ := w.1 a _ he
  have hr : r = q := Option.some.inj (h1.symm.trans hq)
  subst hr
  obtain ⟨hS, hfc, kC, hkC, hkind⟩ := hK.1 c _ hq
  obtain ⟨cf, kf, fi, f, hi, hsl⟩ := hS k hk
  have hst := (u_facts hfc hkC (u_lays hts hin hk) hi).1
  have hpd : parseFieldDescriptor (r.2.1 k).2.2.1 = some ty := by rw [g2 k hk, hty]
  have hlink := hts _ (List.mem_cons_of_mem _ hw)
  have fin : ∀ H1 : Heap, H1[zad ξ a]? = some (cell.setSlot f.slot (zvm ξ v)) → H1.size = H.size → (∀ x, x ≠ zad ξ a → H1[x]? = H[x]?) → zW ξ fr n μ' H1 ∧ va_S (zA ξ) s.heap H1 (locs ++ [⟨zad ξ a, f.slot⟩]) := by
    intro H1 e1 e2 e3
    rw [hsl] at e1
    have h9 := w.1.set hD he (e := .inr (c, (zfs ξ μ a c).set k (zvm ξ v))) ⟨_, hq, t_OB.to (V := updV (vp_V (zfs ξ μ a c)) k (zvm ξ v)) ⟨_, e1, q2, q3, t_set q4 hap hk _⟩ (fun j _ => vp_updV_set (by rw [zfs_len, g4]; exact hk) _ j)⟩ e3
    have h8 : (zws ξ n μ).set a (zad ξ a, .inr (c, (zfs ξ μ a c).set k (zvm ξ v))) = zws ξ n μ' := by
      rw [zfs_set (hv ξ) (ho ξ), ← zent_obj (isC_cl hc) g5]
      exact zws_set (hb ξ)
    rw [h8] at h9
    exact ⟨zW_size w h9 e2, S.put e2 e3 (hD.2 a _ he)⟩
  have hlay := hts _ (hin _ (u_in_lay hk))
  unfold u_lay at hlay
  cases hfl : (r.2.1 k).2.2.2 with
  | false =>
    rw [if_neg (by rw [hfl]; decide)] at hlay
    have h6 := u_store hfc hkC hkind hlay hi hpd (hn ξ) (hfit ξ)
    refine W.putK C.1.1 C.1.2.1 (f := f) ⟨C.1.2.2.2.2.1, hlink, ⟨_, _, _, hi⟩, hst⟩ (by rw [q2]; exact h6) q1 q3 (by rw [hsl]; exact k2_hasslot (q4 k hk)) rfl rfl hdg fun H1 e1 e2 e3 => ?_
    obtain ⟨w1, S1⟩ := fin H1 e1 e2 e3
    exact kk ξ hξ p e s m args below meth c0 H1 _ lsA C w1 S1 h
  | true =>
    rw [if_pos hfl] at hlay
    have hz : zFin c k = true := by unfold zFin; rw [hq]; exact hfl
    rcases hfin with hno | ⟨hnm, hdecl⟩
    · rw [hz] at hno; cases hno
    · have hcf : m.cls = cf := by
        obtain ⟨_, _, c', _, _, _, -, -, hf', -, -, -, hown2, -⟩ := Cond.laysFinal_spec hlay
        have e1 : c' = cf := by have := hi.symm.trans hf'; simp at this; exact this.1.symm
        rw [hdecl _ hq] at hown2
        rw [← e1]
        exact Option.some.inj (C.1.2.2.2.2.1.symm.trans hown2)
      have h6 := u_fits hfc hkC hkind (Or.inr hlay) hi hpd (hn ξ) (hfit ξ)
      refine W.putFinK C.1.1 C.1.2.1 C.1.2.2.2.2.1 hlink hi hst hcf (C.1.2.2.2.2.2.2.2.1.trans hnm) (by rw [q2]; exact h6) q1 q3 (by rw [hsl]; exact k2_hasslot (q4 k hk)) rfl rfl hdg fun H1 e1 e2 e3 => ?_
      obtain ⟨w1, S1⟩ := fin H1 e1 e2 e3
      exact kk ξ hξ p e s m args below meth c0 H1 _ lsA C w1 S1 h
theorem zpI_ent (ξ : ZX) (μ : ZMem) {a b k : Nat} {x : Int32} (h : b ≠ a) : zent ξ μ b = zent ξ (zpI μ a k x) b := zent_congr (fun j => by simp [zI, zpI, h]) (fun _ => rfl) (fun _ => rfl)
theorem zpR_ent (ξ : ZX) (μ : ZMem) {a b k x : Nat} (h : b ≠ a) : zent ξ μ b = zent ξ (zpR μ a k x) b := zent_congr (fun _ => rfl) (fun _ => rfl) (fun j => by simp [zR, zpR, h])
theorem zpL_ent (ξ : ZX) (μ : ZMem) {a b k : Nat} {x : Int64} (h : b ≠ a) : zent ξ μ b = zent ξ (zpL μ a k x) b := zent_congr (fun _ => rfl) (fun j => by simp [zL, zpL, h]) (fun _ => rfl)
theorem V_putI {a c k index : Nat} {x : Int32} (hdg : decode κ.2.1.2.1 pc = .ok (.putfield index, 3)) (hc : isC n c a = true) (hf : zF κ.2.1.1.cls index c k) (hr : zrf c k = false) (hfin : zFin c k = false) (hty : zty c k = .int) (e : μ' = zpI μ a k x) (kk : V κ fr (pc + 3) ls st n μ') : V κ fr pc ls (.int x :: .ref a :: st) n μ := by
  subst e
  exact zputf hdg hc hf (Or.inl hfin) hty (fun _ => vp_nar_int x) (fun _ => rfl) (fun ξ => by simp [zfv, hr, zI, zpI, zvm]) (fun ξ j hj => by simp [zfv, zI, zR, zpI, hj]) (fun ξ b hb => zpI_ent ξ μ hb) kk
theorem V_putZ {a c k index : Nat} {x : Int32} (hdg : decode κ.2.1.2.1 pc = .ok (.putfield index, 3)) (hc : isC n c a = true) (hf : zF κ.2.1.1.cls index c k) (hr : zrf c k = false) (hfin : zFin c k = false) (hty : zty c k = .boolean) (hn : narrow .boolean (.int x) = .int x) (hx : fits .boolean (.int x) = true) (e : μ' = zpI μ a k x) (kk : V κ fr (pc + 3) ls st n μ') : V κ fr pc ls (.int x :: .ref a :: st) n μ := by
  subst e
  exact zputf hdg hc hf (Or.inl hfin) hty (fun _ => hn) (fun _ => hx) (fun ξ => by simp [zfv, hr, zI, zpI, zvm]) (fun ξ j hj => by simp [zfv, zI, zR, zpI, hj]) (fun ξ b hb => zpI_ent ξ μ hb) kk
theorem V_putR {a c k index x : Nat} {ty : FieldType} (hdg : decode κ.2.1.2.1 pc = .ok (.putfield index, 3)) (hc : isC n c a = true) (hf : zF κ.2.1.1.cls index c k) (hr : zrf c k = true) (hfin : zFin c k = false ∨ (κ.2.1.1.name = "<init>" ∧ ∀ q, zcl[c]? = some q → (q.2.1 k).1 = κ.2.1.1.cls)) (hty : zty c k = ty) (hn : ∀ v : Nat, narrow ty (.ref v) = .ref v) (hx : ∀ v : Nat, fits ty (.ref v) = true) (e : μ' = zpR μ a k x) (kk : V κ fr (pc + 3) ls st n μ') : V κ fr pc ls (.ref x :: .ref a :: st) n μ := by
  subst e
  exact zputf hdg hc hf hfin hty (fun _ => hn _) (fun _ => hx _) (fun ξ => by simp [zfv, hr, zR, zpR, zvm, va_rf]) (fun ξ j hj => by simp [zfv, zI, zR, zpR, hj]) (fun ξ b hb => zpR_ent ξ μ hb) kk
-- arrays
theorem zTys {ξ : ZX} {s : State} (h : zE ξ s) : va_K (zD ξ) zcl (ztys ξ) s := h.1
theorem V_iald {a : Nat} {i : Int32} (hdg : decode κ.2.1.2.1 pc = .ok (.iaload, 1)) (hc : isC n 100 a = true) (hi : inb i a = true) (kk : V κ fr (pc + 1) ls (.int (zI μ a i.toNatClampNeg) :: st) n μ) : V κ fr pc ls (.int i :: .ref a :: st) n μ :=
  fun ξ hξ p e s m args below meth c H locs lsA C w S h => va_iald C.1.1 C.1.2.1 C.1.2.2.2.2.2.2.2.2.1 w.1 a 0 (by rw [zws_get (isC_lt hc), zent_int (isC_cl hc)]) rfl (inb_in hi) hdg (kk ξ hξ p e s m args below meth c H locs lsA C w S h)
theorem V_lald {a : Nat} {i : Int32} (hdg : decode κ.2.1.2.1 pc = .ok (.laload, 1)) (hc : isC n 101 a = true) (hi : inb i a = true) (kk : V κ fr (pc + 1) ls (.long (zL μ a i.toNatClampNeg) :: st) n μ) : V κ fr pc ls (.int i :: .ref a :: st) n μ :=
  fun ξ hξ p e s m args below meth c H locs lsA C w S h => va_lald C.1.1 C.1.2.1 C.1.2.2.2.2.2.2.2.2.1 w.1 a 1 (by rw [zws_get (isC_lt hc), zent_lng (isC_cl hc)]) rfl (inb_in hi) hdg (kk ξ hξ p e s m args below meth c H locs lsA C w S h)
theorem V_aald2 {a x : Nat} {i : Int32} (hdg : decode κ.2.1.2.1 pc = .ok (.aaload, 1)) (hc : isC n 102 a = true) (hi : inb i a = true) (hx : zR μ a i.toNatClampNeg = some x) (kk : V κ fr (pc + 1) ls (.ref x :: st) n μ) : V κ fr pc ls (.int i :: .ref a :: st) n μ :=
  fun ξ hξ p e s m args below meth c H locs lsA C w S h => va_aldq C.1.1 C.1.2.1 C.1.2.2.2.2.2.2.2.2.1 w.1 a 2 (by rw [zws_get (isC_lt hc), zent_ref (c := 2) (isC_cl hc) (by omega)]) rfl (inb_in hi) hdg (by rw [hx]; exact kk ξ hξ p e s m args below meth c H locs lsA C w S h)
theorem V_aald3 {a x : Nat} {i : Int32} (hdg : decode κ.2.1.2.1 pc = .ok (.aaload, 1)) (hc : isC n 103 a = true) (hi : inb i a = true) (hx : zR μ a i.toNatClampNeg = some x) (kk : V κ fr (pc + 1) ls (.ref x :: st) n μ) : V κ fr pc ls (.int i :: .ref a :: st) n μ :=
  fun ξ hξ p e s m args below meth c H locs lsA C w S h => va_aldq C.1.1 C.1.2.1 C.1.2.2.2.2.2.2.2.2.1 w.1 a 3 (by rw [zws_get (isC_lt hc), zent_ref (c := 3) (isC_cl hc) (by omega)]) rfl (inb_in hi) hdg (by rw [hx]; exact kk ξ hξ p e s m args below meth c H locs lsA C w S h)
theorem V_aald4 {a x : Nat} {i : Int32} (hdg : decode κ.2.1.2.1 pc = .ok (.aaload, 1)) (hc : isC n 104 a = true) (hi : inb i a = true) (hx : zR μ a i.toNatClampNeg = some x) (kk : V κ fr (pc + 1) ls (.ref x :: st) n μ) : V κ fr pc ls (.int i :: .ref a :: st) n μ :=
  fun ξ hξ p e s m args below meth c H locs lsA C w S h => va_aldq C.1.1 C.1.2.1 C.1.2.2.2.2.2.2.2.2.1 w.1 a 4 (by rw [zws_get (isC_lt hc), zent_ref (c := 4) (isC_cl hc) (by omega)]) rfl (inb_in hi) hdg (by rw [hx]; exact kk ξ hξ p e s m args below meth c H locs lsA C w S h)
theorem zarr {ξ : ZX} {s : State} {a : Nat} {e' : va_E} {H H1 : Heap} {locs : List Loc} {j : Nat} (w : zW ξ fr n μ H) (S : va_S (zA ξ) s.heap H locs) (ha : a < n) (he' : zent ξ μ' a = e') (hb : ∀ b, b ≠ a → zent ξ μ b = zent ξ μ' b) (h1 : va_at (zD ξ) zcl (zad ξ a, e') H1) (z : H1.size = H.size) (oq : ∀ q, q ≠ zad ξ a → H1[q]? = H[q]?) : zW ξ fr n μ' H1 ∧ va_S (zA ξ) s.heap H1 (locs ++ [⟨zad ξ a, j⟩]) := by
  have hD : va_D (zA ξ) (zws ξ n μ) := zWD w.2.2
  have he := zws_get (ξ := ξ) (μ := μ) ha
  have h9 := w.1.set hD he h1 oq
  rw [← he', zws_set hb] at h9
  exact ⟨zW_size w h9 z, S.put z oq (hD.2 a _ he)⟩
theorem V_iast {a : Nat} {i x : Int32} (hdg : decode κ.2.1.2.1 pc = .ok (.iastore, 1)) (hc : isC n 100 a = true) (hi : inb i a = true) (e : μ' = zpI μ a i.toNatClampNeg x) (kk : V κ fr (pc + 1) ls st n μ') : V κ fr pc ls (.int x :: .int i :: .ref a :: st) n μ := by
  subst e
  intro ξ hξ p e s m args below meth c H locs lsA C w S h
  have ha : (zws ξ n μ)[a]? = some (zad ξ a, .inl (zcA ξ 0, zsz a, .inl (zI μ a))) := by rw [zws_get (isC_lt hc), zent_int (isC_cl hc)]
  have hin := inb_in hi
  have ht : (ztys ξ)[0]? = some (zcA ξ 0, .int) := rfl
  refine W.iast C.1.1 C.1.2.1 (w.1 a _ ha) (((zTys C.1.2.2.2.2.2.2.2.2).2 0 _ ht).1 (zsz a) (fun j => .int (zI μ a j))) (fun q => by cases q) (by show ¬ (i < 0 ∨ (arrV _ _ _).slots.size ≤ _); rw [arrV_size]; exact hin) rfl rfl hdg fun H1 e z oq => ?_
  obtain ⟨w1, S1⟩ := zarr (μ' := zpI μ a i.toNatClampNeg x) (e' := .inl (zcA ξ 0, zsz a, .inl (zI (zpI μ a i.toNatClampNeg x) a))) (j := i.toNatClampNeg) w S (isC_lt hc) (zent_int (isC_cl hc)) (fun b hb => zpI_ent ξ μ hb) (by
    show H1[zad ξ a]? = some (vp_cell _ _)
    rw [e, vp_cell_i, vp_cell_i, arrV_store]
    congr 2
    funext q
    by_cases hq : q = i.toNatClampNeg
    · subst hq; simp [updV, zI, zpI]
    · simp [updV, zI, zpI, hq]) z oq
  exact kk ξ hξ p _ s m args below meth c H1 _ lsA C w1 S1 h
theorem V_last {a : Nat} {i : Int32} {x : Int64} (hdg : decode κ.2.1.2.1 pc = .ok (.lastore, 1)) (hc : isC n 101 a = true) (hi : inb i a = true) (e : μ' = zpL μ a i.toNatClampNeg x) (kk : V κ fr (pc + 1) ls st n μ') : V κ fr pc ls (.long x :: .int i :: .ref a :: st) n μ := by
  subst e
  intro ξ hξ p e s m args below meth c H locs lsA C w S h
  have ha : (zws ξ n μ)[a]? = some (zad ξ a, .inl (zcA ξ 1, zsz a, .inr (.inl (zL μ a)))) := by rw [zws_get (isC_lt hc), zent_lng (isC_cl hc)]
  have hin := inb_in hi
  have ht : (ztys ξ)[1]? = some (zcA ξ 1, .long) := rfl
  refine W.last C.1.1 C.1.2.1 (w.1 a _ ha) (((zTys C.1.2.2.2.2.2.2.2.2).2 1 _ ht).1 (zsz a) (fun j => .long (zL μ a j))) (fun q => by cases q) (by show ¬ (i < 0 ∨ (arrV _ _ _).slots.size ≤ _); rw [arrV_size]; exact hin) rfl rfl hdg fun H1 e z oq => ?_
  obtain ⟨w1, S1⟩ := zarr (μ' := zpL μ a i.toNatClampNeg x) (e' := .inl (zcA ξ 1, zsz a, .inr (.inl (zL (zpL μ a i.toNatClampNeg x) a)))) (j := i.toNatClampNeg) w S (isC_lt hc) (zent_lng (isC_cl hc)) (fun b hb => zpL_ent ξ μ hb) (by
    show H1[zad ξ a]? = some (vp_cell _ _)
    rw [e, vp_cell_l, vp_cell_l, arrV_store]
    congr 2
    funext q
    by_cases hq : q = i.toNatClampNeg
    · subst hq; simp [updV, zL, zpL]
    · simp [updV, zL, zpL, hq]) z oq
  exact kk ξ hξ p _ s m args below meth c H1 _ lsA C w1 S1 h
end
end
section
-- MAKING, CALLS, STATICS
def nwo (n c : Nat) : Bool := decide (n < 1000) && (zcls n == c)
def nwa (n c N : Nat) : Bool := decide (n < 1000) && (zcls n == c) && (zsz n == N)
def zrm (n n0 C S : Nat) : Bool := decide (n0 ≤ n) && decide (n - n0 ≤ C) && decide (zpre n - zpre n0 ≤ S)
theorem zrm_room {κ : ZK} {n n0 C S : Nat} (h : zrm n n0 C S = true) (h0 : κ.2.2.2.1 = n0) (h1 : κ.2.2.1.cells = C) (h2 : κ.2.2.1.slots = S) : zroom κ n := by
  unfold zrm at h
  simp only [Bool.and_eq_true, decide_eq_true_eq] at h
  unfold zroom
  rw [h0, h1, h2]
  exact ⟨h.1.1, h.1.2, h.2⟩
theorem zpre_mono {a b : Nat} (h : a ≤ b) : zpre a ≤ zpre b := by
  induction b with
  | zero =>
    rw [show a = 0 by omega]
    exact Nat.le_refl _
  | succ b ih =>
    rcases Nat.lt_or_ge b a with q | q
    · rw [show a = b + 1 by omega]
      exact Nat.le_refl _
    · exact Nat.le_trans (ih q) (Nat.le_add_right _ _)
theorem zmk_ent (ξ : ZX) (μ : ZMem) {a b : Nat} (h : b ≠ a) : zent ξ μ b = zent ξ (zmk μ a) b := zent_congr (fun j => by simp [zI, zmk, h]) (fun j => by simp [zL, zmk, h]) (fun j => by simp [zR, zmk, h])
theorem zws_push (ξ : ZX) (n : Nat) (μ : ZMem) : zws ξ (n + 1) (zmk μ n) = zws ξ n μ ++ [(zad ξ n, zent ξ (zmk μ n) n)] := by
  unfold zws
  rw [List.range_succ, List.map_append]
  congr 1
  apply List.map_congr_left
  intro b hb
  rw [zmk_ent ξ μ (a := n) (by have := List.mem_range.mp hb; omega)]
section
variable {κ : ZK} {fr : Bool} {pc n : Nat} {ls ls' : List (Nat × Value)} {st : List Value} {μ μ' : ZMem}
theorem zborn {ξ : ZX} {s : State} {H H1 : Heap} {locs : List Loc} (hb : zb ξ ≤ s.heap.size) (w : zW ξ true n μ H) (S : va_S (zA ξ) s.heap H locs) (hn : n < 1000) (h1 : va_at (zD ξ) zcl (H.size, zent ξ (zmk μ n) n) H1) (z : H1.size = H.size + 1) (o1 : ∀ q, q < H.size → H1[q]? = H[q]?) : zW ξ true (n + 1) (zmk μ n) H1 ∧ va_S (zA ξ) s.heap H1 locs := by
  have hz := w.2.1 rfl
  have hk : ∀ (k : Nat) (x : Nat × va_E), (zws ξ n μ)[k]? = some x → H1[x.1]? = H[x.1]? := fun k x hx => o1 x.1 ((w.1 k x hx).lt)
  refine ⟨⟨?_, fun _ => by rw [z, hz]; omega, by omega⟩, Nat.le_trans S.1 (by omega), fun x q1 q2 => (o1 x (Nat.lt_of_lt_of_le q1 S.1)).trans (S.2.1 x q1 q2), S.2.2⟩
  rw [zws_push]
  refine (w.1.kept hk).app (fun k x hx => ?_)
  have h0 : k < 1 := (List.getElem?_eq_some_iff.mp hx).1
  rw [show k = 0 by omega] at hx
  cases hx
  rw [show zad ξ n = H.size by rw [zad_lt hn, hz]]
  exact h1
theorem znext {n0 : Nat} (h0 : n0 ≤ n) {N : Nat} (hN : zslot n = N) : n + 1 - n0 = n - n0 + 1 ∧ zpre (n + 1) - zpre n0 = zpre n - zpre n0 + N := by
  have := zpre_mono h0
  have e : zpre (n + 1) = zpre n + zslot n := rfl
  rw [e, hN]
  omega
theorem V_new {c index : Nat} {q : vw_C} (hdg : decode κ.2.1.2.1 pc = .ok (.new index, 3)) (hq : zcl[c]? = some q) (hw : nwo n c = true) (hl : Cond.classLink κ.2.1.1.cls index q.1 ∈ zT) (hi : Cond.instantiable q.1 q.2.2 ∈ zT) (hini : Cond.initialized q.1 ∈ zT) (hd : ∀ j, j < q.2.2 → defaultValue (zty c j) = if zrf c j = true then .null else .int 0) (hr : zroom κ (n + 1)) (e : μ' = zmk μ n) (kk : V κ true (pc + 3) ls (.ref n :: st) (n + 1) μ') : V κ true pc ls st n μ := by
  subst e
  obtain ⟨g1, g2, g3, g4, g5⟩ := zcl_good hq
  unfold nwo at hw
  simp only [Bool.and_eq_true, decide_eq_true_eq, beq_iff_eq] at hw
  intro ξ hξ p e s m args below meth c0 H locs lsA C w S h
  have hts := C.1.2.2.2.2.2.1
  have hin : ∀ x ∈ u_ws q.1 q.2.1 q.2.2, x ∈ zwd κ.2.1 := fun x hx => List.mem_cons_of_mem _ (g1 x hx)
  have hK : va_K (zD ξ) zcl (ztys ξ) s := C.1.2.2.2.2.2.2.2.2.1
  have hKn := hK.1 c _ hq
  have hsl : zslot n = q.2.2 := by unfold zslot; rw [hw.2, if_pos g5, g4]
  obtain ⟨e1, e2⟩ := znext C.2.1 hsl
  have hc1 := hr.2.1
  have hs1 := hr.2.2
  rw [e1] at hc1
  rw [e2] at hs1
  refine W.newcK C.1.1 C.1.2.1 C.1.2.2.2.2.1 (hts _ (List.mem_cons_of_mem _ hl)) (hts _ (List.mem_cons_of_mem _ hi)) (hts _ (List.mem_cons_of_mem _ hini)) rfl hdg hc1 hs1 hKn.2.1 rfl fun H1 kC hkC f1 z1 o1 => ?_
  obtain ⟨w1, S1⟩ := zborn C.1.2.2.2.2.2.2.2.2.2.2.1 w S hw.1 (by
    rw [zent_obj hw.2 g5]
    refine ⟨q, hq, (u_born (zty c) hts hin hKn hkC f1 g2).to fun j hj => ?_⟩
    rw [hd j hj]
    have hx := zfs_get (ξ := ξ) (μ := zmk μ n) (a := n) (c := c) (k := j) (by rw [g4]; exact hj)
    unfold vp_V
    rw [List.getD_eq_getElem?_getD, hx]
    simp only [zfv, zI, zR, zmk]
    split <;> simp [va_rf]) z1 o1
  have h9 := kk ξ hξ p e s m args below meth c0 H1 locs lsA ⟨C.1, hr⟩ w1 S1 h
  rw [e1, e2] at h9
  have e3 : zvm ξ (.ref n) = .ref H.size := by
    show Value.ref (zad ξ n) = _
    rw [zad_lt hw.1, w.2.1 rfl]
  rw [List.map_cons, e3] at h9
  exact h9
theorem zsz_le (a : Nat) : zsz a ≤ 1280 := by
  unfold zsz
  split
  · rename_i q hq
    have h1 : ∀ q ∈ zSH, q.2 ≤ 1280 := by decide +kernel
    exact h1 _ (List.mem_of_getElem? hq)
  · omega
theorem nwa_of {c N : Nat} (h : nwa n c N = true) : n < 1000 ∧ zcls n = c ∧ zsz n = N := by
  unfold nwa at h
  simp only [Bool.and_eq_true, decide_eq_true_eq, beq_iff_eq] at h
  exact ⟨h.1.1, h.1.2, h.2⟩
theorem V_newi {x : Int32} {N : Nat} (hdg : decode κ.2.1.2.1 pc = .ok (.newarray .int, 2)) (hN : x.toNatClampNeg = N) (h0 : ¬ x < 0) (hw : nwa n 100 N = true) (hwd : Cond.arrayClass (newarray.typeOf .int) ∈ zT) (hr : zroom κ (n + 1)) (e : μ' = zmk μ n) (kk : V κ true (pc + 2) ls (.ref n :: st) (n + 1) μ') : V κ true pc ls (.int x :: st) n μ := by
  subst e
  obtain ⟨hn, hc, hs⟩ := nwa_of hw
  intro ξ hξ p e s m args below meth c0 H locs lsA C w S h
  have hK : va_K (zD ξ) zcl (ztys ξ) s := C.1.2.2.2.2.2.2.2.2.1
  have hsl : zslot n = N := by unfold zslot; rw [hc, if_neg (by omega)]; exact hs
  obtain ⟨e1, e2⟩ := znext C.2.1 hsl
  have hc1 := hr.2.1
  have hs1 := hr.2.2
  rw [e1] at hc1
  rw [e2] at hs1
  refine va_newaK C.1.1 C.1.2.1 (C.1.2.2.2.2.2.1 _ (List.mem_cons_of_mem _ hwd)) rfl hdg rfl h0 hN (by have := zsz_le n; rw [hs] at this; show N * 4 ≤ _; omega) hc1 hs1 rfl fun H1 cA f1 z1 o1 hAr hNm => ?_
  have hA0 : cA = zcA ξ 0 := by
    have h7 : s.vm.findClass ("[" ++ FieldType.int.toString) = some (zcA ξ 0) := (hK.2 0 (zcA ξ 0, .int) rfl).2
    exact Option.some.inj (hNm.symm.trans h7)
  obtain ⟨w1, S1⟩ := zborn C.1.2.2.2.2.2.2.2.2.2.2.1 w S hn (by
    rw [zent_int hc]
    show H1[H.size]? = some (vp_cell _ _)
    rw [f1, vp_cell_i, hs, hA0]
    simp [zI, zmk, defaultValue, newarray.typeOf]) z1 o1
  have h9 := kk ξ hξ p e s m args below meth c0 H1 locs lsA ⟨C.1, hr⟩ w1 S1 h
  rw [e1, e2] at h9
  have e3 : zvm ξ (.ref n) = .ref H.size := by
    show Value.ref (zad ξ n) = _
    rw [zad_lt hn, w.2.1 rfl]
  rw [List.map_cons, e3] at h9
  exact h9
theorem V_newl {x : Int32} {N : Nat} (hdg : decode κ.2.1.2.1 pc = .ok (.newarray .long, 2)) (hN : x.toNatClampNeg = N) (h0 : ¬ x < 0) (hw : nwa n 101 N = true) (hwd : Cond.arrayClass (newarray.typeOf .long) ∈ zT) (hr : zroom κ (n + 1)) (e : μ' = zmk μ n) (kk : V κ true (pc + 2) ls (.ref n :: st) (n + 1) μ') : V κ true pc ls (.int x :: st) n μ := by
  subst e
  obtain ⟨hn, hc, hs⟩ := nwa_of hw
  intro ξ hξ p e s m args below meth c0 H locs lsA C w S h
  have hK : va_K (zD ξ) zcl (ztys ξ) s := C.1.2.2.2.2.2.2.2.2.1
  have hsl : zslot n = N := by unfold zslot; rw [hc, if_neg (by omega)]; exact hs
  obtain ⟨e1, e2⟩ := znext C.2.1 hsl
  have hc1 := hr.2.1
  have hs1 := hr.2.2
  rw [e1] at hc1
  rw [e2] at hs1
  refine va_newaK C.1.1 C.1.2.1 (C.1.2.2.2.2.2.1 _ (List.mem_cons_of_mem _ hwd)) rfl hdg rfl h0 hN (by have := zsz_le n; rw [hs] at this; show N * 8 ≤ _; omega) hc1 hs1 rfl fun H1 cA f1 z1 o1 hAr hNm => ?_
  have hA0 : cA = zcA ξ 1 := by
    have h7 : s.vm.findClass ("[" ++ FieldType.long.toString) = some (zcA ξ 1) := (hK.2 1 (zcA ξ 1, .long) rfl).2
    exact Option.some.inj (hNm.symm.trans h7)
  obtain ⟨w1, S1⟩ := zborn C.1.2.2.2.2.2.2.2.2.2.2.1 w S hn (by
    rw [zent_lng hc]
    show H1[H.size]? = some (vp_cell _ _)
    rw [f1, vp_cell_l, hs, hA0]
    simp [zL, zmk, defaultValue, newarray.typeOf]) z1 o1
  have h9 := kk ξ hξ p e s m args below meth c0 H1 locs lsA ⟨C.1, hr⟩ w1 S1 h
  rw [e1, e2] at h9
  have e3 : zvm ξ (.ref n) = .ref H.size := by
    show Value.ref (zad ξ n) = _
    rw [zad_lt hn, w.2.1 rfl]
  rw [List.map_cons, e3] at h9
  exact h9
/-- rows of references: of Person (2), Vow (3), Shelf (4) -/
theorem V_newr {x : Int32} {N index : Nat} {C0 : String} (t : Nat) (ht2 : 2 ≤ t) (ht : ∀ ξ, (ztys ξ)[t]? = some (zcA ξ t, .object C0)) (hao : ∀ ξ U, zE ξ U → va_AO C0 U) (hdg : decode κ.2.1.2.1 pc = .ok (.anewarray index, 3)) (hN : x.toNatClampNeg = N) (h0 : ¬ x < 0) (hw : nwa n (100 + t) N = true) (hl : Cond.classLink κ.2.1.1.cls index C0 ∈ zT) (hr : zroom κ (n + 1)) (e : μ' = zmk μ n) (kk : V κ true (pc + 3) ls (.ref n :: st) (n + 1) μ') : V κ true pc ls (.int x :: st) n μ := by
  subst e
  subst hN
  obtain ⟨hn, hc, hs⟩ := nwa_of hw
  intro ξ hξ p e s m args below meth c0 H locs lsA C w S h
  have hK : va_K (zD ξ) zcl (ztys ξ) s := C.1.2.2.2.2.2.2.2.2.1
  have hsl : zslot n = x.toNatClampNeg := by unfold zslot; rw [hc, if_neg (by omega)]; exact hs
  obtain ⟨e1, e2⟩ := znext C.2.1 hsl
  have hc1 := hr.2.1
  have hs1 := hr.2.2
  rw [e1] at hc1
  rw [e2] at hs1
  refine W.anew C.1.1 C.1.2.1 C.1.2.2.2.2.1 (C.1.2.2.2.2.2.1 _ (List.mem_cons_of_mem _ hl)) (va_AO.use (hao ξ s C.1.2.2.2.2.2.2.2.2)) rfl hdg rfl h0 (by have := zsz_le n; rw [hs] at this; omega) hc1 hs1 fun cA kA comp f1 f2 f3 f4 => ?_
  have hA0 : cA = zcA ξ t := by
    obtain ⟨kA', comp', -, -, -, h7⟩ := (hK.2 t (zcA ξ t, .object C0) (ht ξ)).2
    exact Option.some.inj (f1.symm.trans h7)
  generalize hH1 : H.push ({ cls := cA, slots := Array.replicate x.toNatClampNeg .null, vm := .none } : Cell) = H1
  have z1 : H1.size = H.size + 1 := by rw [← hH1, Array.size_push]
  have g1 : H1[H.size]? = some (arrV cA x.toNatClampNeg (fun _ => .null)) := by rw [← hH1, Array.getElem?_push_size, ← arrV_new]
  have o1 : ∀ q : Nat, q < H.size → H1[q]? = H[q]? := fun q hq => by rw [← hH1, Array.getElem?_push, if_neg (Nat.ne_of_lt hq)]
  obtain ⟨w1, S1⟩ := zborn C.1.2.2.2.2.2.2.2.2.2.2.1 w S hn (by
    rw [zent_ref hc ht2]
    show H1[H.size]? = some (vp_cell _ _)
    rw [g1, vp_cell_q, hs, hA0]
    simp [zR, zmk, va_rf]) z1 o1
  have h9 := kk ξ hξ p e s m args below meth c0 H1 locs lsA ⟨C.1, hr⟩ w1 S1 h
  rw [e1, e2] at h9
  have e3 : zvm ξ (.ref n) = .ref H.size := by
    show Value.ref (zad ξ n) = _
    rw [zad_lt hn, w.2.1 rfl]
  rw [List.map_cons, e3] at h9
  exact h9
end
end
section
-- CALLS, STATICS, THE SCRIPT
/-- the words of a call -/
def zCW (M : ZM) (k : Nat) : Prop := Cond.initialized M.1.cls ∈ zT ∧ Cond.code M.1 M.2.1 M.2.2.1 M.2.2.2 ∈ zT ∧ M.1.cls ≠ "java/lang/invoke/MethodHandle" ∧ M.1.cls ≠ "java/lang/invoke/VarHandle" ∧ (parseMethodDescriptor M.1.desc).map (fun d => d.parameters.length) = some k
def zCV (own : String) (index : Nat) (M : ZM) (k : Nat) : Prop := Cond.methodLink own index M.1 ∈ zT ∧ Cond.instanceMethod M.1 ∈ zT ∧ Cond.selects M.1.cls M.1 M.1 ∈ zT ∧ zCW M k
def zCS (own : String) (index : Nat) (M : ZM) (k : Nat) : Prop := Cond.methodLink own index M.1 ∈ zT ∧ Cond.static M.1 ∈ zT ∧ zCW M k
def zCN (own : String) (index : Nat) (M : ZM) (k : Nat) : Prop := (own, index, M.1, RX6) ∈ zNM ∧ Cond.static M.1 ∈ zT ∧ zCW M k
def zCI (own : String) (index : Nat) (M : ZM) (k : Nat) : Prop := Cond.methodLink own index M.1 ∈ zT ∧ Cond.instanceMethod M.1 ∈ zT ∧ M.1.name = "<init>" ∧ M.2.2.2 = none ∧ zCW M k
theorem zgoodIn {M M' : ZM} (h : Cond.code M'.1 M'.2.1 M'.2.2.1 M'.2.2.2 ∈ zT) : GoodIn (zwd M) (zwd M') := by
  intro w hw
  have h1 : w ∈ zT := by
    rcases List.mem_cons.mp hw with rfl | q
    · exact h
    · exact q
  exact ⟨List.mem_cons_of_mem _ h1, good_of_word (List.mem_filter.mp h1).2⟩
section
variable {κ : ZK} {fr : Bool} {pc n : Nat} {ls ls' : List (Nat × Value)} {st : List Value} {μ μ' : ZMem}
theorem zcallB {M : ZM} {R1 : Room} {k index : Nat} {ξ : ZX} {p : Program} {s : State} {m : MethodId} {args : Array Value} {meth : Method} {c : Code} (C : zC κ ξ p s m args meth c) (hcw : zCW M k) (hl : Cond.methodLink κ.2.1.1.cls index M.1 ∈ zT) (hR : R1.frames + 1 ≤ κ.2.2.1.frames ∧ 8 + (M.2.2.1 + 11) + R1.locals ≤ κ.2.2.1.locals) : CallB κ.2.2.1 s args κ.2.1.1.cls index M.1 M.2.1 M.2.2.1 M.2.2.2 (zwd M) R1 R1.cells R1.slots k :=
  callB_of k C.2.2.2.2.2.1 (zgoodIn hcw.2.1) rfl rfl rfl (C.2.2.2.2.2.1 _ (List.mem_cons_of_mem _ hcw.1)) (C.2.2.2.2.2.1 _ (List.mem_cons_of_mem _ hl)) hcw.2.2 hR
/-- behind a call -/
theorem zback {R1 : Room} {ξ : ZX} {p : Program} {e : Env} {s : State} {m : MethodId} {args : Array Value} {below : List Frame} {meth : Method} {c : Code} {H : Heap} {locs : List Loc} {lsA : Array Slot} {st0 : List Value} {fr1 : Bool} {n1 : Nat} {μ1 : ZMem} {r : Option Value} {av : Array Value}
    (hξ : κ.2.2.2.2.2 ξ) (C : zC κ ξ p s m args meth c ∧ zroom κ n) (S : va_S (zA ξ) s.heap H locs) (h : lv_has lsA κ.2.1.2.2.1 (ls.map (zq ξ)))
    (hr : va_Run p κ.1 e κ.2.2.1 s m args below meth c H locs (n - κ.2.2.2.1) (zpre n - zpre κ.2.2.2.1) R1.cells R1.slots (F0 m pc lsA st0) (st.map (zvm ξ)) (zQc ξ (fr1, n1, μ1, r) av) (zA ξ))
    (hn : n1 = n + R1.cells ∧ zpre n1 = zpre n + R1.slots) (hrm : zroom κ n1) (kk : V κ fr1 (pc + 3) ls (r.toList ++ st) n1 μ1) :
    W p κ.1 e κ.2.2.1 s m args below meth c H locs (n - κ.2.2.2.1) (zpre n - zpre κ.2.2.2.1) (MQ below (zQc ξ κ.2.2.2.2.1) args s κ.2.2.1.cells κ.2.2.1.slots (zA ξ)) (F0 m pc lsA st0) := by
  intro T hT X
  obtain ⟨v, st₀, t, T', L, h0, X', hL, e1, e2, ⟨hv, hw, hF⟩, hg⟩ := hr T hT X
  have hv' : v = r.map (zvm ξ) := by cases hv; rfl
  subst hv'
  have hF1 := hF.1
  have hF2 := hF.2
  rw [h0] at hF1 hF2
  have hS1 : va_S (zA ξ) s.heap T'.heap (locs ++ L) := ⟨Nat.le_trans S.1 (by rw [e1]; exact hF1), fun q q1 q2 => by
    rw [e1, hF2 q (Nat.lt_of_lt_of_le q1 S.1) q2]
    exact S.2.1 q q1 q2, fun q hq => by
    rcases List.mem_append.mp hq with q1 | q1
    · exact S.2.2 q q1
    · exact hL q q1⟩
  have h9 := kk ξ hξ p e s m args below meth c T'.heap (locs ++ L) lsA ⟨C.1, hrm⟩ (by rw [e1]; exact hw) hS1 h
  have e3 : n1 - κ.2.2.2.1 = n - κ.2.2.2.1 + R1.cells := by have := C.2.1; omega
  have e4 : zpre n1 - zpre κ.2.2.2.1 = zpre n - zpre κ.2.2.2.1 + R1.slots := by have := zpre_mono C.2.1; omega
  have e5 : (r.toList ++ st).map (zvm ξ) = (r.map (zvm ξ)).toList ++ st.map (zvm ξ) := by cases r <;> rfl
  rw [e3, e4, e5] at h9
  obtain ⟨t2, a1, b1⟩ := h9 T' rfl X'
  exact ⟨t2, hg t2 a1, b1⟩
theorem zrecv {ξ : ZX} {p : Program} {s : State} {m : MethodId} {args : Array Value} {meth : Method} {c0 : Code} {H : Heap} {b c : Nat} {N : String} (C : zC κ ξ p s m args meth c0) (w : zW ξ fr n μ H) (hb : isC n c b = true) (hq : (zcl[c]?).map (fun q => q.1) = some N) : ∃ cell : Cell, H[zad ξ b]? = some cell ∧ cell.vm.isStatics = false ∧ s.vm.findClass N = some cell.cls := by
  cases hc : zcl[c]? with
  | none => rw [hc] at hq; cases hq
  | some q =>
    rw [hc] at hq
    cases hq
    exact va_recv (C.2.2.2.2.2.2.2.2.1) w.1 hc (zobj hb hc)
theorem V_callV {M : ZM} {R1 : Room} {As : List Value} {b c index k : Nat} {fr1 : Bool} {n1 : Nat} {μ1 : ZMem} {r : Option Value} {stk : List Value} (hdg : decode κ.2.1.2.1 pc = .ok (.invokevirtual index, 3)) (hs : zCV κ.2.1.1.cls index M k) (hF : ZFn κ.1 M R1 (.ref b :: As) fr n μ (fr1, n1, μ1, r)) (hb : isC n c b = true) (hq : (zcl[c]?).map (fun q => q.1) = some M.1.cls) (hk : As.length = k) (hstk : stk = As.reverse ++ .ref b :: st)
    (hR : R1.frames + 1 ≤ κ.2.2.1.frames ∧ 8 + (M.2.2.1 + 11) + R1.locals ≤ κ.2.2.1.locals) (hcat : (st.map fun v => v.category).sum ≤ 8) (hn : n1 = n + R1.cells ∧ zpre n1 = zpre n + R1.slots) (hrm : zroom κ n → zroom κ n1) (kk : V κ fr1 (pc + 3) ls (r.toList ++ st) n1 μ1) : V κ fr pc ls stk n μ := by
  subst hstk
  intro ξ hξ p e s m args below meth c0 H locs lsA C w S h
  obtain ⟨hl, hi, hse, hcw⟩ := hs
  have hts := C.1.2.2.2.2.2.1
  have hroom := (hrm C.2)
  refine zback hξ C S h (va_runV (Ts := zwd κ.2.1) (As := As.map (zvm ξ)) (b := zad ξ b) ⟨C.1.1, C.1.2.1, C.1.2.2.2.1, C.1.2.2.2.2.1, hts⟩ (hF ξ) ⟨zcallB C.1 hcw hl hR, hts _ (List.mem_cons_of_mem _ hi), hts _ (List.mem_cons_of_mem _ hse)⟩ ⟨zpc_blind _ _ _ _ _, zrecv C.1 w hb hq, fun U hU hW => ⟨rfl, by rw [hU]; exact w, zE_to C.1.2.2.2.2.2.2.2.2 hU hW S⟩⟩ rfl (by rw [List.length_map]; exact hk) h.1 (by simp [zvm]) (lv_room (by rw [zvm_sum]; exact hcat)) hdg ?_) hn hroom kk
  refine ⟨?_, ?_⟩
  · have := hroom.2.1
    have := C.2.1
    omega
  · have := hroom.2.2
    have := zpre_mono C.2.1
    omega
theorem V_callS {M : ZM} {R1 : Room} {As : List Value} {index k : Nat} {fr1 : Bool} {n1 : Nat} {μ1 : ZMem} {r : Option Value} {stk : List Value} (hdg : decode κ.2.1.2.1 pc = .ok (.invokestatic index, 3)) (hs : zCS κ.2.1.1.cls index M k) (hF : ZFn κ.1 M R1 As fr n μ (fr1, n1, μ1, r)) (hk : As.length = k) (hstk : stk = As.reverse ++ st)
    (hR : R1.frames + 1 ≤ κ.2.2.1.frames ∧ 8 + (M.2.2.1 + 11) + R1.locals ≤ κ.2.2.1.locals) (hcat : (st.map fun v => v.category).sum ≤ 8) (hn : n1 = n + R1.cells ∧ zpre n1 = zpre n + R1.slots) (hrm : zroom κ n → zroom κ n1) (kk : V κ fr1 (pc + 3) ls (r.toList ++ st) n1 μ1) : V κ fr pc ls stk n μ := by
  subst hstk
  intro ξ hξ p e s m args below meth c0 H locs lsA C w S h
  obtain ⟨hl, hi, hcw⟩ := hs
  have hts := C.1.2.2.2.2.2.1
  have hroom := (hrm C.2)
  refine zback hξ C S h (va_runS (Ts := zwd κ.2.1) (As := As.map (zvm ξ)) ⟨C.1.1, C.1.2.1, C.1.2.2.2.1, C.1.2.2.2.2.1, hts⟩ (hF ξ) ⟨zcallB C.1 hcw hl hR, hts _ (List.mem_cons_of_mem _ hi)⟩ ⟨zpc_blind _ _ _ _ _, fun U hU hW => ⟨rfl, by rw [hU]; exact w, zE_to C.1.2.2.2.2.2.2.2.2 hU hW S⟩⟩ rfl (by rw [List.length_map]; exact hk) h.1 (by simp) (lv_room (by rw [zvm_sum]; exact hcat)) hdg ?_) hn hroom kk
  refine ⟨?_, ?_⟩
  · have := hroom.2.1
    have := C.2.1
    omega
  · have := hroom.2.2
    have := zpre_mono C.2.1
    omega
theorem V_callN {M : ZM} {R1 : Room} {As : List Value} {index k : Nat} {fr1 : Bool} {n1 : Nat} {μ1 : ZMem} {r : Option Value} {stk : List Value} (hdg : decode κ.2.1.2.1 pc = .ok (.invokestatic index, 3)) (hs : zCN κ.2.1.1.cls index M k) (hF : ZFn κ.1 M R1 As fr n μ (fr1, n1, μ1, r)) (hk : As.length = k) (hstk : stk = As.reverse ++ st)
    (hR : R1.frames + 1 ≤ κ.2.2.1.frames ∧ 8 + (M.2.2.1 + 11) + R1.locals ≤ κ.2.2.1.locals) (hcat : (st.map fun v => v.category).sum ≤ 8) (hn : n1 = n + R1.cells ∧ zpre n1 = zpre n + R1.slots) (hrm : zroom κ n → zroom κ n1) (kk : V κ fr1 (pc + 3) ls (r.toList ++ st) n1 μ1) : V κ fr pc ls stk n μ := by
  subst hstk
  intro ξ hξ p e s m args below meth c0 H locs lsA C w S h
  obtain ⟨hl, hi, hcw⟩ := hs
  have hts := C.1.2.2.2.2.2.1
  have hroom := (hrm C.2)
  have hnest := C.1.2.2.2.2.2.2.2.2.2.2.2.2.2.2.1.1 _ hl
  refine zback hξ C S h (va_runSN (Ts := zwd κ.2.1) (host := RX6) (As := As.map (zvm ξ)) ⟨C.1.1, C.1.2.1, C.1.2.2.2.1, C.1.2.2.2.2.1, hts⟩ (hF ξ) ⟨va_cnB k hts (zgoodIn hcw.2.1) rfl rfl rfl hnest (hts _ (List.mem_cons_of_mem _ hcw.1)) hcw.2.2 hR, hts _ (List.mem_cons_of_mem _ hi), trivial⟩ ⟨zpc_blind _ _ _ _ _, fun U hU hW => ⟨rfl, by rw [hU]; exact w, zE_to C.1.2.2.2.2.2.2.2.2 hU hW S⟩⟩ rfl (by rw [List.length_map]; exact hk) h.1 (by simp) (lv_room (by rw [zvm_sum]; exact hcat)) hdg ?_) hn hroom kk
  refine ⟨?_, ?_⟩
  · have := hroom.2.1
    have := C.2.1
    omega
  · have := hroom.2.2
    have := zpre_mono C.2.1
    omega
theorem V_callI {M : ZM} {R1 : Room} {As : List Value} {b index k : Nat} {fr1 : Bool} {n1 : Nat} {μ1 : ZMem} {stk : List Value} (hdg : decode κ.2.1.2.1 pc = .ok (.invokespecial index, 3)) (hs : zCI κ.2.1.1.cls index M k) (hF : ZFn κ.1 M R1 (.ref b :: As) fr n μ (fr1, n1, μ1, none)) (hk : As.length = k) (hstk : stk = As.reverse ++ .ref b :: st)
    (hR : R1.frames + 1 ≤ κ.2.2.1.frames ∧ 8 + (M.2.2.1 + 11) + R1.locals ≤ κ.2.2.1.locals) (hcat : (st.map fun v => v.category).sum ≤ 8) (hn : n1 = n + R1.cells ∧ zpre n1 = zpre n + R1.slots) (hrm : zroom κ n → zroom κ n1) (kk : V κ fr1 (pc + 3) ls st n1 μ1) : V κ fr pc ls stk n μ := by
  subst hstk
  intro ξ hξ p e s m args below meth c0 H locs lsA C w S h
  obtain ⟨hl, hi, hnm, hret, hcw⟩ := hs
  have hts := C.1.2.2.2.2.2.1
  have hroom := (hrm C.2)
  have hB := zcallB C.1 hcw hl hR
  rw [hret] at hB
  refine zback (r := none) hξ C S h (va_runI (Ts := zwd κ.2.1) (As := As.map (zvm ξ)) (b := zad ξ b) ⟨C.1.1, C.1.2.1, C.1.2.2.2.1, C.1.2.2.2.2.1, hts⟩ (hF ξ) ⟨hB, hnm, hts _ (List.mem_cons_of_mem _ hi)⟩ ⟨zpc_blind _ _ _ _ _, fun U hU hW => ⟨rfl, by rw [hU]; exact w, zE_to C.1.2.2.2.2.2.2.2.2 hU hW S⟩⟩ rfl (by rw [List.length_map]; exact hk) h.1 (by simp [zvm]) (lv_room (by rw [zvm_sum]; exact hcat)) hdg ?_) hn hroom kk
  refine ⟨?_, ?_⟩
  · have := hroom.2.1
    have := C.2.1
    omega
  · have := hroom.2.2
    have := zpre_mono C.2.1
    omega
theorem V_obj {a index : Nat} (hdg : decode κ.2.1.2.1 pc = .ok (.invokespecial index, 3)) (hl : Cond.methodLink κ.2.1.1.cls index Lib.objectInit ∈ zT) (hi : Cond.instanceMethod Lib.objectInit ∈ zT) (hc : Cond.code Lib.objectInit ⟨#[0xb1]⟩ 1 none ∈ zT) (hR : 1 ≤ κ.2.2.1.frames ∧ 20 ≤ κ.2.2.1.locals) (hcat : (st.map fun v => v.category).sum ≤ 8) (kk : V κ fr (pc + 3) ls st n μ) : V κ fr pc ls (.ref a :: st) n μ := by
  intro ξ hξ p e s m args below meth c0 H locs lsA C w S h
  have hts := C.1.2.2.2.2.2.1
  refine W.objInit C.1.1 C.1.2.1 C.1.2.2.2.2.1 (hts _ (List.mem_cons_of_mem _ hl)) (hts _ (List.mem_cons_of_mem _ hi)) (hts _ (List.mem_cons_of_mem _ hc)) rfl (h.1.trans C.1.2.2.2.1.symm) rfl hdg hR.1 ?_ ?_
  · have h3 : 2 * (F0 m pc lsA ((Value.ref a :: st).map (zvm ξ))).monitorRoom + ((st.map (zvm ξ)).map fun v => v.category).sum ≤ 8 := lv_room (by rw [zvm_sum]; exact hcat)
    omega
  · exact kk ξ hξ p e s m args below meth c0 H locs lsA C w S h
theorem V_max {x y : Int32} {index : Nat} (hdg : decode κ.2.1.2.1 pc = .ok (.invokestatic index, 3)) (hl : Cond.methodLink κ.2.1.1.cls index Lib.Math.max.name ∈ zT) (hs : Cond.static Lib.Math.max.name ∈ zT) (hi : Cond.initialized "java/lang/Math" ∈ zT) (hc : Cond.code Lib.Math.max.name Lib.Math.max.code 2 (some .int) ∈ zT) (hR : 1 ≤ κ.2.2.1.frames ∧ 21 ≤ κ.2.2.1.locals) (hcat : (st.map fun v => v.category).sum ≤ 8) (kk : V κ fr (pc + 3) ls (.int (if x < y then y else x) :: st) n μ) : V κ fr pc ls (.int y :: .int x :: st) n μ := by
  intro ξ hξ p e s m args below meth c0 H locs lsA C w S h
  have hts := C.1.2.2.2.2.2.1
  refine va_mmax C.1.1 C.1.2.1 (C.1.2.2.2.1.trans h.1.symm) C.1.2.2.2.2.1 (hts _ (List.mem_cons_of_mem _ hl)) (hts _ (List.mem_cons_of_mem _ hs)) (hts _ (List.mem_cons_of_mem _ hi)) (hts _ (List.mem_cons_of_mem _ hc)) hR.1 ?_ C.2.2.1 C.2.2.2 hdg ?_
  · have h3 := hcat
    rw [← zvm_sum ξ] at h3
    have h4 := hR.2
    omega
  · exact kk ξ hξ p e s m args below meth c0 H locs lsA C w S h
theorem V_min {x y : Int32} {index : Nat} (hdg : decode κ.2.1.2.1 pc = .ok (.invokestatic index, 3)) (hl : Cond.methodLink κ.2.1.1.cls index Lib.Math.min.name ∈ zT) (hs : Cond.static Lib.Math.min.name ∈ zT) (hi : Cond.initialized "java/lang/Math" ∈ zT) (hc : Cond.code Lib.Math.min.name Lib.Math.min.code 2 (some .int) ∈ zT) (hR : 1 ≤ κ.2.2.1.frames ∧ 21 ≤ κ.2.2.1.locals) (hcat : (st.map fun v => v.category).sum ≤ 8) (kk : V κ fr (pc + 3) ls (.int (if y < x then y else x) :: st) n μ) : V κ fr pc ls (.int y :: .int x :: st) n μ := by
  intro ξ hξ p e s m args below meth c0 H locs lsA C w S h
  have hts := C.1.2.2.2.2.2.1
  refine va_mmin C.1.1 C.1.2.1 (C.1.2.2.2.1.trans h.1.symm) C.1.2.2.2.2.1 (hts _ (List.mem_cons_of_mem _ hl)) (hts _ (List.mem_cons_of_mem _ hs)) (hts _ (List.mem_cons_of_mem _ hi)) (hts _ (List.mem_cons_of_mem _ hc)) hR.1 ?_ C.2.2.1 C.2.2.2 hdg ?_
  · have h3 := hcat
    rw [← zvm_sum ξ] at h3
    have h4 := hR.2
    omega
  · exact kk ξ hξ p e s m args below meth c0 H locs lsA C w S h
-- statics and the script: 1000 the script, 1001 KIND_ABOVE, 1002 BODIES
theorem V_getKA {index : Nat} (hdg : decode κ.2.1.2.1 pc = .ok (.getstatic index, 3)) (hl : Cond.fieldLink κ.2.1.1.cls index RX6 "KIND_ABOVE" "[I" ∈ zT) (kk : V κ fr (pc + 3) ls (.ref 1001 :: st) n μ) : V κ fr pc ls st n μ :=
  fun ξ hξ p e s m args below meth c H locs lsA C w S h => va_gets C.1.1 C.1.2.1 C.1.2.2.2.2.2.2.2.2.2.2.2.1.1 S C.1.2.2.2.2.1 (C.1.2.2.2.2.2.1 _ (List.mem_cons_of_mem _ hl)) (fun x hx => hx) hdg (kk ξ hξ p e s m args below meth c H locs lsA C w S h)
theorem V_getBO (hown : κ.2.1.1.cls = RX0) (hdg : decode κ.2.1.2.1 pc = .ok (.getstatic 63, 3)) (kk : V κ fr (pc + 3) ls (.ref 1002 :: st) n μ) : V κ fr pc ls st n μ :=
  fun ξ hξ p e s m args below meth c H locs lsA C w S h => va_getsN C.1.1 C.1.2.1 C.1.2.2.2.2.2.2.2.2.2.2.2.2.1.1 S C.1.2.2.2.2.1 (by rw [hown]; exact va_Nw.use rfl C.1.2.2.2.2.2.2.2.2.2.2.2.2.2.2.1.2) (fun x hx => hx) hdg (kk ξ hξ p e s m args below meth c H locs lsA C w S h)
def inN (i : Int32) (k : Nat) : Bool := !decide (i < 0) && decide (i.toNatClampNeg < k)
theorem inN_in {i : Int32} {k : Nat} (h : inN i k = true) : vp_in i k := by
  unfold inN at h
  simp only [Bool.and_eq_true, Bool.not_eq_true', decide_eq_false_iff_not, decide_eq_true_eq] at h
  rintro (q | q)
  · exact h.1 q
  · omega
theorem V_ldKA {i : Int32} (hdg : decode κ.2.1.2.1 pc = .ok (.iaload, 1)) (hi : inN i 7 = true) (kk : V κ fr (pc + 1) ls (.int (zKA i.toNatClampNeg) :: st) n μ) : V κ fr pc ls (.int i :: .ref 1001 :: st) n μ :=
  fun ξ hξ p e s m args below meth c H locs lsA C w S h => va_ti C.1.1 C.1.2.1 C.1.2.2.2.2.2.2.2.2.2.2.2.1.2 S (inN_in hi) rfl hdg (kk ξ hξ p e s m args below meth c H locs lsA C w S h)
theorem V_ldBO {i : Int32} (hdg : decode κ.2.1.2.1 pc = .ok (.iaload, 1)) (hi : inN i 21 = true) (kk : V κ fr (pc + 1) ls (.int (zBO i.toNatClampNeg) :: st) n μ) : V κ fr pc ls (.int i :: .ref 1002 :: st) n μ :=
  fun ξ hξ p e s m args below meth c H locs lsA C w S h => va_ti C.1.1 C.1.2.1 C.1.2.2.2.2.2.2.2.2.2.2.2.2.1.2 S (inN_in hi) rfl hdg (kk ξ hξ p e s m args below meth c H locs lsA C w S h)
end
end
section
-- TEXTS, arraycopy, rows of references, the script
def rmd (d : Nat) : Room := { frames := d, cells := 0, slots := 0, locals := 64 * d }
def zslen (j : Nat) : Nat := zLen.getD j 0
def zschr (j i : Nat) : Int32 := (zByt.getD j []).getD i 0
section
variable {κ : ZK} {fr : Bool} {pc n : Nat} {ls ls' : List (Nat × Value)} {st : List Value} {μ μ' : ZMem}
theorem zad_s (ξ : ZX) (k : Nat) : zad ξ (1000 + k) = zsa ξ k := by
  unfold zad
  rw [if_neg (by omega), show 1000 + k - 1000 = k by omega]
theorem V_sld {i x : Int32} (hdg : decode κ.2.1.2.1 pc = .ok (.iaload, 1)) (hi : ∀ ξ, κ.2.2.2.2.2 ξ → vp_in i (zLn ξ)) (hx : ∀ ξ, κ.2.2.2.2.2 ξ → zxs ξ i.toNatClampNeg = x) (kk : V κ fr (pc + 1) ls (.int x :: st) n μ) : V κ fr pc ls (.int i :: .ref 1000 :: st) n μ := by
  intro ξ hξ p e s m args below meth c H locs lsA C w S h
  have h9 := kk ξ hξ p e s m args below meth c H locs lsA C w S h
  rw [← hx ξ hξ] at h9
  exact va_sld C.1.1 C.1.2.1 C.1.2.2.2.2.2.2.2.2.2.2.2.2.2.1.1 (Nat.lt_of_lt_of_le C.1.2.2.2.2.2.2.2.2.2.2.2.2.2.1.2.1 C.1.2.2.2.2.2.2.2.2.2.2.1) (Nat.not_le.mpr C.1.2.2.2.2.2.2.2.2.2.2.2.2.2.1.2.1) S (hi ξ hξ) hdg h9
theorem V_slen {x : Int32} (hdg : decode κ.2.1.2.1 pc = .ok (.arraylength, 1)) (hx : ∀ ξ, κ.2.2.2.2.2 ξ → Int32.ofNat (zLn ξ) = x) (kk : V κ fr (pc + 1) ls (.int x :: st) n μ) : V κ fr pc ls (.ref 1000 :: st) n μ := by
  intro ξ hξ p e s m args below meth c H locs lsA C w S h
  have h9 := kk ξ hξ p e s m args below meth c H locs lsA C w S h
  rw [← hx ξ hξ] at h9
  exact va_slen C.1.1 C.1.2.1 C.1.2.2.2.2.2.2.2.2.2.2.2.2.2.1.1 (Nat.lt_of_lt_of_le C.1.2.2.2.2.2.2.2.2.2.2.2.2.2.1.2.1 C.1.2.2.2.2.2.2.2.2.2.2.1) (Nat.not_le.mpr C.1.2.2.2.2.2.2.2.2.2.2.2.2.2.1.2.1) S hdg h9
theorem V_ldcS {index j : Nat} (hj : j < 8) (hown : κ.2.1.1.cls = RX5) (hx : (zStx.getD j (0, "")).1 = index) (hdg : decode κ.2.1.2.1 pc = .ok (.ldc index, 2)) (kk : V κ fr (pc + 2) ls (.ref (1000 + (10 + j)) :: st) n μ) : V κ fr pc ls st n μ := by
  intro ξ hξ p e s m args below meth c H locs lsA C w S h
  subst hx
  have h9 := kk ξ hξ p e s m args below meth c H locs lsA C w S h
  have e3 : zvm ξ (.ref (1000 + (10 + j))) = .ref (zsa ξ (10 + j)) := by
    show Value.ref (zad ξ _) = _
    rw [zad_s]
  rw [List.map_cons, e3] at h9
  have hZ := C.1.2.2.2.2.2.2.2.2.2.2.2.2.2.2.2.1 j hj
  rw [← hown] at hZ
  exact va_ldcS C.1.1 C.1.2.1 C.1.2.2.2.2.1 hZ hdg h9
theorem V_sval {j : Nat} (hj : j < 8) (hown : κ.2.1.1.cls = RJ0) (hl : Cond.fieldLink RJ0 9 RJ0 "value" "[B" ∈ zT) (hdg : decode κ.2.1.2.1 pc = .ok (.getfield 9, 3)) (kk : V κ fr (pc + 3) ls (.ref (1000 + (30 + j)) :: st) n μ) : V κ fr pc ls (.ref (1000 + (10 + j)) :: st) n μ := by
  intro ξ hξ p e s m args below meth c H locs lsA C w S h
  have h9 := kk ξ hξ p e s m args below meth c H locs lsA C w S h
  have e3 : zvm ξ (.ref (1000 + (30 + j))) = .ref (zsa ξ (30 + j)) := by
    show Value.ref (zad ξ _) = _
    rw [zad_s]
  have e4 : zvm ξ (.ref (1000 + (10 + j))) = .ref (zsa ξ (10 + j)) := by
    show Value.ref (zad ξ _) = _
    rw [zad_s]
  rw [List.map_cons, e3] at h9
  rw [List.map_cons, e4]
  have hf := (C.1.2.2.2.2.2.2.2.2.2.2.2.2.2.2.2.2.1.1 j hj).2.2.1
  exact vk_getf C.1.1 C.1.2.1 hf S C.1.2.2.2.2.1 (by rw [hown]; exact C.1.2.2.2.2.2.1 _ (List.mem_cons_of_mem _ hl)) (fun x hx => hx) hdg h9
theorem V_scod {j : Nat} (hj : j < 8) (hown : κ.2.1.1.cls = RJ0) (hl : Cond.fieldLink RJ0 15 RJ0 "coder" "B" ∈ zT) (hdg : decode κ.2.1.2.1 pc = .ok (.getfield 15, 3)) (kk : V κ fr (pc + 3) ls (.int 0 :: st) n μ) : V κ fr pc ls (.ref (1000 + (10 + j)) :: st) n μ := by
  intro ξ hξ p e s m args below meth c H locs lsA C w S h
  have h9 := kk ξ hξ p e s m args below meth c H locs lsA C w S h
  have e4 : zvm ξ (.ref (1000 + (10 + j))) = .ref (zsa ξ (10 + j)) := by
    show Value.ref (zad ξ _) = _
    rw [zad_s]
  rw [List.map_cons, e4]
  have hf := (C.1.2.2.2.2.2.2.2.2.2.2.2.2.2.2.2.2.1.1 j hj).2.1
  exact vk_getf C.1.1 C.1.2.1 hf S C.1.2.2.2.2.1 (by rw [hown]; exact C.1.2.2.2.2.2.1 _ (List.mem_cons_of_mem _ hl)) (fun x hx => hx) hdg h9
theorem V_blen {j : Nat} (hj : j < 8) (hdg : decode κ.2.1.2.1 pc = .ok (.arraylength, 1)) (kk : V κ fr (pc + 1) ls (.int (Int32.ofNat (zslen j)) :: st) n μ) : V κ fr pc ls (.ref (1000 + (30 + j)) :: st) n μ := by
  intro ξ hξ p e s m args below meth c H locs lsA C w S h
  have h9 := kk ξ hξ p e s m args below meth c H locs lsA C w S h
  have e4 : zvm ξ (.ref (1000 + (30 + j))) = .ref (zsa ξ (30 + j)) := by
    show Value.ref (zad ξ _) = _
    rw [zad_s]
  rw [List.map_cons, e4]
  have hf := (C.1.2.2.2.2.2.2.2.2.2.2.2.2.2.2.2.2.1.1 j hj).2.2.2
  exact va_tlen C.1.1 C.1.2.1 hf S rfl hdg h9
theorem V_bald {j : Nat} {i : Int32} (hj : j < 8) (hi : inN i (zslen j) = true) (hdg : decode κ.2.1.2.1 pc = .ok (.baload, 1)) (kk : V κ fr (pc + 1) ls (.int (zschr j i.toNatClampNeg) :: st) n μ) : V κ fr pc ls (.int i :: .ref (1000 + (30 + j)) :: st) n μ := by
  intro ξ hξ p e s m args below meth c H locs lsA C w S h
  have h9 := kk ξ hξ p e s m args below meth c H locs lsA C w S h
  have e4 : zvm ξ (.ref (1000 + (30 + j))) = .ref (zsa ξ (30 + j)) := by
    show Value.ref (zad ξ _) = _
    rw [zad_s]
  rw [List.map_cons, List.map_cons, e4]
  have hf := (C.1.2.2.2.2.2.2.2.2.2.2.2.2.2.2.2.2.1.1 j hj).2.2.2
  exact va_tb C.1.1 C.1.2.1 hf S (inN_in hi) rfl hdg h9
theorem V_scmp (hown : κ.2.1.1.cls = RJ0) (hl : Cond.fieldLink RJ0 38 RJ0 "COMPACT_STRINGS" "Z" ∈ zT) (hdg : decode κ.2.1.2.1 pc = .ok (.getstatic 38, 3)) (kk : V κ fr (pc + 3) ls (.int 1 :: st) n μ) : V κ fr pc ls st n μ :=
  fun ξ hξ p e s m args below meth c H locs lsA C w S h => va_gets C.1.1 C.1.2.1 C.1.2.2.2.2.2.2.2.2.2.2.2.2.2.2.2.2.2.1 S C.1.2.2.2.2.1 (by rw [hown]; exact C.1.2.2.2.2.2.1 _ (List.mem_cons_of_mem _ hl)) (fun x hx => hx) hdg (kk ξ hξ p e s m args below meth c H locs lsA C w S h)
theorem V_ssio (hown : κ.2.1.1.cls = RJ0) (hl : Cond.fieldLink RJ0 1053 RJ3 "SIOOBE_FORMATTER" "Ljava/util/function/BiFunction;" ∈ zT) (hdg : decode κ.2.1.2.1 pc = .ok (.getstatic 1053, 3)) (kk : ∀ v, v = .null ∨ v = .ref 1003 → V κ fr (pc + 3) ls (v :: st) n μ) : V κ fr pc ls st n μ := by
  intro ξ hξ p e s m args below meth c H locs lsA C w S h
  rcases C.1.2.2.2.2.2.2.2.2.2.2.2.2.2.2.2.2.2.2 with q | q
  · exact va_gets C.1.1 C.1.2.1 q S C.1.2.2.2.2.1 (by rw [hown]; exact C.1.2.2.2.2.2.1 _ (List.mem_cons_of_mem _ hl)) (fun x hx => hx) hdg (kk .null (Or.inl rfl) ξ hξ p e s m args below meth c H locs lsA C w S h)
  · exact va_gets C.1.1 C.1.2.1 q S C.1.2.2.2.2.1 (by rw [hown]; exact C.1.2.2.2.2.2.1 _ (List.mem_cons_of_mem _ hl)) (fun x hx => hx) hdg (kk (.ref 1003) (Or.inr rfl) ξ hξ p e s m args below meth c H locs lsA C w S h)
theorem V_tret {v : Int32} {ty : FieldType} (hdg : decode κ.2.1.2.1 pc = .ok (.ireturn, 1)) (hr : κ.2.1.2.2.2 = some ty) (hv : narrow ty (.int v) = .int v) (hz : κ.2.2.2.2.1 = (fr, n, μ, some (.int v))) : V κ fr pc ls [.int v] n μ :=
  fun ξ hξ p e s m args below meth c H locs lsA C w S h => W.widen C.2.2.1 C.2.2.2 (by
    rw [hz]
    exact W.zret C.1.1 C.1.2.1 (C.1.2.2.1.trans hr) hv (fun t ht _ => zend w S ht) S.2.2 hdg C.1.2.2.2.2.2.2.1)
/-- a call on a text -/
theorem V_callT {M : ZM} {R1 : Room} {As : List Value} {j index k : Nat} {r : Option Value} {stk : List Value} (hdg : decode κ.2.1.2.1 pc = .ok (.invokevirtual index, 3)) (hs : zCV κ.2.1.1.cls index M k) (hj : j < 8) (hM : M.1.cls = "java/lang/String") (hF : ZFn κ.1 M R1 (.ref (1000 + (10 + j)) :: As) fr n μ (fr, n, μ, r)) (hk : As.length = k) (hstk : stk = As.reverse ++ .ref (1000 + (10 + j)) :: st)
    (hR : R1.frames + 1 ≤ κ.2.2.1.frames ∧ 8 + (M.2.2.1 + 11) + R1.locals ≤ κ.2.2.1.locals) (hcat : (st.map fun v => v.category).sum ≤ 8) (h0 : R1.cells = 0 ∧ R1.slots = 0) (kk : V κ fr (pc + 3) ls (r.toList ++ st) n μ) : V κ fr pc ls stk n μ := by
  subst hstk
  intro ξ hξ p e s m args below meth c0 H locs lsA C w S h
  obtain ⟨hl, hi, hse, hcw⟩ := hs
  have hts := C.1.2.2.2.2.2.1
  have hrc : ∃ cell : Cell, H[zad ξ (1000 + (10 + j))]? = some cell ∧ cell.vm.isStatics = false ∧ s.vm.findClass M.1.cls = some cell.cls := by
    rw [hM, zad_s]
    exact vk_recv (i := j) (adK := fun i => zsa ξ (10 + i)) C.1.2.2.2.2.2.2.2.2.2.2.2.2.2.2.2.2.1 hj S
  refine zback hξ C S h (va_runV (Ts := zwd κ.2.1) (As := As.map (zvm ξ)) (b := zad ξ (1000 + (10 + j))) ⟨C.1.1, C.1.2.1, C.1.2.2.2.1, C.1.2.2.2.2.1, hts⟩ (hF ξ) ⟨zcallB C.1 hcw hl hR, hts _ (List.mem_cons_of_mem _ hi), hts _ (List.mem_cons_of_mem _ hse)⟩ ⟨zpc_blind _ _ _ _ _, hrc, fun U hU hW => ⟨rfl, by rw [hU]; exact w, zE_to C.1.2.2.2.2.2.2.2.2 hU hW S⟩⟩ rfl (by rw [List.length_map]; exact hk) h.1 (by simp [zvm]) (lv_room (by rw [zvm_sum]; exact hcat)) hdg ?_) (by rw [h0.1, h0.2]; exact ⟨rfl, rfl⟩) C.2 kk
  rw [h0.1, h0.2]
  exact ⟨C.2.2.1, C.2.2.2⟩
theorem V_aast {a v ci t : Nat} {i : Int32} {q : vw_C} (ht2 : 2 ≤ t) (hdg : decode κ.2.1.2.1 pc = .ok (.aastore, 1)) (hc : isC n (100 + t) a = true) (hi : inb i a = true) (hv : isC n ci v = true) (hq : zcl[ci]? = some q) (htt : ∀ ξ, (ztys ξ)[t]? = some (zcA ξ t, .object q.1)) (e : μ' = zpR μ a i.toNatClampNeg v) (kk : V κ fr (pc + 1) ls st n μ') : V κ fr pc ls (.ref v :: .int i :: .ref a :: st) n μ := by
  subst e
  intro ξ hξ p e s m args below meth c H locs lsA C w S h
  have hK : va_K (zD ξ) zcl (ztys ξ) s := C.1.2.2.2.2.2.2.2.2.1
  have ha : (zws ξ n μ)[a]? = some (zad ξ a, .inl (zcA ξ t, zsz a, .inr (.inr (.inr (.inr (fun k => (zR μ a k).map (zad ξ))))))) := by rw [zws_get (isC_lt hc), zent_ref (isC_cl hc) ht2]
  have hin := inb_in hi
  have hlt : i.toNatClampNeg < zsz a := Nat.not_le.mp fun q => hin (Or.inr q)
  have h0 : ¬ i < 0 := fun q => hin (Or.inl q)
  obtain ⟨r', hr', cellV, g1, g2, g3, -⟩ := w.1 v _ (zobj (ξ := ξ) (μ := μ) hv hq)
  have hcls := (hK.1 ci q hq).2
  obtain ⟨kA, comp, k1, k2, k3, -⟩ := (hK.2 t _ (htt ξ)).2
  have hcomp : comp = (zD ξ).1 ci := Option.some.inj (k3.symm.trans hcls.1)
  subst hcomp
  obtain ⟨kC, hkC, -⟩ := hcls.2
  refine W.aast C.1.1 C.1.2.1 (w.1 a _ ha) (fun q h => by cases h) (fun h => by cases h) k1 k2 rfl hkC ⟨h0, by show _ < (arrV _ _ _).slots.size; rw [arrV_size]; exact hlt⟩ g1 (fun q h => by rw [g3] at h; cases h) (by rw [g2]; exact hkC) (by rw [g2]; exact va_assign hcls) rfl rfl hdg fun H1 e z oq => ?_
  obtain ⟨w1, S1⟩ := zarr (μ' := zpR μ a i.toNatClampNeg v) (e' := .inl (zcA ξ t, zsz a, .inr (.inr (.inr (.inr (fun k => (zR (zpR μ a i.toNatClampNeg v) a k).map (zad ξ))))))) (j := i.toNatClampNeg) w S (isC_lt hc) (zent_ref (isC_cl hc) ht2) (fun b hb => zpR_ent ξ μ hb) (by
    show H1[zad ξ a]? = some (vp_cell _ _)
    rw [e, vp_cell_q, vp_cell_q, arrV_store]
    congr 2
    funext q
    by_cases hq : q = i.toNatClampNeg
    · subst hq; simp [updV, zR, zpR, va_rf]
    · simp [updV, zR, zpR, hq]) z oq
  exact kk ξ hξ p _ s m args below meth c H1 _ lsA C w1 S1 h
/-- System.arraycopy of longs -/
theorem V_copyl {a b index : Nat} {sp dp k : Int32} (hw : Cond.methodLink κ.2.1.1.cls index arraycopyName ∈ zT ∧ Cond.native arraycopyName ∈ zT ∧ Cond.static arraycopyName ∈ zT ∧ Cond.initialized "java/lang/System" ∈ zT) (hdg : decode κ.2.1.2.1 pc = .ok (.invokestatic index, 3)) (ha : isC n 101 a = true) (hb : isC n 101 b = true) (h1 : ¬ sp < 0) (h2 : ¬ dp < 0) (h3 : ¬ k < 0) (h4 : sp.toNatClampNeg + k.toNatClampNeg ≤ zsz a) (h5 : dp.toNatClampNeg + k.toNatClampNeg ≤ zsz b) (hst : st = []) (hR : 1 ≤ κ.2.2.1.frames ∧ nativeFrameWords "java/lang/System" "arraycopy" 5 + 11 ≤ κ.2.2.1.locals) (e : μ' = zcp μ a b sp.toNatClampNeg dp.toNatClampNeg k.toNatClampNeg) (kk : V κ false (pc + 3) ls st n μ') : V κ false pc ls (.int k :: .int dp :: .ref b :: .int sp :: .ref a :: st) n μ := by
  subst e
  subst hst
  intro ξ hξ p e s m args below meth c H locs lsA C w S h
  have hts := C.1.2.2.2.2.2.1
  have hK : va_K (zD ξ) zcl (ztys ξ) s := C.1.2.2.2.2.2.2.2.2.1
  have hD : va_D (zA ξ) (zws ξ n μ) := zWD w.2.2
  have ha0 : (zws ξ n μ)[a]? = some (zad ξ a, .inl (zcA ξ 1, zsz a, .inr (.inl (zL μ a)))) := by rw [zws_get (isC_lt ha), zent_lng (isC_cl ha)]
  have hb0 : (zws ξ n μ)[b]? = some (zad ξ b, .inl (zcA ξ 1, zsz b, .inr (.inl (zL μ b)))) := by rw [zws_get (isC_lt hb), zent_lng (isC_cl hb)]
  refine va_copyl C.1.1 C.1.2.1 (C.1.2.2.2.1.trans h.1.symm) C.1.2.2.2.2.1 (hts _ (List.mem_cons_of_mem _ hw.1)) (hts _ (List.mem_cons_of_mem _ hw.2.1)) (hts _ (List.mem_cons_of_mem _ hw.2.2.1)) (hts _ (List.mem_cons_of_mem _ hw.2.2.2)) hK w.1 hD S a b 1 1 ha0 hb0 rfl rfl rfl h1 h2 h3 h4 h5 (fun _ _ => rfl) hR.1 (by show 0 + _ ≤ _; omega) hdg fun H1 locs1 hP1 hD1 S1 => ?_
  have h8 : (zws ξ n μ).set b (zad ξ b, .inl (zcA ξ 1, zsz b, .inr (.inl (va_cpy (zL μ a) (zL μ b) sp.toNatClampNeg dp.toNatClampNeg k.toNatClampNeg)))) = zws ξ n (zcp μ a b sp.toNatClampNeg dp.toNatClampNeg k.toNatClampNeg) := by
    have h7 : zL (zcp μ a b sp.toNatClampNeg dp.toNatClampNeg k.toNatClampNeg) b = va_cpy (zL μ a) (zL μ b) sp.toNatClampNeg dp.toNatClampNeg k.toNatClampNeg := by
      funext x
      simp [zL, zcp]
      rfl
    rw [← h7, ← zent_lng (isC_cl hb)]
    exact zws_set (fun x hx => zent_congr (fun _ => rfl) (fun j => by simp [zL, zcp, hx]) (fun _ => rfl))
  rw [h8] at hP1
  exact kk ξ hξ p _ s m args below meth c H1 _ lsA C ⟨hP1, (fun q => by cases q), w.2.2⟩ S1 h
end
def mJ_coder : ZM := (yJ0_coder_7d493, cJ0_coder_7d493, 1, some .byte)
def mJ_lat : ZM := (yJ0_isLatin1_aae02, cJ0_isLatin1_aae02, 1, some .boolean)
def mJ_len : ZM := (yJ0_length_8abf5, cJ0_length_8abf5, 1, some .int)
def mJ_chr : ZM := (yJ0_charAt_5068e, cJ0_charAt_5068e, 2, some .char)
def mJ_lchr : ZM := (yJ1_charAt_3b067, cJ1_charAt_3b067, 2, some .char)
def mJ_chk : ZM := (yJ0_checkIndex_df160, cJ0_checkIndex_df160, 2, none)
def mJ_pchk : ZM := (yJ3_checkIndex_8e157, cJ3_checkIndex_8e157, 3, some .int)
theorem sJ_len_coder : zCV RJ0 335 mJ_coder 0 := ⟨zin (i := 460) (by decide +kernel) rfl, zin (i := 461) (by decide +kernel) rfl, zin (i := 462) (by decide +kernel) rfl, ⟨zin (i := 11) (by decide +kernel) rfl, zin (i := 463) (by decide +kernel) rfl, by decide +kernel, by decide +kernel, by decide +kernel⟩⟩
theorem sJ_chr_lat : zCV RJ0 492 mJ_lat 0 := ⟨zin (i := 470) (by decide +kernel) rfl, zin (i := 471) (by decide +kernel) rfl, zin (i := 472) (by decide +kernel) rfl, ⟨zin (i := 11) (by decide +kernel) rfl, zin (i := 473) (by decide +kernel) rfl, by decide +kernel, by decide +kernel, by decide +kernel⟩⟩
theorem sJ_chr_lchr : zCS RJ0 495 mJ_lchr 2 := ⟨zin (i := 474) (by decide +kernel) rfl, zin (i := 475) (by decide +kernel) rfl, ⟨zin (i := 12) (by decide +kernel) rfl, zin (i := 476) (by decide +kernel) rfl, by decide +kernel, by decide +kernel, by decide +kernel⟩⟩
theorem sJ_lchr_chk : zCS RJ1 9 mJ_chk 2 := ⟨zin (i := 477) (by decide +kernel) rfl, zin (i := 478) (by decide +kernel) rfl, ⟨zin (i := 11) (by decide +kernel) rfl, zin (i := 479) (by decide +kernel) rfl, by decide +kernel, by decide +kernel, by decide +kernel⟩⟩
theorem sJ_chk_pchk : zCS RJ0 1059 mJ_pchk 3 := ⟨zin (i := 482) (by decide +kernel) rfl, zin (i := 483) (by decide +kernel) rfl, ⟨zin (i := 13) (by decide +kernel) rfl, zin (i := 484) (by decide +kernel) rfl, by decide +kernel, by decide +kernel, by decide +kernel⟩⟩
theorem sJ_5_len : zCV RX5 112 mJ_len 0 := ⟨zin (i := 456) (by decide +kernel) rfl, zin (i := 457) (by decide +kernel) rfl, zin (i := 458) (by decide +kernel) rfl, ⟨zin (i := 11) (by decide +kernel) rfl, zin (i := 459) (by decide +kernel) rfl, by decide +kernel, by decide +kernel, by decide +kernel⟩⟩
theorem sJ_5_chr : zCV RX5 117 mJ_chr 1 := ⟨zin (i := 466) (by decide +kernel) rfl, zin (i := 467) (by decide +kernel) rfl, zin (i := 468) (by decide +kernel) rfl, ⟨zin (i := 11) (by decide +kernel) rfl, zin (i := 469) (by decide +kernel) rfl, by decide +kernel, by decide +kernel, by decide +kernel⟩⟩
theorem wJ_value : Cond.fieldLink RJ0 9 RJ0 "value" "[B" ∈ zT := zin (i := 1262) (by decide +kernel) rfl
theorem wJ_coder : Cond.fieldLink RJ0 15 RJ0 "coder" "B" ∈ zT := zin (i := 1263) (by decide +kernel) rfl
theorem wJ_comp : Cond.fieldLink RJ0 38 RJ0 "COMPACT_STRINGS" "Z" ∈ zT := zin (i := 464) (by decide +kernel) rfl
theorem wJ_sio : Cond.fieldLink RJ0 1053 RJ3 "SIOOBE_FORMATTER" "Ljava/util/function/BiFunction;" ∈ zT := zin (i := 480) (by decide +kernel) rfl
theorem wJ_cp : Cond.methodLink RX3 49 arraycopyName ∈ zT ∧ Cond.native arraycopyName ∈ zT ∧ Cond.static arraycopyName ∈ zT ∧ Cond.initialized "java/lang/System" ∈ zT := ⟨zin (i := 310) (by decide +kernel) rfl, zin (i := 312) (by decide +kernel) rfl, zin (i := 311) (by decide +kernel) rfl, zin (i := 10) (by decide +kernel) rfl⟩
-- the JDK's methods on our texts
theorem tJ_pchk {l : Launch} {fr : Bool} {n : Nat} {μ : ZMem} {i L : Int32} {v : Value} (h0 : ¬ i < 0) (h1 : i < L) (hv : v = .null ∨ v = .ref 1003) : ZFn l mJ_pchk (rmd 1) [.int i, .int L, v] fr n μ (fr, n, μ, some (.int i)) := by
  refine ZFn.of (ls := [(0, .int i), (1, .int L), (2, v)]) (by decide) (fun ξ => by rcases hv with rfl | rfl <;> exact Nat.le_of_ble_eq_true rfl) (fun ξ => by rcases hv with rfl | rfl <;> rfl) ?_
  refine V_iload_n 0 (by decide +kernel : decode cJ3_checkIndex_8e157 0 = .ok (.iload_n 0, 1)) rfl ?_
  refine V_if_lt (tgt := 9) (by decide +kernel : decode cJ3_checkIndex_8e157 1 = .ok (.ifCond .lt 8, 3)) (by decide) (fun c => absurd c h0) (fun c => ?_)
  refine V_iload_n 0 (by decide +kernel : decode cJ3_checkIndex_8e157 4 = .ok (.iload_n 0, 1)) rfl ?_
  refine V_iload_n 1 (by decide +kernel : decode cJ3_checkIndex_8e157 5 = .ok (.iload_n 1, 1)) rfl ?_
  refine V_icmp_lt (tgt := 16) (by decide +kernel : decode cJ3_checkIndex_8e157 6 = .ok (.if_icmp .lt 10, 3)) (by decide) (fun c => ?_) (fun c => absurd h1 c)
  refine V_iload_n 0 (by decide +kernel : decode cJ3_checkIndex_8e157 16 = .ok (.iload_n 0, 1)) rfl ?_
  exact V_iret (by decide +kernel : decode cJ3_checkIndex_8e157 17 = .ok (.ireturn, 1)) rfl rfl
theorem tJ_chk {l : Launch} {fr : Bool} {n : Nat} {μ : ZMem} {i L : Int32} (h0 : ¬ i < 0) (h1 : i < L) : ZFn l mJ_chk (rmd 2) [.int i, .int L] fr n μ (fr, n, μ, none) := by
  refine ZFn.of (ls := [(0, .int i), (1, .int L)]) (by decide) (fun ξ => Nat.le_of_ble_eq_true rfl) (fun ξ => rfl) ?_
  refine V_iload_n 0 (by decide +kernel : decode cJ0_checkIndex_df160 0 = .ok (.iload_n 0, 1)) rfl ?_
  refine V_iload_n 1 (by decide +kernel : decode cJ0_checkIndex_df160 1 = .ok (.iload_n 1, 1)) rfl ?_
  refine V_ssio rfl wJ_sio (by decide +kernel : decode cJ0_checkIndex_df160 2 = .ok (.getstatic 1053, 3)) (fun v hv => ?_)
  refine V_callS (R1 := rmd 1) (As := [.int i, .int L, v]) (r := some (.int i)) (by decide +kernel : decode cJ0_checkIndex_df160 5 = .ok (.invokestatic 1059, 3)) sJ_chk_pchk (tJ_pchk h0 h1 hv) rfl rfl ⟨Nat.le_of_ble_eq_true rfl, Nat.le_of_ble_eq_true rfl⟩ (Nat.le_of_ble_eq_true rfl) ⟨rfl, rfl⟩ id ?_
  refine V_pop (by decide +kernel : decode cJ0_checkIndex_df160 8 = .ok (.pop, 1)) ?_
  exact V_vret (by decide +kernel : decode cJ0_checkIndex_df160 9 = .ok (.return_, 1)) rfl rfl
theorem zlen_ok : ∀ j, j < 8 → zslen j < 8 := by decide
theorem inN_cmp {i : Int32} {j : Nat} (hj : j < 8) (hi : inN i (zslen j) = true) : ¬ i < 0 ∧ i < Int32.ofNat (zslen j) := by
  have h8 := zlen_ok j hj
  unfold inN at hi
  simp only [Bool.and_eq_true, Bool.not_eq_true', decide_eq_false_iff_not, decide_eq_true_eq] at hi
  refine ⟨hi.1, ?_⟩
  have h1 : ¬ i.toInt < 0 := by
    intro q
    exact hi.1 (Int32.lt_iff_toInt_lt.mpr (by simpa using q))
  have h2 : i.toInt.toNat < zslen j := hi.2
  rw [Int32.lt_iff_toInt_lt]
  have h3 : (Int32.ofNat (zslen j)).toInt = (zslen j : Int) := nI_toInt (by omega)
  rw [h3]
  omega
theorem zbyte_ok : ∀ j, j < 8 → ∀ k, k < zslen j → (zschr j k &&& 255).toUInt32.toUInt16.toUInt32.toInt32 = zschr j k ∧ narrow .char (.int (zschr j k)) = .int (zschr j k) := by decide +kernel
theorem tJ_lchr {l : Launch} {fr : Bool} {n : Nat} {μ : ZMem} {i : Int32} {j : Nat} (hj : j < 8) (hi : inN i (zslen j) = true) : ZFn l mJ_lchr (rmd 3) [.ref (1000 + (30 + j)), .int i] fr n μ (fr, n, μ, some (.int (zschr j i.toNatClampNeg))) := by
  obtain ⟨h0, h1⟩ := inN_cmp hj hi
  have hlt : i.toNatClampNeg < zslen j := Nat.not_le.mp fun q => inN_in hi (Or.inr q)
  obtain ⟨b1, b2⟩ := zbyte_ok j hj _ hlt
  refine ZFn.of (ls := [(0, .ref (1000 + (30 + j))), (1, .int i)]) (by decide) (fun ξ => Nat.le_of_ble_eq_true rfl) (fun ξ => rfl) ?_
  refine V_iload_n 1 (by decide +kernel : decode cJ1_charAt_3b067 0 = .ok (.iload_n 1, 1)) rfl ?_
  refine V_aload_n 0 (by decide +kernel : decode cJ1_charAt_3b067 1 = .ok (.aload_n 0, 1)) rfl ?_
  refine V_blen hj (by decide +kernel : decode cJ1_charAt_3b067 2 = .ok (.arraylength, 1)) ?_
  refine V_callS (R1 := rmd 2) (As := [.int i, .int (Int32.ofNat (zslen j))]) (r := none) (by decide +kernel : decode cJ1_charAt_3b067 3 = .ok (.invokestatic 9, 3)) sJ_lchr_chk (tJ_chk h0 h1) rfl rfl ⟨Nat.le_of_ble_eq_true rfl, Nat.le_of_ble_eq_true rfl⟩ (Nat.le_of_ble_eq_true rfl) ⟨rfl, rfl⟩ id ?_
  refine V_aload_n 0 (by decide +kernel : decode cJ1_charAt_3b067 6 = .ok (.aload_n 0, 1)) rfl ?_
  refine V_iload_n 1 (by decide +kernel : decode cJ1_charAt_3b067 7 = .ok (.iload_n 1, 1)) rfl ?_
  refine V_bald hj hi (by decide +kernel : decode cJ1_charAt_3b067 8 = .ok (.baload, 1)) ?_
  refine V_sipush (v := 255) (by decide +kernel : decode cJ1_charAt_3b067 9 = .ok (.sipush 255, 3)) (by decide) ?_
  refine V_iand (by decide +kernel : decode cJ1_charAt_3b067 12 = .ok (.iand, 1)) ?_
  refine V_i2c (v := zschr j i.toNatClampNeg) (by decide +kernel : decode cJ1_charAt_3b067 13 = .ok (.i2c, 1)) b1 ?_
  exact V_tret (by decide +kernel : decode cJ1_charAt_3b067 14 = .ok (.ireturn, 1)) rfl b2 rfl
theorem tJ_lat {l : Launch} {fr : Bool} {n : Nat} {μ : ZMem} {j : Nat} (hj : j < 8) : ZFn l mJ_lat (rmd 1) [.ref (1000 + (10 + j))] fr n μ (fr, n, μ, some (.int 1)) := by
  refine ZFn.of (ls := [(0, .ref (1000 + (10 + j)))]) (by decide) (fun ξ => Nat.le_of_ble_eq_true rfl) (fun ξ => rfl) ?_
  refine V_scmp rfl wJ_comp (by decide +kernel : decode cJ0_isLatin1_aae02 0 = .ok (.getstatic 38, 3)) ?_
  refine V_if_eq (tgt := 17) (by decide +kernel : decode cJ0_isLatin1_aae02 3 = .ok (.ifCond .eq 14, 3)) (by decide) (fun c => absurd c (by decide)) (fun c => ?_)
  refine V_aload_n 0 (by decide +kernel : decode cJ0_isLatin1_aae02 6 = .ok (.aload_n 0, 1)) rfl ?_
  refine V_scod hj rfl wJ_coder (by decide +kernel : decode cJ0_isLatin1_aae02 7 = .ok (.getfield 15, 3)) ?_
  refine V_if_ne (tgt := 17) (by decide +kernel : decode cJ0_isLatin1_aae02 10 = .ok (.ifCond .ne 7, 3)) (by decide) (fun c => absurd rfl c) (fun c => ?_)
  refine V_iconst (v := 1) (by decide +kernel : decode cJ0_isLatin1_aae02 13 = .ok (.iconst 1, 1)) (by decide) ?_
  refine V_goto (tgt := 18) (by decide +kernel : decode cJ0_isLatin1_aae02 14 = .ok (.goto 4, 3)) (by decide) ?_
  exact V_zret (by decide +kernel : decode cJ0_isLatin1_aae02 18 = .ok (.ireturn, 1)) rfl (by decide) rfl
theorem tJ_coder {l : Launch} {fr : Bool} {n : Nat} {μ : ZMem} {j : Nat} (hj : j < 8) : ZFn l mJ_coder (rmd 1) [.ref (1000 + (10 + j))] fr n μ (fr, n, μ, some (.int 0)) := by
  refine ZFn.of (ls := [(0, .ref (1000 + (10 + j)))]) (by decide) (fun ξ => Nat.le_of_ble_eq_true rfl) (fun ξ => rfl) ?_
  refine V_scmp rfl wJ_comp (by decide +kernel : decode cJ0_coder_7d493 0 = .ok (.getstatic 38, 3)) ?_
  refine V_if_eq (tgt := 13) (by decide +kernel : decode cJ0_coder_7d493 3 = .ok (.ifCond .eq 10, 3)) (by decide) (fun c => absurd c (by decide)) (fun c => ?_)
  refine V_aload_n 0 (by decide +kernel : decode cJ0_coder_7d493 6 = .ok (.aload_n 0, 1)) rfl ?_
  refine V_scod hj rfl wJ_coder (by decide +kernel : decode cJ0_coder_7d493 7 = .ok (.getfield 15, 3)) ?_
  refine V_goto (tgt := 14) (by decide +kernel : decode cJ0_coder_7d493 10 = .ok (.goto 4, 3)) (by decide) ?_
  exact V_tret (by decide +kernel : decode cJ0_coder_7d493 14 = .ok (.ireturn, 1)) rfl (by decide) rfl
theorem zshr0 : ∀ j, j < 8 → Int32.ofNat (zslen j) >>> ((0 : Int32) &&& 31) = Int32.ofNat (zslen j) := by decide +kernel
theorem tJ_len {l : Launch} {fr : Bool} {n : Nat} {μ : ZMem} {j : Nat} (hj : j < 8) : ZFn l mJ_len (rmd 2) [.ref (1000 + (10 + j))] fr n μ (fr, n, μ, some (.int (Int32.ofNat (zslen j)))) := by
  refine ZFn.of (ls := [(0, .ref (1000 + (10 + j)))]) (by decide) (fun ξ => Nat.le_of_ble_eq_true rfl) (fun ξ => rfl) ?_
  refine V_aload_n 0 (by decide +kernel : decode cJ0_length_8abf5 0 = .ok (.aload_n 0, 1)) rfl ?_
  refine V_sval hj rfl wJ_value (by decide +kernel : decode cJ0_length_8abf5 1 = .ok (.getfield 9, 3)) ?_
  refine V_blen hj (by decide +kernel : decode cJ0_length_8abf5 4 = .ok (.arraylength, 1)) ?_
  refine V_aload_n 0 (by decide +kernel : decode cJ0_length_8abf5 5 = .ok (.aload_n 0, 1)) rfl ?_
  refine V_callT (R1 := rmd 1) (As := []) (r := some (.int 0)) (by decide +kernel : decode cJ0_length_8abf5 6 = .ok (.invokevirtual 335, 3)) sJ_len_coder hj rfl (tJ_coder hj) rfl rfl ⟨Nat.le_of_ble_eq_true rfl, Nat.le_of_ble_eq_true rfl⟩ (Nat.le_of_ble_eq_true rfl) ⟨rfl, rfl⟩ ?_
  refine V_ishr (by decide +kernel : decode cJ0_length_8abf5 9 = .ok (.ishr, 1)) ?_
  rw [zshr0 j hj]
  exact V_iret (by decide +kernel : decode cJ0_length_8abf5 10 = .ok (.ireturn, 1)) rfl rfl
theorem tJ_chr {l : Launch} {fr : Bool} {n : Nat} {μ : ZMem} {i : Int32} {j : Nat} (hj : j < 8) (hi : inN i (zslen j) = true) : ZFn l mJ_chr (rmd 4) [.ref (1000 + (10 + j)), .int i] fr n μ (fr, n, μ, some (.int (zschr j i.toNatClampNeg))) := by
  have hlt : i.toNatClampNeg < zslen j := Nat.not_le.mp fun q => inN_in hi (Or.inr q)
  obtain ⟨b1, b2⟩ := zbyte_ok j hj _ hlt
  refine ZFn.of (ls := [(0, .ref (1000 + (10 + j))), (1, .int i)]) (by decide) (fun ξ => Nat.le_of_ble_eq_true rfl) (fun ξ => rfl) ?_
  refine V_aload_n 0 (by decide +kernel : decode cJ0_charAt_5068e 0 = .ok (.aload_n 0, 1)) rfl ?_
  refine V_callT (R1 := rmd 1) (As := []) (r := some (.int 1)) (by decide +kernel : decode cJ0_charAt_5068e 1 = .ok (.invokevirtual 492, 3)) sJ_chr_lat hj rfl (tJ_lat hj) rfl rfl ⟨Nat.le_of_ble_eq_true rfl, Nat.le_of_ble_eq_true rfl⟩ (Nat.le_of_ble_eq_true rfl) ⟨rfl, rfl⟩ ?_
  refine V_if_eq (tgt := 16) (by decide +kernel : decode cJ0_charAt_5068e 4 = .ok (.ifCond .eq 12, 3)) (by decide) (fun c => absurd c (by decide)) (fun c => ?_)
  refine V_aload_n 0 (by decide +kernel : decode cJ0_charAt_5068e 7 = .ok (.aload_n 0, 1)) rfl ?_
  refine V_sval hj rfl wJ_value (by decide +kernel : decode cJ0_charAt_5068e 8 = .ok (.getfield 9, 3)) ?_
  refine V_iload_n 1 (by decide +kernel : decode cJ0_charAt_5068e 11 = .ok (.iload_n 1, 1)) rfl ?_
  refine V_callS (R1 := rmd 3) (As := [.ref (1000 + (30 + j)), .int i]) (r := some (.int (zschr j i.toNatClampNeg))) (by decide +kernel : decode cJ0_charAt_5068e 12 = .ok (.invokestatic 495, 3)) sJ_chr_lchr (tJ_lchr hj hi) rfl rfl ⟨Nat.le_of_ble_eq_true rfl, Nat.le_of_ble_eq_true rfl⟩ (Nat.le_of_ble_eq_true rfl) ⟨rfl, rfl⟩ id ?_
  exact V_tret (by decide +kernel : decode cJ0_charAt_5068e 15 = .ok (.ireturn, 1)) rfl b2 rfl
end
section
-- what the printed functions use
def FU : Nat := 2000
def FD : Nat := 40
def rmc (d C S : Nat) : Room := { frames := d, cells := C, slots := S, locals := 64 * d }
abbrev zkI (l : Launch) (M : ZM) (R : Room) (fr : Bool) (n : Nat) (z : ZMem × Int32) : ZK := (l, M, R, n, (fr, n, z.1, some (.int z.2)), zany)
abbrev zkJ (l : Launch) (M : ZM) (R : Room) (fr : Bool) (n : Nat) (z : ZMem × Int64) : ZK := (l, M, R, n, (fr, n, z.1, some (.long z.2)), zany)
abbrev zkA (l : Launch) (M : ZM) (R : Room) (fr : Bool) (n : Nat) (z : ZMem × Nat) : ZK := (l, M, R, n, (fr, n, z.1, some (.ref z.2)), zany)
abbrev zkV (l : Launch) (M : ZM) (R : Room) (fr : Bool) (n : Nat) (z : ZMem) : ZK := (l, M, R, n, (fr, n, z, none), zany)
abbrev zkC (l : Launch) (M : ZM) (R : Room) (n0 : Nat) (z : Nat × ZMem) : ZK := (l, M, R, n0, (true, z.1, z.2, none), zany)
def b01 (x : Int32) : Bool := x == 0 || x == 1
theorem b01_n {x : Int32} (h : b01 x = true) : narrow .boolean (.int x) = .int x := by
  unfold b01 at h
  simp only [Bool.or_eq_true, beq_iff_eq] at h
  rcases h with rfl | rfl <;> decide
theorem nz_of {y : Int32} (h : (!decide (y = 0)) = true) : ¬ y = 0 := by simpa using h
def isT (t : Nat) : Bool := decide (1010 ≤ t) && decide (t < 1018)
theorem isT_of {t : Nat} (h : isT t = true) : t - 1010 < 8 ∧ t = 1000 + (10 + (t - 1010)) := by
  unfold isT at h
  simp only [Bool.and_eq_true, decide_eq_true_eq] at h
  omega
theorem isC_mono {n n' c a : Nat} (h : isC n c a = true) (hn : n ≤ n') : isC n' c a = true := by
  unfold isC at h ⊢
  simp only [Bool.and_eq_true, decide_eq_true_eq] at h ⊢
  exact ⟨Nat.lt_of_lt_of_le h.1 hn, h.2⟩
theorem isC_new {n c : Nat} (h : nwo n c = true) : isC (n + 1) c n = true := by
  unfold nwo at h
  unfold isC
  simp only [Bool.and_eq_true, decide_eq_true_eq] at h ⊢
  exact ⟨by omega, h.2⟩
theorem isC_newa {n c N : Nat} (h : nwa n c N = true) : isC (n + 1) c n = true := by
  obtain ⟨h1, h2, -⟩ := nwa_of h
  unfold isC
  rw [h2]
  simp
def nxt (n n2 C S : Nat) : Bool := decide (n2 = n + C) && decide (zpre n2 = zpre n + S)
theorem nxt_of {n n2 C S : Nat} (h : nxt n n2 C S = true) : n2 = n + C ∧ zpre n2 = zpre n + S := by
  unfold nxt at h
  simp only [Bool.and_eq_true, decide_eq_true_eq] at h
  exact h
theorem zlsw {ps : List (Int × Int)} {d : Int} {x : Int32} (h : ∀ q ∈ ps, ¬ x = Int32.ofInt q.1) : Op.lookupswitch.offset ps d x.toInt = d := by
  induction ps with
  | nil => rfl
  | cons a r ih =>
    obtain ⟨a, o⟩ := a
    rw [Op.lookupswitch.offset_cons, if_neg, ih fun q hq => h q (List.mem_cons_of_mem _ hq)]
    intro e
    exact h (a, o) List.mem_cons_self (by rw [e]; exact (Int32.ofInt_toInt x).symm)
def cpok (a b : Nat) (i j k : Int32) : Bool := !decide (i < 0) && !decide (j < 0) && !decide (k < 0) && decide (i.toNatClampNeg + k.toNatClampNeg ≤ zsz a) && decide (j.toNatClampNeg + k.toNatClampNeg ≤ zsz b)
theorem cpok_of {a b : Nat} {i j k : Int32} (h : cpok a b i j k = true) : ¬ i < 0 ∧ ¬ j < 0 ∧ ¬ k < 0 ∧ i.toNatClampNeg + k.toNatClampNeg ≤ zsz a ∧ j.toNatClampNeg + k.toNatClampNeg ≤ zsz b := by
  unfold cpok at h
  simp only [Bool.and_eq_true, Bool.not_eq_true', decide_eq_false_iff_not, decide_eq_true_eq] at h
  exact ⟨h.1.1.1.1, h.1.1.1.2, h.1.1.2, h.1.2, h.2⟩
section
variable {κ : ZK} {fr : Bool} {pc n : Nat} {ls ls' : List (Nat × Value)} {st : List Value} {μ μ' : ZMem}
theorem V_inc {x dx : Int32} {i : Nat} {d : Int} (k : Nat) (ks : List Nat) (hdg : decode κ.2.1.2.1 pc = .ok (.iinc i d, 3)) (hl : ls[k]? = some (i, .int x)) (hn : i < κ.2.1.2.2.1) (hd : Int32.ofInt d = dx) (hp : lv_pick (zst i (.int (x + dx)) ls) ks = ls') (kk : V κ fr (pc + 3) ls' st n μ) : V κ fr pc ls st n μ := by
  subst hd
  exact V_iinc k ks hdg hl hn hp kk
theorem V_lsw {dflt : Int} {ps : Array (Int × Int)} {len : Nat} {x : Int32} {off : Int} {tgt : Nat} (v : Int32) (hx : x = v) (hdg : decode κ.2.1.2.1 pc = .ok (.lookupswitch dflt ps, len)) (hp : (ps.toList.zip (ps.toList.drop 1)).all (fun (a, next) => a.1 < next.1) = true) (ho : Op.lookupswitch.offset ps.toList dflt v.toInt = off) (ht : (pc : Int) + off = (tgt : Int)) (kk : V κ fr tgt ls st n μ) : V κ fr pc ls (.int x :: st) n μ := by
  subst hx
  exact V_lookup hdg hp ho ht kk
theorem V_lsw0 {dflt : Int} {ps : Array (Int × Int)} {len : Nat} {x : Int32} {tgt : Nat} (vs : List Int32) (hx : ∀ v ∈ vs, ¬ x = v) (hdg : decode κ.2.1.2.1 pc = .ok (.lookupswitch dflt ps, len)) (hp : (ps.toList.zip (ps.toList.drop 1)).all (fun (a, next) => a.1 < next.1) = true) (hv : vs = ps.toList.map (fun q => Int32.ofInt q.1)) (ht : (pc : Int) + dflt = (tgt : Int)) (kk : V κ fr tgt ls st n μ) : V κ fr pc ls (.int x :: st) n μ :=
  V_lookup hdg hp (zlsw fun q hq => hx _ (by rw [hv]; exact List.mem_map.mpr ⟨q, hq, rfl⟩)) ht kk
theorem V_tlen {t : Nat} (ht : isT t = true) (hown : κ.2.1.1.cls = RX5) (hdg : decode κ.2.1.2.1 pc = .ok (.invokevirtual 112, 3)) (hR : 3 ≤ κ.2.2.1.frames ∧ 160 ≤ κ.2.2.1.locals) (hcat : (st.map fun v => v.category).sum ≤ 8) (kk : V κ fr (pc + 3) ls (.int (Int32.ofNat (zslen (t - 1010))) :: st) n μ) : V κ fr pc ls (.ref t :: st) n μ := by
  obtain ⟨h1, h2⟩ := isT_of ht
  rw [h2]
  exact V_callT (R1 := rmd 2) (As := []) (r := some (.int (Int32.ofNat (zslen (t - 1010))))) hdg (by rw [hown]; exact sJ_5_len) h1 rfl (tJ_len h1) rfl rfl ⟨hR.1, Nat.le_trans (Nat.le_of_ble_eq_true rfl) hR.2⟩ hcat ⟨rfl, rfl⟩ kk
theorem V_tchr {t : Nat} {i : Int32} (ht : isT t = true) (hi : inN i (zslen (t - 1010)) = true) (hown : κ.2.1.1.cls = RX5) (hdg : decode κ.2.1.2.1 pc = .ok (.invokevirtual 117, 3)) (hR : 5 ≤ κ.2.2.1.frames ∧ 300 ≤ κ.2.2.1.locals) (hcat : (st.map fun v => v.category).sum ≤ 8) (kk : V κ fr (pc + 3) ls (.int (zschr (t - 1010) i.toNatClampNeg) :: st) n μ) : V κ fr pc ls (.int i :: .ref t :: st) n μ := by
  obtain ⟨h1, h2⟩ := isT_of ht
  rw [h2]
  exact V_callT (R1 := rmd 4) (As := [.int i]) (r := some (.int (zschr (t - 1010) i.toNatClampNeg))) hdg (by rw [hown]; exact sJ_5_chr) h1 rfl (tJ_chr h1 hi) rfl rfl ⟨hR.1, Nat.le_trans (Nat.le_of_ble_eq_true rfl) hR.2⟩ hcat ⟨rfl, rfl⟩ kk
end
end
section
def mX6_isIn : ZM := (yX6_isIn, cX6_isIn, 3, some .boolean)
def mX6_upward : ZM := (yX6_upward, cX6_upward, 2, some .int)
def mX1_become : ZM := (yX1_become, cX1_become, 5, none)
def mX1_load : ZM := (yX1_load, cX1_load, 2, none)
def mX1_pace : ZM := (yX1_pace, cX1_pace, 4, some .int)
def mX1_toil : ZM := (yX1_toil, cX1_toil, 3, some .int)
def mX1_limit : ZM := (yX1_limit, cX1_limit, 1, some .int)
def mX1_isSighing : ZM := (yX1_isSighing, cX1_isSighing, 1, some .boolean)
def mX1_missingToSigh : ZM := (yX1_missingToSigh, cX1_missingToSigh, 1, some .int)
def mX1_grow : ZM := (yX1_grow, cX1_grow, 2, none)
def mX1_rest : ZM := (yX1_rest, cX1_rest, 2, none)
def mX1_stepsToLimit : ZM := (yX1_stepsToLimit, cX1_stepsToLimit, 4, some .int)
-- WhoComplainsCarries.isIn
def tbX6_isIn_0 : List (Nat × Instr × Nat) := [(0, .iload_n 0, 1), (1, .iload_n 1, 1), (2, .if_icmp .lt 12, 3), (5, .iload_n 0, 1), (6, .iload_n 2, 1), (7, .if_icmp .gt 7, 3), (10, .iconst 1, 1), (11, .goto 4, 3), (14, .iconst 0, 1), (15, .ireturn, 1)]
theorem tbX6_isIn_0_ok : ∀ q ∈ tbX6_isIn_0, decode cX6_isIn q.1 = .ok (q.2.1, q.2.2) := by decide +kernel
def fX6_isIn_b15 (n : Nat) (s0 : Int32) (μ : ZMem) : Option (ZMem × Int32) := chk (b01 s0) (some (μ, s0))
theorem tX6_isIn_b15 {l : Launch} {fr : Bool} {n : Nat} {z : ZMem × Int32} (s0 : Int32) (μ : ZMem) (h : fX6_isIn_b15 n s0 μ = some z) : V (zkI l mX6_isIn (rmd 1) fr n z) fr 15 [] [.int s0] n μ := by
  unfold fX6_isIn_b15 at h
  obtain ⟨b1, h⟩ := chk_some h
  cases h
  exact V_zret (zdk tbX6_isIn_0_ok 9 rfl) rfl (b01_n b1) rfl
def fX6_isIn_b14 (n : Nat) (μ : ZMem) : Option (ZMem × Int32) := (fX6_isIn_b15 n (0 : Int32) μ)
theorem tX6_isIn_b14 {l : Launch} {fr : Bool} {n : Nat} {z : ZMem × Int32} (μ : ZMem) (h : fX6_isIn_b14 n μ = some z) : V (zkI l mX6_isIn (rmd 1) fr n z) fr 14 [] [] n μ := by
  unfold fX6_isIn_b14 at h
  refine V_iconst (v := 0) (zdk tbX6_isIn_0_ok 8 rfl) rfl ?_
  exact tX6_isIn_b15 (0 : Int32) μ  h
def fX6_isIn (n : Nat) (v0 : Int32) (v1 : Int32) (v2 : Int32) (μ : ZMem) : Option (ZMem × Int32) := (if v0 < v1 then (fX6_isIn_b14 n  μ) else (if v2 < v0 then (fX6_isIn_b14 n  μ) else (fX6_isIn_b15 n (1 : Int32) μ)))
theorem tX6_isIn {l : Launch} {fr : Bool} {n : Nat} {v0 : Int32} {v1 : Int32} {v2 : Int32} {μ : ZMem} {z : ZMem × Int32} (h : fX6_isIn n v0 v1 v2 μ = some z) : ZFn l mX6_isIn (rmd 1) [.int v0, .int v1, .int v2] fr n μ (fr, n, z.1, some (.int z.2)) := by
  unfold fX6_isIn at h
  refine ZFn.of (ls := [(0, .int v0), (1, .int v1), (2, .int v2)]) (by decide) (fun ξ => Nat.le_of_ble_eq_true rfl) (fun ξ => rfl) ?_
  refine V_iload_n 0 (zdk tbX6_isIn_0_ok 0 rfl) rfl ?_
  refine V_iload_n 1 (zdk tbX6_isIn_0_ok 1 rfl) rfl ?_
  refine V_icmp_lt (tgt := 14) (zdk tbX6_isIn_0_ok 2 rfl) (by decide) (fun c1 => ?_) (fun c1 => ?_)
  · replace h := ite_t h c1
    refine V_sub (ls' := []) [] rfl ?_
    exact tX6_isIn_b14  μ  h
  · replace h := ite_f h c1
    refine V_iload_n 0 (zdk tbX6_isIn_0_ok 3 rfl) rfl ?_
    refine V_iload_n 2 (zdk tbX6_isIn_0_ok 4 rfl) rfl ?_
    refine V_icmp_gt (tgt := 14) (zdk tbX6_isIn_0_ok 5 rfl) (by decide) (fun c2 => ?_) (fun c2 => ?_)
    · replace h := ite_t h c2
      refine V_sub (ls' := []) [] rfl ?_
      exact tX6_isIn_b14  μ  h
    · replace h := ite_f h c2
      refine V_iconst (v := 1) (zdk tbX6_isIn_0_ok 6 rfl) rfl ?_
      refine V_goto (tgt := 15) (zdk tbX6_isIn_0_ok 7 rfl) (by decide) ?_
      refine V_sub (ls' := []) [] rfl ?_
      exact tX6_isIn_b15 (1 : Int32) μ  h

-- WhoComplainsCarries.upward
def tbX6_upward_0 : List (Nat × Instr × Nat) := [(0, .iload_n 1, 1), (1, .iconst 1, 1), (2, .if_icmp .ge 7, 3), (5, .iload_n 0, 1), (6, .goto 10, 3), (9, .iload_n 0, 1), (10, .iload_n 1, 1), (11, .iadd, 1), (12, .iconst 1, 1), (13, .isub, 1), (14, .iload_n 1, 1), (15, .idiv, 1), (16, .ireturn, 1)]
theorem tbX6_upward_0_ok : ∀ q ∈ tbX6_upward_0, decode cX6_upward q.1 = .ok (q.2.1, q.2.2) := by decide +kernel
def fX6_upward_b16 (n : Nat) (s0 : Int32) (μ : ZMem) : Option (ZMem × Int32) := some (μ, s0)
theorem tX6_upward_b16 {l : Launch} {fr : Bool} {n : Nat} {z : ZMem × Int32} (s0 : Int32) (μ : ZMem) (h : fX6_upward_b16 n s0 μ = some z) : V (zkI l mX6_upward (rmd 1) fr n z) fr 16 [] [.int s0] n μ := by
  unfold fX6_upward_b16 at h
  cases h
  exact V_iret (zdk tbX6_upward_0_ok 12 rfl) rfl rfl
def fX6_upward (n : Nat) (v0 : Int32) (v1 : Int32) (μ : ZMem) : Option (ZMem × Int32) := (if (1 : Int32) ≤ v1 then chk (!decide (v1 = 0)) ((fX6_upward_b16 n (((v0 + v1) - (1 : Int32)) / v1) μ)) else (fX6_upward_b16 n v0 μ))
theorem tX6_upward {l : Launch} {fr : Bool} {n : Nat} {v0 : Int32} {v1 : Int32} {μ : ZMem} {z : ZMem × Int32} (h : fX6_upward n v0 v1 μ = some z) : ZFn l mX6_upward (rmd 1) [.int v0, .int v1] fr n μ (fr, n, z.1, some (.int z.2)) := by
  unfold fX6_upward at h
  refine ZFn.of (ls := [(0, .int v0), (1, .int v1)]) (by decide) (fun ξ => Nat.le_of_ble_eq_true rfl) (fun ξ => rfl) ?_
  refine V_iload_n 1 (zdk tbX6_upward_0_ok 0 rfl) rfl ?_
  refine V_iconst (v := 1) (zdk tbX6_upward_0_ok 1 rfl) rfl ?_
  refine V_icmp_ge (tgt := 9) (zdk tbX6_upward_0_ok 2 rfl) (by decide) (fun c1 => ?_) (fun c1 => ?_)
  · replace h := ite_t h c1
    refine V_iload_n 0 (zdk tbX6_upward_0_ok 5 rfl) rfl ?_
    refine V_iload_n 1 (zdk tbX6_upward_0_ok 6 rfl) rfl ?_
    refine V_iadd (zdk tbX6_upward_0_ok 7 rfl) ?_
    refine V_iconst (v := 1) (zdk tbX6_upward_0_ok 8 rfl) rfl ?_
    refine V_isub (zdk tbX6_upward_0_ok 9 rfl) ?_
    refine V_iload_n 1 (zdk tbX6_upward_0_ok 10 rfl) rfl ?_
    obtain ⟨d2, h⟩ := chk_some h
    refine V_idiv (zdk tbX6_upward_0_ok 11 rfl) (nz_of d2) ?_
    refine V_sub (ls' := []) [] rfl ?_
    exact tX6_upward_b16 (((v0 + v1) - (1 : Int32)) / v1) μ  h
  · replace h := ite_f h c1
    refine V_iload_n 0 (zdk tbX6_upward_0_ok 3 rfl) rfl ?_
    refine V_goto (tgt := 16) (zdk tbX6_upward_0_ok 4 rfl) (by decide) ?_
    refine V_sub (ls' := []) [] rfl ?_
    exact tX6_upward_b16 v0 μ  h

-- WhoComplainsCarries$Person.become
def tbX1_become_0 : List (Nat × Instr × Nat) := [(0, .aload_n 0, 1), (1, .iload_n 1, 1), (2, .putfield 15, 3), (5, .aload_n 0, 1), (6, .iload_n 2, 1), (7, .putfield 19, 3), (10, .aload_n 0, 1), (11, .iload_n 3, 1), (12, .putfield 22, 3), (15, .aload_n 0, 1), (16, .iload 4, 2), (18, .putfield 25, 3), (21, .aload_n 0, 1), (22, .iconst 0, 1), (23, .putfield 28, 3), (26, .return_, 1)]
theorem tbX1_become_0_ok : ∀ q ∈ tbX1_become_0, decode cX1_become q.1 = .ok (q.2.1, q.2.2) := by decide +kernel
theorem fF1_15 : zF RX1 15 1 0 := ⟨_, rfl, by decide, zin (i := 68) (by decide +kernel) rfl⟩
theorem fF1_19 : zF RX1 19 1 1 := ⟨_, rfl, by decide, zin (i := 71) (by decide +kernel) rfl⟩
theorem fF1_22 : zF RX1 22 1 2 := ⟨_, rfl, by decide, zin (i := 74) (by decide +kernel) rfl⟩
theorem fF1_25 : zF RX1 25 1 3 := ⟨_, rfl, by decide, zin (i := 77) (by decide +kernel) rfl⟩
theorem fF1_28 : zF RX1 28 1 4 := ⟨_, rfl, by decide, zin (i := 79) (by decide +kernel) rfl⟩
def fX1_become (n : Nat) (v0 : Nat) (v1 : Int32) (v2 : Int32) (v3 : Int32) (v4 : Int32) (μ : ZMem) : Option (ZMem) := chk (isC n 1 v0) (lt (zpI μ v0 0 v1) (fun μ1 => lt (zpI μ1 v0 1 v2) (fun μ3 => lt (zpI μ3 v0 2 v3) (fun μ5 => lt (zpI μ5 v0 3 v4) (fun μ7 => lt (zpI μ7 v0 4 (0 : Int32)) (fun μ9 => some μ9))))))
theorem tX1_become {l : Launch} {fr : Bool} {n : Nat} {v0 : Nat} {v1 : Int32} {v2 : Int32} {v3 : Int32} {v4 : Int32} {μ : ZMem} {z : ZMem} (h : fX1_become n v0 v1 v2 v3 v4 μ = some z) : ZFn l mX1_become (rmd 1) [.ref v0, .int v1, .int v2, .int v3, .int v4] fr n μ (fr, n, z, none) := by
  unfold fX1_become at h
  obtain ⟨c_v0, h⟩ := chk_some h
  refine ZFn.of (ls := [(0, .ref v0), (1, .int v1), (2, .int v2), (3, .int v3), (4, .int v4)]) (by decide) (fun ξ => Nat.le_of_ble_eq_true rfl) (fun ξ => rfl) ?_
  refine V_aload_n 0 (zdk tbX1_become_0_ok 0 rfl) rfl ?_
  refine V_iload_n 1 (zdk tbX1_become_0_ok 1 rfl) rfl ?_
  obtain ⟨μ1, e2, h⟩ := lt_some h
  refine V_putI (zdk tbX1_become_0_ok 2 rfl) c_v0 fF1_15 rfl rfl rfl e2 ?_
  refine V_aload_n 0 (zdk tbX1_become_0_ok 3 rfl) rfl ?_
  refine V_iload_n 2 (zdk tbX1_become_0_ok 4 rfl) rfl ?_
  obtain ⟨μ3, e4, h⟩ := lt_some h
  refine V_putI (zdk tbX1_become_0_ok 5 rfl) c_v0 fF1_19 rfl rfl rfl e4 ?_
  refine V_aload_n 0 (zdk tbX1_become_0_ok 6 rfl) rfl ?_
  refine V_iload_n 3 (zdk tbX1_become_0_ok 7 rfl) rfl ?_
  obtain ⟨μ5, e6, h⟩ := lt_some h
  refine V_putI (zdk tbX1_become_0_ok 8 rfl) c_v0 fF1_22 rfl rfl rfl e6 ?_
  refine V_aload_n 0 (zdk tbX1_become_0_ok 9 rfl) rfl ?_
  refine V_iload 4 (zdk tbX1_become_0_ok 10 rfl) rfl ?_
  obtain ⟨μ7, e8, h⟩ := lt_some h
  refine V_putI (zdk tbX1_become_0_ok 11 rfl) c_v0 fF1_25 rfl rfl rfl e8 ?_
  refine V_aload_n 0 (zdk tbX1_become_0_ok 12 rfl) rfl ?_
  refine V_iconst (v := 0) (zdk tbX1_become_0_ok 13 rfl) rfl ?_
  obtain ⟨μ9, e10, h⟩ := lt_some h
  refine V_putI (zdk tbX1_become_0_ok 14 rfl) c_v0 fF1_28 rfl rfl rfl e10 ?_
  cases h
  exact V_vret (zdk tbX1_become_0_ok 15 rfl) rfl rfl

-- WhoComplainsCarries$Person.load
def tbX1_load_0 : List (Nat × Instr × Nat) := [(0, .aload_n 0, 1), (1, .aload_n 1, 1), (2, .getfield 15, 3), (5, .putfield 15, 3), (8, .aload_n 0, 1), (9, .aload_n 1, 1), (10, .getfield 19, 3), (13, .putfield 19, 3), (16, .aload_n 0, 1), (17, .aload_n 1, 1), (18, .getfield 22, 3), (21, .putfield 22, 3), (24, .aload_n 0, 1), (25, .aload_n 1, 1), (26, .getfield 25, 3), (29, .putfield 25, 3), (32, .aload_n 0, 1), (33, .aload_n 1, 1), (34, .getfield 28, 3), (37, .putfield 28, 3), (40, .return_, 1)]
theorem tbX1_load_0_ok : ∀ q ∈ tbX1_load_0, decode cX1_load q.1 = .ok (q.2.1, q.2.2) := by decide +kernel
def fX1_load (n : Nat) (v0 : Nat) (v1 : Nat) (μ : ZMem) : Option (ZMem) := chk (isC n 1 v0) (chk (isC n 1 v1) (lt (zpI μ v0 0 (zI μ v1 0)) (fun μ1 => lt (zpI μ1 v0 1 (zI μ1 v1 1)) (fun μ3 => lt (zpI μ3 v0 2 (zI μ3 v1 2)) (fun μ5 => lt (zpI μ5 v0 3 (zI μ5 v1 3)) (fun μ7 => lt (zpI μ7 v0 4 (zI μ7 v1 4)) (fun μ9 => some μ9)))))))
theorem tX1_load {l : Launch} {fr : Bool} {n : Nat} {v0 : Nat} {v1 : Nat} {μ : ZMem} {z : ZMem} (h : fX1_load n v0 v1 μ = some z) : ZFn l mX1_load (rmd 1) [.ref v0, .ref v1] fr n μ (fr, n, z, none) := by
  unfold fX1_load at h
  obtain ⟨c_v0, h⟩ := chk_some h
  obtain ⟨c_v1, h⟩ := chk_some h
  refine ZFn.of (ls := [(0, .ref v0), (1, .ref v1)]) (by decide) (fun ξ => Nat.le_of_ble_eq_true rfl) (fun ξ => rfl) ?_
  refine V_aload_n 0 (zdk tbX1_load_0_ok 0 rfl) rfl ?_
  refine V_aload_n 1 (zdk tbX1_load_0_ok 1 rfl) rfl ?_
  refine V_getI (zdk tbX1_load_0_ok 2 rfl) c_v1 fF1_15 rfl ?_
  obtain ⟨μ1, e2, h⟩ := lt_some h
  refine V_putI (zdk tbX1_load_0_ok 3 rfl) c_v0 fF1_15 rfl rfl rfl e2 ?_
  refine V_aload_n 0 (zdk tbX1_load_0_ok 4 rfl) rfl ?_
  refine V_aload_n 1 (zdk tbX1_load_0_ok 5 rfl) rfl ?_
  refine V_getI (zdk tbX1_load_0_ok 6 rfl) c_v1 fF1_19 rfl ?_
  obtain ⟨μ3, e4, h⟩ := lt_some h
  refine V_putI (zdk tbX1_load_0_ok 7 rfl) c_v0 fF1_19 rfl rfl rfl e4 ?_
  refine V_aload_n 0 (zdk tbX1_load_0_ok 8 rfl) rfl ?_
  refine V_aload_n 1 (zdk tbX1_load_0_ok 9 rfl) rfl ?_
  refine V_getI (zdk tbX1_load_0_ok 10 rfl) c_v1 fF1_22 rfl ?_
  obtain ⟨μ5, e6, h⟩ := lt_some h
  refine V_putI (zdk tbX1_load_0_ok 11 rfl) c_v0 fF1_22 rfl rfl rfl e6 ?_
  refine V_aload_n 0 (zdk tbX1_load_0_ok 12 rfl) rfl ?_
  refine V_aload_n 1 (zdk tbX1_load_0_ok 13 rfl) rfl ?_
  refine V_getI (zdk tbX1_load_0_ok 14 rfl) c_v1 fF1_25 rfl ?_
  obtain ⟨μ7, e8, h⟩ := lt_some h
  refine V_putI (zdk tbX1_load_0_ok 15 rfl) c_v0 fF1_25 rfl rfl rfl e8 ?_
  refine V_aload_n 0 (zdk tbX1_load_0_ok 16 rfl) rfl ?_
  refine V_aload_n 1 (zdk tbX1_load_0_ok 17 rfl) rfl ?_
  refine V_getI (zdk tbX1_load_0_ok 18 rfl) c_v1 fF1_28 rfl ?_
  obtain ⟨μ9, e10, h⟩ := lt_some h
  refine V_putI (zdk tbX1_load_0_ok 19 rfl) c_v0 fF1_28 rfl rfl rfl e10 ?_
  cases h
  exact V_vret (zdk tbX1_load_0_ok 20 rfl) rfl rfl

-- WhoComplainsCarries$Person.pace
def tbX1_pace_0 : List (Nat × Instr × Nat) := [(0, .iload_n 1, 1), (1, .iconst 1, 1), (2, .if_icmp .ge 8, 3), (5, .bipush 9, 2), (7, .goto 20, 3), (10, .iconst 1, 1), (11, .bipush 9, 2), (13, .iconst 4, 1), (14, .aload_n 0, 1), (15, .getfield 22, 3), (18, .imul, 1), (19, .iload_n 1, 1), (20, .idiv, 1), (21, .invokestatic 31, 3), (24, .invokestatic 37, 3), (27, .istore_n 2, 1), (28, .aload_n 0, 1), (29, .getfield 15, 3), (32, .iconst 4, 1), (33, .if_icmp .eq 12, 3), (36, .aload_n 0, 1), (37, .getfield 15, 3), (40, .bipush 6, 2), (42, .if_icmp .ne 7, 3), (45, .iconst 1, 1), (46, .goto 4, 3), (49, .iconst 0, 1), (50, .istore_n 3, 1), (51, .iload_n 3, 1), (52, .ifCond .eq 13, 3), (55, .iconst 1, 1), (56, .iload_n 2, 1), (57, .iconst 1, 1), (58, .isub, 1), (59, .invokestatic 37, 3), (62, .goto 4, 3), (65, .iload_n 2, 1), (66, .ireturn, 1)]
theorem tbX1_pace_0_ok : ∀ q ∈ tbX1_pace_0, decode cX1_pace q.1 = .ok (q.2.1, q.2.2) := by decide +kernel
theorem wM1_37 : Cond.methodLink RX1 37 Lib.Math.max.name ∈ zT := zin (i := 376) (by decide +kernel) rfl
theorem wMs_max : Cond.static Lib.Math.max.name ∈ zT := zin (i := 265) (by decide +kernel) rfl
theorem wMi : Cond.initialized "java/lang/Math" ∈ zT := zin (i := 9) (by decide +kernel) rfl
theorem wMc_max : Cond.code Lib.Math.max.name Lib.Math.max.code 2 (some .int) ∈ zT := zin (i := 266) (by decide +kernel) rfl
theorem wM1_31 : Cond.methodLink RX1 31 Lib.Math.min.name ∈ zT := zin (i := 375) (by decide +kernel) rfl
theorem wMs_min : Cond.static Lib.Math.min.name ∈ zT := zin (i := 262) (by decide +kernel) rfl
theorem wMc_min : Cond.code Lib.Math.min.name Lib.Math.min.code 2 (some .int) ∈ zT := zin (i := 263) (by decide +kernel) rfl
def fX1_pace_b66 (n : Nat) (s0 : Int32) (μ : ZMem) : Option (ZMem × Int32) := some (μ, s0)
theorem tX1_pace_b66 {l : Launch} {fr : Bool} {n : Nat} {z : ZMem × Int32} (s0 : Int32) (μ : ZMem) (h : fX1_pace_b66 n s0 μ = some z) : V (zkI l mX1_pace (rmd 1) fr n z) fr 66 [] [.int s0] n μ := by
  unfold fX1_pace_b66 at h
  cases h
  exact V_iret (zdk tbX1_pace_0_ok 37 rfl) rfl rfl
def fX1_pace_b50 (n : Nat) (v2 : Int32) (s0 : Int32) (μ : ZMem) : Option (ZMem × Int32) := (if s0 = 0 then (fX1_pace_b66 n v2 μ) else (fX1_pace_b66 n (if (1 : Int32) < (v2 - (1 : Int32)) then (v2 - (1 : Int32)) else (1 : Int32)) μ))
theorem tX1_pace_b50 {l : Launch} {fr : Bool} {n : Nat} {z : ZMem × Int32} (v2 : Int32) (s0 : Int32) (μ : ZMem) (h : fX1_pace_b50 n v2 s0 μ = some z) : V (zkI l mX1_pace (rmd 1) fr n z) fr 50 [(2, .int v2)] [.int s0] n μ := by
  unfold fX1_pace_b50 at h
  refine V_istore_n (ls' := [(2, .int v2), (3, .int s0)]) [1, 0] (zdk tbX1_pace_0_ok 27 rfl) (Nat.le_of_ble_eq_true rfl) rfl ?_
  refine V_iload_n 1 (zdk tbX1_pace_0_ok 28 rfl) rfl ?_
  refine V_if_eq (tgt := 65) (zdk tbX1_pace_0_ok 29 rfl) (by decide) (fun c1 => ?_) (fun c1 => ?_)
  · replace h := ite_t h c1
    refine V_iload_n 0 (zdk tbX1_pace_0_ok 36 rfl) rfl ?_
    refine V_sub (ls' := []) [] rfl ?_
    exact tX1_pace_b66 v2 μ  h
  · replace h := ite_f h c1
    refine V_iconst (v := 1) (zdk tbX1_pace_0_ok 30 rfl) rfl ?_
    refine V_iload_n 0 (zdk tbX1_pace_0_ok 31 rfl) rfl ?_
    refine V_iconst (v := 1) (zdk tbX1_pace_0_ok 32 rfl) rfl ?_
    refine V_isub (zdk tbX1_pace_0_ok 33 rfl) ?_
    refine V_max (zdk tbX1_pace_0_ok 34 rfl) wM1_37 wMs_max wMi wMc_max ⟨Nat.le_of_ble_eq_true rfl, Nat.le_of_ble_eq_true rfl⟩ (Nat.le_of_ble_eq_true rfl) ?_
    refine V_goto (tgt := 66) (zdk tbX1_pace_0_ok 35 rfl) (by decide) ?_
    refine V_sub (ls' := []) [] rfl ?_
    exact tX1_pace_b66 (if (1 : Int32) < (v2 - (1 : Int32)) then (v2 - (1 : Int32)) else (1 : Int32)) μ  h
def fX1_pace_b45 (n : Nat) (v2 : Int32) (μ : ZMem) : Option (ZMem × Int32) := (fX1_pace_b50 n v2 (1 : Int32) μ)
theorem tX1_pace_b45 {l : Launch} {fr : Bool} {n : Nat} {z : ZMem × Int32} (v2 : Int32) (μ : ZMem) (h : fX1_pace_b45 n v2 μ = some z) : V (zkI l mX1_pace (rmd 1) fr n z) fr 45 [(2, .int v2)] [] n μ := by
  unfold fX1_pace_b45 at h
  refine V_iconst (v := 1) (zdk tbX1_pace_0_ok 24 rfl) rfl ?_
  refine V_goto (tgt := 50) (zdk tbX1_pace_0_ok 25 rfl) (by decide) ?_
  exact tX1_pace_b50 v2 (1 : Int32) μ  h
def fX1_pace_b27 (n : Nat) (v0 : Nat) (s0 : Int32) (μ : ZMem) : Option (ZMem × Int32) := (if (zI μ v0 0) = (4 : Int32) then (fX1_pace_b45 n s0 μ) else (if (zI μ v0 0) = (6 : Int32) then (fX1_pace_b45 n s0 μ) else (fX1_pace_b50 n s0 (0 : Int32) μ)))
theorem tX1_pace_b27 {l : Launch} {fr : Bool} {n : Nat} {z : ZMem × Int32} (v0 : Nat) (s0 : Int32) (μ : ZMem) (c_v0 : isC n 1 v0 = true) (h : fX1_pace_b27 n v0 s0 μ = some z) : V (zkI l mX1_pace (rmd 1) fr n z) fr 27 [(0, .ref v0)] [.int s0] n μ := by
  unfold fX1_pace_b27 at h
  refine V_istore_n (ls' := [(0, .ref v0), (2, .int s0)]) [1, 0] (zdk tbX1_pace_0_ok 15 rfl) (Nat.le_of_ble_eq_true rfl) rfl ?_
  refine V_aload_n 0 (zdk tbX1_pace_0_ok 16 rfl) rfl ?_
  refine V_getI (zdk tbX1_pace_0_ok 17 rfl) c_v0 fF1_15 rfl ?_
  refine V_iconst (v := 4) (zdk tbX1_pace_0_ok 18 rfl) rfl ?_
  refine V_icmp_eq (tgt := 45) (zdk tbX1_pace_0_ok 19 rfl) (by decide) (fun c1 => ?_) (fun c1 => ?_)
  · replace h := ite_t h c1
    refine V_sub (ls' := [(2, .int s0)]) [1] rfl ?_
    exact tX1_pace_b45 s0 μ  h
  · replace h := ite_f h c1
    refine V_aload_n 0 (zdk tbX1_pace_0_ok 20 rfl) rfl ?_
    refine V_getI (zdk tbX1_pace_0_ok 21 rfl) c_v0 fF1_15 rfl ?_
    refine V_bipush (v := 6) (zdk tbX1_pace_0_ok 22 rfl) rfl ?_
    refine V_icmp_ne (tgt := 49) (zdk tbX1_pace_0_ok 23 rfl) (by decide) (fun c2 => ?_) (fun c2 => ?_)
    · replace h := ite_f h c2
      refine V_iconst (v := 0) (zdk tbX1_pace_0_ok 26 rfl) rfl ?_
      refine V_sub (ls' := [(2, .int s0)]) [1] rfl ?_
      exact tX1_pace_b50 s0 (0 : Int32) μ  h
    · replace h := ite_t h c2
      refine V_sub (ls' := [(2, .int s0)]) [1] rfl ?_
      exact tX1_pace_b45 s0 μ  h
def fX1_pace (n : Nat) (v0 : Nat) (v1 : Int32) (μ : ZMem) : Option (ZMem × Int32) := chk (isC n 1 v0) ((if (1 : Int32) ≤ v1 then chk (!decide (v1 = 0)) ((fX1_pace_b27 n v0 (if (1 : Int32) < (if (((4 : Int32) * (zI μ v0 2)) / v1) < (9 : Int32) then (((4 : Int32) * (zI μ v0 2)) / v1) else (9 : Int32)) then (if (((4 : Int32) * (zI μ v0 2)) / v1) < (9 : Int32) then (((4 : Int32) * (zI μ v0 2)) / v1) else (9 : Int32)) else (1 : Int32)) μ)) else (fX1_pace_b27 n v0 (9 : Int32) μ)))
theorem tX1_pace {l : Launch} {fr : Bool} {n : Nat} {v0 : Nat} {v1 : Int32} {μ : ZMem} {z : ZMem × Int32} (h : fX1_pace n v0 v1 μ = some z) : ZFn l mX1_pace (rmd 1) [.ref v0, .int v1] fr n μ (fr, n, z.1, some (.int z.2)) := by
  unfold fX1_pace at h
  obtain ⟨c_v0, h⟩ := chk_some h
  refine ZFn.of (ls := [(0, .ref v0), (1, .int v1)]) (by decide) (fun ξ => Nat.le_of_ble_eq_true rfl) (fun ξ => rfl) ?_
  refine V_iload_n 1 (zdk tbX1_pace_0_ok 0 rfl) rfl ?_
  refine V_iconst (v := 1) (zdk tbX1_pace_0_ok 1 rfl) rfl ?_
  refine V_icmp_ge (tgt := 10) (zdk tbX1_pace_0_ok 2 rfl) (by decide) (fun c1 => ?_) (fun c1 => ?_)
  · replace h := ite_t h c1
    refine V_iconst (v := 1) (zdk tbX1_pace_0_ok 5 rfl) rfl ?_
    refine V_bipush (v := 9) (zdk tbX1_pace_0_ok 6 rfl) rfl ?_
    refine V_iconst (v := 4) (zdk tbX1_pace_0_ok 7 rfl) rfl ?_
    refine V_aload_n 0 (zdk tbX1_pace_0_ok 8 rfl) rfl ?_
    refine V_getI (zdk tbX1_pace_0_ok 9 rfl) c_v0 fF1_22 rfl ?_
    refine V_imul (zdk tbX1_pace_0_ok 10 rfl) ?_
    refine V_iload_n 1 (zdk tbX1_pace_0_ok 11 rfl) rfl ?_
    obtain ⟨d2, h⟩ := chk_some h
    refine V_idiv (zdk tbX1_pace_0_ok 12 rfl) (nz_of d2) ?_
    refine V_min (zdk tbX1_pace_0_ok 13 rfl) wM1_31 wMs_min wMi wMc_min ⟨Nat.le_of_ble_eq_true rfl, Nat.le_of_ble_eq_true rfl⟩ (Nat.le_of_ble_eq_true rfl) ?_
    refine V_max (zdk tbX1_pace_0_ok 14 rfl) wM1_37 wMs_max wMi wMc_max ⟨Nat.le_of_ble_eq_true rfl, Nat.le_of_ble_eq_true rfl⟩ (Nat.le_of_ble_eq_true rfl) ?_
    refine V_sub (ls' := [(0, .ref v0)]) [0] rfl ?_
    exact tX1_pace_b27 v0 (if (1 : Int32) < (if (((4 : Int32) * (zI μ v0 2)) / v1) < (9 : Int32) then (((4 : Int32) * (zI μ v0 2)) / v1) else (9 : Int32)) then (if (((4 : Int32) * (zI μ v0 2)) / v1) < (9 : Int32) then (((4 : Int32) * (zI μ v0 2)) / v1) else (9 : Int32)) else (1 : Int32)) μ c_v0 h
  · replace h := ite_f h c1
    refine V_bipush (v := 9) (zdk tbX1_pace_0_ok 3 rfl) rfl ?_
    refine V_goto (tgt := 27) (zdk tbX1_pace_0_ok 4 rfl) (by decide) ?_
    refine V_sub (ls' := [(0, .ref v0)]) [0] rfl ?_
    exact tX1_pace_b27 v0 (9 : Int32) μ c_v0 h

-- WhoComplainsCarries$Person.toil
def tbX1_toil_0 : List (Nat × Instr × Nat) := [(0, .iload_n 1, 1), (1, .aload_n 0, 1), (2, .getfield 22, 3), (5, .invokestatic 40, 3), (8, .istore_n 2, 1), (9, .aload_n 0, 1), (10, .getfield 15, 3), (13, .tableswitch 44 2 5 #[31, 37, 44, 31], 31), (44, .iload_n 2, 1), (45, .iconst 2, 1), (46, .invokestatic 40, 3), (49, .ireturn, 1), (50, .iload_n 2, 1), (51, .aload_n 0, 1), (52, .getfield 19, 3), (55, .iadd, 1), (56, .ireturn, 1), (57, .iload_n 2, 1), (58, .ireturn, 1)]
theorem tbX1_toil_0_ok : ∀ q ∈ tbX1_toil_0, decode cX1_toil q.1 = .ok (q.2.1, q.2.2) := by decide +kernel
theorem wCX6_upward : zCW mX6_upward 2 := ⟨zin (i := 1) (by decide +kernel) rfl, zin (i := 370) (by decide +kernel) rfl, by decide +kernel, by decide +kernel, by decide +kernel⟩
theorem sC1_40 : zCN RX1 40 mX6_upward 2 := ⟨by decide +kernel, zin (i := 369) (by decide +kernel) rfl, wCX6_upward⟩
def fX1_toil_b44 (n : Nat) (v2 : Int32) (μ : ZMem) : Option (ZMem × Int32) := bd2 (fX6_upward n v2 (2 : Int32) μ) (fun μ2 r3 => some (μ2, r3))
theorem tX1_toil_b44 {l : Launch} {fr : Bool} {n : Nat} {z : ZMem × Int32} (v2 : Int32) (μ : ZMem) (h : fX1_toil_b44 n v2 μ = some z) : V (zkI l mX1_toil (rmd 2) fr n z) fr 44 [(2, .int v2)] [] n μ := by
  unfold fX1_toil_b44 at h
  refine V_iload_n 0 (zdk tbX1_toil_0_ok 8 rfl) rfl ?_
  refine V_iconst (v := 2) (zdk tbX1_toil_0_ok 9 rfl) rfl ?_
  obtain ⟨μ2, r3, q1, h⟩ := bd2_some h
  refine V_callN (R1 := (rmd 1)) (As := [.int v2, .int (2 : Int32)]) (r := (some (.int r3))) (zdk tbX1_toil_0_ok 10 rfl) sC1_40 (tX6_upward q1) rfl rfl ⟨Nat.le_of_ble_eq_true rfl, Nat.le_of_ble_eq_true rfl⟩ (Nat.le_of_ble_eq_true rfl) ⟨rfl, rfl⟩ id ?_
  cases h
  exact V_iret (zdk tbX1_toil_0_ok 11 rfl) rfl rfl
def fX1_toil_b57 (n : Nat) (v2 : Int32) (μ : ZMem) : Option (ZMem × Int32) := some (μ, v2)
theorem tX1_toil_b57 {l : Launch} {fr : Bool} {n : Nat} {z : ZMem × Int32} (v2 : Int32) (μ : ZMem) (h : fX1_toil_b57 n v2 μ = some z) : V (zkI l mX1_toil (rmd 2) fr n z) fr 57 [(2, .int v2)] [] n μ := by
  unfold fX1_toil_b57 at h
  refine V_iload_n 0 (zdk tbX1_toil_0_ok 17 rfl) rfl ?_
  cases h
  exact V_iret (zdk tbX1_toil_0_ok 18 rfl) rfl rfl
def fX1_toil (n : Nat) (v0 : Nat) (v1 : Int32) (μ : ZMem) : Option (ZMem × Int32) := chk (isC n 1 v0) (bd2 (fX6_upward n v1 (zI μ v0 2) μ) (fun μ2 r3 => (if (zI μ2 v0 0) = (2 : Int32) then (fX1_toil_b44 n r3 μ2) else (if (zI μ2 v0 0) = (3 : Int32) then some (μ2, (r3 + (zI μ2 v0 1))) else (if (zI μ2 v0 0) = (4 : Int32) then (fX1_toil_b57 n r3 μ2) else (if (zI μ2 v0 0) = (5 : Int32) then (fX1_toil_b44 n r3 μ2) else (fX1_toil_b57 n r3 μ2)))))))
theorem tX1_toil {l : Launch} {fr : Bool} {n : Nat} {v0 : Nat} {v1 : Int32} {μ : ZMem} {z : ZMem × Int32} (h : fX1_toil n v0 v1 μ = some z) : ZFn l mX1_toil (rmd 2) [.ref v0, .int v1] fr n μ (fr, n, z.1, some (.int z.2)) := by
  unfold fX1_toil at h
  obtain ⟨c_v0, h⟩ := chk_some h
  refine ZFn.of (ls := [(0, .ref v0), (1, .int v1)]) (by decide) (fun ξ => Nat.le_of_ble_eq_true rfl) (fun ξ => rfl) ?_
  refine V_iload_n 1 (zdk tbX1_toil_0_ok 0 rfl) rfl ?_
  refine V_aload_n 0 (zdk tbX1_toil_0_ok 1 rfl) rfl ?_
  refine V_getI (zdk tbX1_toil_0_ok 2 rfl) c_v0 fF1_22 rfl ?_
  obtain ⟨μ2, r3, q1, h⟩ := bd2_some h
  refine V_callN (R1 := (rmd 1)) (As := [.int v1, .int (zI μ v0 2)]) (r := (some (.int r3))) (zdk tbX1_toil_0_ok 3 rfl) sC1_40 (tX6_upward q1) rfl rfl ⟨Nat.le_of_ble_eq_true rfl, Nat.le_of_ble_eq_true rfl⟩ (Nat.le_of_ble_eq_true rfl) ⟨rfl, rfl⟩ id ?_
  refine V_istore_n (ls' := [(0, .ref v0), (2, .int r3)]) [1, 0] (zdk tbX1_toil_0_ok 4 rfl) (Nat.le_of_ble_eq_true rfl) rfl ?_
  refine V_aload_n 0 (zdk tbX1_toil_0_ok 5 rfl) rfl ?_
  refine V_getI (zdk tbX1_toil_0_ok 6 rfl) c_v0 fF1_15 rfl ?_
  by_cases c4 : (zI μ2 v0 0) = (2 : Int32)
  · replace h := ite_t h c4
    refine V_tsw (off := 31) (tgt := 44) 2 c4 (zdk tbX1_toil_0_ok 7 rfl) (by decide) rfl (by decide) ?_
    refine V_sub (ls' := [(2, .int r3)]) [1] rfl ?_
    exact tX1_toil_b44 r3 μ2  h
  · replace h := ite_f h c4
    by_cases c5 : (zI μ2 v0 0) = (3 : Int32)
    · replace h := ite_t h c5
      refine V_tsw (off := 37) (tgt := 50) 3 c5 (zdk tbX1_toil_0_ok 7 rfl) (by decide) rfl (by decide) ?_
      refine V_iload_n 1 (zdk tbX1_toil_0_ok 12 rfl) rfl ?_
      refine V_aload_n 0 (zdk tbX1_toil_0_ok 13 rfl) rfl ?_
      refine V_getI (zdk tbX1_toil_0_ok 14 rfl) c_v0 fF1_19 rfl ?_
      refine V_iadd (zdk tbX1_toil_0_ok 15 rfl) ?_
      cases h
      exact V_iret (zdk tbX1_toil_0_ok 16 rfl) rfl rfl
    · replace h := ite_f h c5
      by_cases c6 : (zI μ2 v0 0) = (4 : Int32)
      · replace h := ite_t h c6
        refine V_tsw (off := 44) (tgt := 57) 4 c6 (zdk tbX1_toil_0_ok 7 rfl) (by decide) rfl (by decide) ?_
        refine V_sub (ls' := [(2, .int r3)]) [1] rfl ?_
        exact tX1_toil_b57 r3 μ2  h
      · replace h := ite_f h c6
        by_cases c7 : (zI μ2 v0 0) = (5 : Int32)
        · replace h := ite_t h c7
          refine V_tsw (off := 31) (tgt := 44) 5 c7 (zdk tbX1_toil_0_ok 7 rfl) (by decide) rfl (by decide) ?_
          refine V_sub (ls' := [(2, .int r3)]) [1] rfl ?_
          exact tX1_toil_b44 r3 μ2  h
        · replace h := ite_f h c7
          refine V_tsw0 (tgt := 57) [2, 3, 4, 5] (List.forall_mem_cons.mpr ⟨c4, List.forall_mem_cons.mpr ⟨c5, List.forall_mem_cons.mpr ⟨c6, List.forall_mem_cons.mpr ⟨c7, fun _ h => absurd h List.not_mem_nil⟩⟩⟩⟩) (zdk tbX1_toil_0_ok 7 rfl) (by decide) (by decide) (by decide) ?_
          refine V_sub (ls' := [(2, .int r3)]) [1] rfl ?_
          exact tX1_toil_b57 r3 μ2  h

-- WhoComplainsCarries$Person.limit
def tbX1_limit_0 : List (Nat × Instr × Nat) := [(0, .aload_n 0, 1), (1, .getfield 15, 3), (4, .lookupswitch 53 #[(1, 36), (3, 36), (6, 43)], 36), (40, .iconst 2, 1), (41, .aload_n 0, 1), (42, .getfield 25, 3), (45, .imul, 1), (46, .ireturn, 1), (47, .aload_n 0, 1), (48, .getfield 25, 3), (51, .aload_n 0, 1), (52, .getfield 19, 3), (55, .iadd, 1), (56, .ireturn, 1), (57, .aload_n 0, 1), (58, .getfield 25, 3), (61, .ireturn, 1)]
theorem tbX1_limit_0_ok : ∀ q ∈ tbX1_limit_0, decode cX1_limit q.1 = .ok (q.2.1, q.2.2) := by decide +kernel
def fX1_limit_b40 (n : Nat) (v0 : Nat) (μ : ZMem) : Option (ZMem × Int32) := some (μ, ((2 : Int32) * (zI μ v0 3)))
theorem tX1_limit_b40 {l : Launch} {fr : Bool} {n : Nat} {z : ZMem × Int32} (v0 : Nat) (μ : ZMem) (c_v0 : isC n 1 v0 = true) (h : fX1_limit_b40 n v0 μ = some z) : V (zkI l mX1_limit (rmd 1) fr n z) fr 40 [(0, .ref v0)] [] n μ := by
  unfold fX1_limit_b40 at h
  refine V_iconst (v := 2) (zdk tbX1_limit_0_ok 3 rfl) rfl ?_
  refine V_aload_n 0 (zdk tbX1_limit_0_ok 4 rfl) rfl ?_
  refine V_getI (zdk tbX1_limit_0_ok 5 rfl) c_v0 fF1_25 rfl ?_
  refine V_imul (zdk tbX1_limit_0_ok 6 rfl) ?_
  cases h
  exact V_iret (zdk tbX1_limit_0_ok 7 rfl) rfl rfl
def fX1_limit (n : Nat) (v0 : Nat) (μ : ZMem) : Option (ZMem × Int32) := chk (isC n 1 v0) ((if (zI μ v0 0) = (1 : Int32) then (fX1_limit_b40 n v0 μ) else (if (zI μ v0 0) = (3 : Int32) then (fX1_limit_b40 n v0 μ) else (if (zI μ v0 0) = (6 : Int32) then some (μ, ((zI μ v0 3) + (zI μ v0 1))) else some (μ, (zI μ v0 3))))))
theorem tX1_limit {l : Launch} {fr : Bool} {n : Nat} {v0 : Nat} {μ : ZMem} {z : ZMem × Int32} (h : fX1_limit n v0 μ = some z) : ZFn l mX1_limit (rmd 1) [.ref v0] fr n μ (fr, n, z.1, some (.int z.2)) := by
  unfold fX1_limit at h
  obtain ⟨c_v0, h⟩ := chk_some h
  refine ZFn.of (ls := [(0, .ref v0)]) (by decide) (fun ξ => Nat.le_of_ble_eq_true rfl) (fun ξ => rfl) ?_
  refine V_aload_n 0 (zdk tbX1_limit_0_ok 0 rfl) rfl ?_
  refine V_getI (zdk tbX1_limit_0_ok 1 rfl) c_v0 fF1_15 rfl ?_
  by_cases c1 : (zI μ v0 0) = (1 : Int32)
  · replace h := ite_t h c1
    refine V_lsw (off := 36) (tgt := 40) 1 c1 (zdk tbX1_limit_0_ok 2 rfl) (by decide) (by decide) (by decide) ?_
    exact tX1_limit_b40 v0 μ c_v0 h
  · replace h := ite_f h c1
    by_cases c2 : (zI μ v0 0) = (3 : Int32)
    · replace h := ite_t h c2
      refine V_lsw (off := 36) (tgt := 40) 3 c2 (zdk tbX1_limit_0_ok 2 rfl) (by decide) (by decide) (by decide) ?_
      exact tX1_limit_b40 v0 μ c_v0 h
    · replace h := ite_f h c2
      by_cases c3 : (zI μ v0 0) = (6 : Int32)
      · replace h := ite_t h c3
        refine V_lsw (off := 43) (tgt := 47) 6 c3 (zdk tbX1_limit_0_ok 2 rfl) (by decide) (by decide) (by decide) ?_
        refine V_aload_n 0 (zdk tbX1_limit_0_ok 8 rfl) rfl ?_
        refine V_getI (zdk tbX1_limit_0_ok 9 rfl) c_v0 fF1_25 rfl ?_
        refine V_aload_n 0 (zdk tbX1_limit_0_ok 10 rfl) rfl ?_
        refine V_getI (zdk tbX1_limit_0_ok 11 rfl) c_v0 fF1_19 rfl ?_
        refine V_iadd (zdk tbX1_limit_0_ok 12 rfl) ?_
        cases h
        exact V_iret (zdk tbX1_limit_0_ok 13 rfl) rfl rfl
      · replace h := ite_f h c3
        refine V_lsw0 (tgt := 57) [1, 3, 6] (List.forall_mem_cons.mpr ⟨c1, List.forall_mem_cons.mpr ⟨c2, List.forall_mem_cons.mpr ⟨c3, fun _ h => absurd h List.not_mem_nil⟩⟩⟩) (zdk tbX1_limit_0_ok 2 rfl) (by decide) (by decide) (by decide) ?_
        refine V_aload_n 0 (zdk tbX1_limit_0_ok 14 rfl) rfl ?_
        refine V_getI (zdk tbX1_limit_0_ok 15 rfl) c_v0 fF1_25 rfl ?_
        cases h
        exact V_iret (zdk tbX1_limit_0_ok 16 rfl) rfl rfl

-- WhoComplainsCarries$Person.isSighing
def tbX1_isSighing_0 : List (Nat × Instr × Nat) := [(0, .aload_n 0, 1), (1, .getfield 15, 3), (4, .iconst 5, 1), (5, .if_icmp .eq 18, 3), (8, .aload_n 0, 1), (9, .getfield 28, 3), (12, .aload_n 0, 1), (13, .invokevirtual 43, 3), (16, .if_icmp .le 7, 3), (19, .iconst 1, 1), (20, .goto 4, 3), (23, .iconst 0, 1), (24, .ireturn, 1)]
theorem tbX1_isSighing_0_ok : ∀ q ∈ tbX1_isSighing_0, decode cX1_isSighing q.1 = .ok (q.2.1, q.2.2) := by decide +kernel
theorem wCX1_limit : zCW mX1_limit 0 := ⟨zin (i := 4) (by decide +kernel) rfl, zin (i := 363) (by decide +kernel) rfl, by decide +kernel, by decide +kernel, by decide +kernel⟩
theorem sC1_43 : zCV RX1 43 mX1_limit 0 := ⟨zin (i := 550) (by decide +kernel) rfl, zin (i := 361) (by decide +kernel) rfl, zin (i := 362) (by decide +kernel) rfl, wCX1_limit⟩
def fX1_isSighing_b24 (n : Nat) (s0 : Int32) (μ : ZMem) : Option (ZMem × Int32) := chk (b01 s0) (some (μ, s0))
theorem tX1_isSighing_b24 {l : Launch} {fr : Bool} {n : Nat} {z : ZMem × Int32} (s0 : Int32) (μ : ZMem) (h : fX1_isSighing_b24 n s0 μ = some z) : V (zkI l mX1_isSighing (rmd 2) fr n z) fr 24 [] [.int s0] n μ := by
  unfold fX1_isSighing_b24 at h
  obtain ⟨b1, h⟩ := chk_some h
  cases h
  exact V_zret (zdk tbX1_isSighing_0_ok 12 rfl) rfl (b01_n b1) rfl
def fX1_isSighing_b23 (n : Nat) (μ : ZMem) : Option (ZMem × Int32) := (fX1_isSighing_b24 n (0 : Int32) μ)
theorem tX1_isSighing_b23 {l : Launch} {fr : Bool} {n : Nat} {z : ZMem × Int32} (μ : ZMem) (h : fX1_isSighing_b23 n μ = some z) : V (zkI l mX1_isSighing (rmd 2) fr n z) fr 23 [] [] n μ := by
  unfold fX1_isSighing_b23 at h
  refine V_iconst (v := 0) (zdk tbX1_isSighing_0_ok 11 rfl) rfl ?_
  exact tX1_isSighing_b24 (0 : Int32) μ  h
def fX1_isSighing (n : Nat) (v0 : Nat) (μ : ZMem) : Option (ZMem × Int32) := chk (isC n 1 v0) ((if (zI μ v0 0) = (5 : Int32) then (fX1_isSighing_b23 n  μ) else bd2 (fX1_limit n v0 μ) (fun μ3 r4 => (if (zI μ v0 4) ≤ r4 then (fX1_isSighing_b23 n  μ3) else (fX1_isSighing_b24 n (1 : Int32) μ3)))))
theorem tX1_isSighing {l : Launch} {fr : Bool} {n : Nat} {v0 : Nat} {μ : ZMem} {z : ZMem × Int32} (h : fX1_isSighing n v0 μ = some z) : ZFn l mX1_isSighing (rmd 2) [.ref v0] fr n μ (fr, n, z.1, some (.int z.2)) := by
  unfold fX1_isSighing at h
  obtain ⟨c_v0, h⟩ := chk_some h
  refine ZFn.of (ls := [(0, .ref v0)]) (by decide) (fun ξ => Nat.le_of_ble_eq_true rfl) (fun ξ => rfl) ?_
  refine V_aload_n 0 (zdk tbX1_isSighing_0_ok 0 rfl) rfl ?_
  refine V_getI (zdk tbX1_isSighing_0_ok 1 rfl) c_v0 fF1_15 rfl ?_
  refine V_iconst (v := 5) (zdk tbX1_isSighing_0_ok 2 rfl) rfl ?_
  refine V_icmp_eq (tgt := 23) (zdk tbX1_isSighing_0_ok 3 rfl) (by decide) (fun c1 => ?_) (fun c1 => ?_)
  · replace h := ite_t h c1
    refine V_sub (ls' := []) [] rfl ?_
    exact tX1_isSighing_b23  μ  h
  · replace h := ite_f h c1
    refine V_aload_n 0 (zdk tbX1_isSighing_0_ok 4 rfl) rfl ?_
    refine V_getI (zdk tbX1_isSighing_0_ok 5 rfl) c_v0 fF1_28 rfl ?_
    refine V_aload_n 0 (zdk tbX1_isSighing_0_ok 6 rfl) rfl ?_
    obtain ⟨μ3, r4, q2, h⟩ := bd2_some h
    refine V_callV (R1 := (rmd 1)) (As := []) (r := (some (.int r4))) (zdk tbX1_isSighing_0_ok 7 rfl) sC1_43 (tX1_limit q2) (c_v0) rfl rfl rfl ⟨Nat.le_of_ble_eq_true rfl, Nat.le_of_ble_eq_true rfl⟩ (Nat.le_of_ble_eq_true rfl) ⟨rfl, rfl⟩ id ?_
    refine V_icmp_le (tgt := 23) (zdk tbX1_isSighing_0_ok 8 rfl) (by decide) (fun c5 => ?_) (fun c5 => ?_)
    · replace h := ite_t h c5
      refine V_sub (ls' := []) [] rfl ?_
      exact tX1_isSighing_b23  μ3  h
    · replace h := ite_f h c5
      refine V_iconst (v := 1) (zdk tbX1_isSighing_0_ok 9 rfl) rfl ?_
      refine V_goto (tgt := 24) (zdk tbX1_isSighing_0_ok 10 rfl) (by decide) ?_
      refine V_sub (ls' := []) [] rfl ?_
      exact tX1_isSighing_b24 (1 : Int32) μ3  h

-- WhoComplainsCarries$Person.missingToSigh
def tbX1_missingToSigh_0 : List (Nat × Instr × Nat) := [(0, .aload_n 0, 1), (1, .getfield 15, 3), (4, .iconst 5, 1), (5, .if_icmp .ne 7, 3), (8, .iconst (-1), 1), (9, .goto 18, 3), (12, .iconst 0, 1), (13, .aload_n 0, 1), (14, .invokevirtual 43, 3), (17, .iconst 1, 1), (18, .iadd, 1), (19, .aload_n 0, 1), (20, .getfield 28, 3), (23, .isub, 1), (24, .invokestatic 37, 3), (27, .ireturn, 1)]
theorem tbX1_missingToSigh_0_ok : ∀ q ∈ tbX1_missingToSigh_0, decode cX1_missingToSigh q.1 = .ok (q.2.1, q.2.2) := by decide +kernel
def fX1_missingToSigh_b27 (n : Nat) (s0 : Int32) (μ : ZMem) : Option (ZMem × Int32) := some (μ, s0)
theorem tX1_missingToSigh_b27 {l : Launch} {fr : Bool} {n : Nat} {z : ZMem × Int32} (s0 : Int32) (μ : ZMem) (h : fX1_missingToSigh_b27 n s0 μ = some z) : V (zkI l mX1_missingToSigh (rmd 2) fr n z) fr 27 [] [.int s0] n μ := by
  unfold fX1_missingToSigh_b27 at h
  cases h
  exact V_iret (zdk tbX1_missingToSigh_0_ok 15 rfl) rfl rfl
def fX1_missingToSigh (n : Nat) (v0 : Nat) (μ : ZMem) : Option (ZMem × Int32) := chk (isC n 1 v0) ((if (zI μ v0 0) = (5 : Int32) then (fX1_missingToSigh_b27 n (-1 : Int32) μ) else bd2 (fX1_limit n v0 μ) (fun μ3 r4 => (fX1_missingToSigh_b27 n (if (0 : Int32) < ((r4 + (1 : Int32)) - (zI μ3 v0 4)) then ((r4 + (1 : Int32)) - (zI μ3 v0 4)) else (0 : Int32)) μ3))))
theorem tX1_missingToSigh {l : Launch} {fr : Bool} {n : Nat} {v0 : Nat} {μ : ZMem} {z : ZMem × Int32} (h : fX1_missingToSigh n v0 μ = some z) : ZFn l mX1_missingToSigh (rmd 2) [.ref v0] fr n μ (fr, n, z.1, some (.int z.2)) := by
  unfold fX1_missingToSigh at h
  obtain ⟨c_v0, h⟩ := chk_some h
  refine ZFn.of (ls := [(0, .ref v0)]) (by decide) (fun ξ => Nat.le_of_ble_eq_true rfl) (fun ξ => rfl) ?_
  refine V_aload_n 0 (zdk tbX1_missingToSigh_0_ok 0 rfl) rfl ?_
  refine V_getI (zdk tbX1_missingToSigh_0_ok 1 rfl) c_v0 fF1_15 rfl ?_
  refine V_iconst (v := 5) (zdk tbX1_missingToSigh_0_ok 2 rfl) rfl ?_
  refine V_icmp_ne (tgt := 12) (zdk tbX1_missingToSigh_0_ok 3 rfl) (by decide) (fun c1 => ?_) (fun c1 => ?_)
  · replace h := ite_f h c1
    refine V_iconst (v := 0) (zdk tbX1_missingToSigh_0_ok 6 rfl) rfl ?_
    refine V_aload_n 0 (zdk tbX1_missingToSigh_0_ok 7 rfl) rfl ?_
    obtain ⟨μ3, r4, q2, h⟩ := bd2_some h
    refine V_callV (R1 := (rmd 1)) (As := []) (r := (some (.int r4))) (zdk tbX1_missingToSigh_0_ok 8 rfl) sC1_43 (tX1_limit q2) (c_v0) rfl rfl rfl ⟨Nat.le_of_ble_eq_true rfl, Nat.le_of_ble_eq_true rfl⟩ (Nat.le_of_ble_eq_true rfl) ⟨rfl, rfl⟩ id ?_
    refine V_iconst (v := 1) (zdk tbX1_missingToSigh_0_ok 9 rfl) rfl ?_
    refine V_iadd (zdk tbX1_missingToSigh_0_ok 10 rfl) ?_
    refine V_aload_n 0 (zdk tbX1_missingToSigh_0_ok 11 rfl) rfl ?_
    refine V_getI (zdk tbX1_missingToSigh_0_ok 12 rfl) c_v0 fF1_28 rfl ?_
    refine V_isub (zdk tbX1_missingToSigh_0_ok 13 rfl) ?_
    refine V_max (zdk tbX1_missingToSigh_0_ok 14 rfl) wM1_37 wMs_max wMi wMc_max ⟨Nat.le_of_ble_eq_true rfl, Nat.le_of_ble_eq_true rfl⟩ (Nat.le_of_ble_eq_true rfl) ?_
    refine V_sub (ls' := []) [] rfl ?_
    exact tX1_missingToSigh_b27 (if (0 : Int32) < ((r4 + (1 : Int32)) - (zI μ3 v0 4)) then ((r4 + (1 : Int32)) - (zI μ3 v0 4)) else (0 : Int32)) μ3  h
  · replace h := ite_t h c1
    refine V_iconst (v := (-1)) (zdk tbX1_missingToSigh_0_ok 4 rfl) rfl ?_
    refine V_goto (tgt := 27) (zdk tbX1_missingToSigh_0_ok 5 rfl) (by decide) ?_
    refine V_sub (ls' := []) [] rfl ?_
    exact tX1_missingToSigh_b27 (-1 : Int32) μ  h

-- WhoComplainsCarries$Person.grow
def tbX1_grow_0 : List (Nat × Instr × Nat) := [(0, .aload_n 0, 1), (1, .bipush 99, 2), (3, .aload_n 0, 1), (4, .getfield 28, 3), (7, .iload_n 1, 1), (8, .iadd, 1), (9, .invokestatic 31, 3), (12, .putfield 28, 3), (15, .return_, 1)]
theorem tbX1_grow_0_ok : ∀ q ∈ tbX1_grow_0, decode cX1_grow q.1 = .ok (q.2.1, q.2.2) := by decide +kernel
def fX1_grow (n : Nat) (v0 : Nat) (v1 : Int32) (μ : ZMem) : Option (ZMem) := chk (isC n 1 v0) (lt (zpI μ v0 4 (if ((zI μ v0 4) + v1) < (99 : Int32) then ((zI μ v0 4) + v1) else (99 : Int32))) (fun μ1 => some μ1))
theorem tX1_grow {l : Launch} {fr : Bool} {n : Nat} {v0 : Nat} {v1 : Int32} {μ : ZMem} {z : ZMem} (h : fX1_grow n v0 v1 μ = some z) : ZFn l mX1_grow (rmd 1) [.ref v0, .int v1] fr n μ (fr, n, z, none) := by
  unfold fX1_grow at h
  obtain ⟨c_v0, h⟩ := chk_some h
  refine ZFn.of (ls := [(0, .ref v0), (1, .int v1)]) (by decide) (fun ξ => Nat.le_of_ble_eq_true rfl) (fun ξ => rfl) ?_
  refine V_aload_n 0 (zdk tbX1_grow_0_ok 0 rfl) rfl ?_
  refine V_bipush (v := 99) (zdk tbX1_grow_0_ok 1 rfl) rfl ?_
  refine V_aload_n 0 (zdk tbX1_grow_0_ok 2 rfl) rfl ?_
  refine V_getI (zdk tbX1_grow_0_ok 3 rfl) c_v0 fF1_28 rfl ?_
  refine V_iload_n 1 (zdk tbX1_grow_0_ok 4 rfl) rfl ?_
  refine V_iadd (zdk tbX1_grow_0_ok 5 rfl) ?_
  refine V_min (zdk tbX1_grow_0_ok 6 rfl) wM1_31 wMs_min wMi wMc_min ⟨Nat.le_of_ble_eq_true rfl, Nat.le_of_ble_eq_true rfl⟩ (Nat.le_of_ble_eq_true rfl) ?_
  obtain ⟨μ1, e2, h⟩ := lt_some h
  refine V_putI (zdk tbX1_grow_0_ok 7 rfl) c_v0 fF1_28 rfl rfl rfl e2 ?_
  cases h
  exact V_vret (zdk tbX1_grow_0_ok 8 rfl) rfl rfl

-- WhoComplainsCarries$Person.rest
def tbX1_rest_0 : List (Nat × Instr × Nat) := [(0, .aload_n 0, 1), (1, .iconst 0, 1), (2, .aload_n 0, 1), (3, .getfield 28, 3), (6, .iload_n 1, 1), (7, .isub, 1), (8, .invokestatic 37, 3), (11, .putfield 28, 3), (14, .return_, 1)]
theorem tbX1_rest_0_ok : ∀ q ∈ tbX1_rest_0, decode cX1_rest q.1 = .ok (q.2.1, q.2.2) := by decide +kernel
def fX1_rest (n : Nat) (v0 : Nat) (v1 : Int32) (μ : ZMem) : Option (ZMem) := chk (isC n 1 v0) (lt (zpI μ v0 4 (if (0 : Int32) < ((zI μ v0 4) - v1) then ((zI μ v0 4) - v1) else (0 : Int32))) (fun μ1 => some μ1))
theorem tX1_rest {l : Launch} {fr : Bool} {n : Nat} {v0 : Nat} {v1 : Int32} {μ : ZMem} {z : ZMem} (h : fX1_rest n v0 v1 μ = some z) : ZFn l mX1_rest (rmd 1) [.ref v0, .int v1] fr n μ (fr, n, z, none) := by
  unfold fX1_rest at h
  obtain ⟨c_v0, h⟩ := chk_some h
  refine ZFn.of (ls := [(0, .ref v0), (1, .int v1)]) (by decide) (fun ξ => Nat.le_of_ble_eq_true rfl) (fun ξ => rfl) ?_
  refine V_aload_n 0 (zdk tbX1_rest_0_ok 0 rfl) rfl ?_
  refine V_iconst (v := 0) (zdk tbX1_rest_0_ok 1 rfl) rfl ?_
  refine V_aload_n 0 (zdk tbX1_rest_0_ok 2 rfl) rfl ?_
  refine V_getI (zdk tbX1_rest_0_ok 3 rfl) c_v0 fF1_28 rfl ?_
  refine V_iload_n 1 (zdk tbX1_rest_0_ok 4 rfl) rfl ?_
  refine V_isub (zdk tbX1_rest_0_ok 5 rfl) ?_
  refine V_max (zdk tbX1_rest_0_ok 6 rfl) wM1_37 wMs_max wMi wMc_max ⟨Nat.le_of_ble_eq_true rfl, Nat.le_of_ble_eq_true rfl⟩ (Nat.le_of_ble_eq_true rfl) ?_
  obtain ⟨μ1, e2, h⟩ := lt_some h
  refine V_putI (zdk tbX1_rest_0_ok 7 rfl) c_v0 fF1_28 rfl rfl rfl e2 ?_
  cases h
  exact V_vret (zdk tbX1_rest_0_ok 8 rfl) rfl rfl

-- WhoComplainsCarries$Person.stepsToLimit
def tbX1_stepsToLimit_0 : List (Nat × Instr × Nat) := [(0, .aload_n 0, 1), (1, .iload_n 1, 1), (2, .invokevirtual 47, 3), (5, .istore_n 2, 1), (6, .iconst 0, 1), (7, .istore_n 3, 1), (8, .iload_n 3, 1), (9, .bipush 100, 2), (11, .if_icmp .gt 31, 3), (14, .bipush 99, 2), (16, .aload_n 0, 1), (17, .getfield 28, 3), (20, .iload_n 3, 1), (21, .iload_n 2, 1), (22, .imul, 1), (23, .iadd, 1), (24, .invokestatic 31, 3), (27, .aload_n 0, 1), (28, .invokevirtual 43, 3), (31, .if_icmp .le 5, 3), (34, .iload_n 3, 1), (35, .ireturn, 1), (36, .iinc 3 1, 3), (39, .goto (-31), 3), (42, .iconst (-1), 1), (43, .ireturn, 1)]
theorem tbX1_stepsToLimit_0_ok : ∀ q ∈ tbX1_stepsToLimit_0, decode cX1_stepsToLimit q.1 = .ok (q.2.1, q.2.2) := by decide +kernel
theorem wCX1_toil : zCW mX1_toil 1 := ⟨zin (i := 4) (by decide +kernel) rfl, zin (i := 367) (by decide +kernel) rfl, by decide +kernel, by decide +kernel, by decide +kernel⟩
theorem sC1_47 : zCV RX1 47 mX1_toil 1 := ⟨zin (i := 620) (by decide +kernel) rfl, zin (i := 365) (by decide +kernel) rfl, zin (i := 366) (by decide +kernel) rfl, wCX1_toil⟩
def fX1_stepsToLimit_b8 (n : Nat) : Nat → Nat → Int32 → Int32 → ZMem → Option (ZMem × Int32)
  | 0, _, _, _, _ => none
  | k + 1, v0, v2, v3, μ => (if (100 : Int32) < v3 then some (μ, (-1 : Int32)) else bd2 (fX1_limit n v0 μ) (fun μ3 r4 => (if (if ((zI μ v0 4) + (v3 * v2)) < (99 : Int32) then ((zI μ v0 4) + (v3 * v2)) else (99 : Int32)) ≤ r4 then (fX1_stepsToLimit_b8 n k v0 v2 (v3 + (1 : Int32)) μ3) else some (μ3, v3))))
theorem tX1_stepsToLimit_b8 {l : Launch} {fr : Bool} {n : Nat} {z : ZMem × Int32} : ∀ (k : Nat) (v0 : Nat) (v2 : Int32) (v3 : Int32) (μ : ZMem) (c_v0 : isC n 1 v0 = true), fX1_stepsToLimit_b8 n k v0 v2 v3 μ = some z → V (zkI l mX1_stepsToLimit (rmd 3) fr n z) fr 8 [(0, .ref v0), (2, .int v2), (3, .int v3)] [] n μ := by
  intro k
  induction k with
  | zero =>
    intro v0 v2 v3 μ c_v0 h
    unfold fX1_stepsToLimit_b8 at h
    cases h
  | succ k ih =>
    intro v0 v2 v3 μ c_v0 h
    unfold fX1_stepsToLimit_b8 at h
    refine V_iload_n 2 (zdk tbX1_stepsToLimit_0_ok 6 rfl) rfl ?_
    refine V_bipush (v := 100) (zdk tbX1_stepsToLimit_0_ok 7 rfl) rfl ?_
    refine V_icmp_gt (tgt := 42) (zdk tbX1_stepsToLimit_0_ok 8 rfl) (by decide) (fun c1 => ?_) (fun c1 => ?_)
    · replace h := ite_t h c1
      refine V_iconst (v := (-1)) (zdk tbX1_stepsToLimit_0_ok 24 rfl) rfl ?_
      cases h
      exact V_iret (zdk tbX1_stepsToLimit_0_ok 25 rfl) rfl rfl
    · replace h := ite_f h c1
      refine V_bipush (v := 99) (zdk tbX1_stepsToLimit_0_ok 9 rfl) rfl ?_
      refine V_aload_n 0 (zdk tbX1_stepsToLimit_0_ok 10 rfl) rfl ?_
      refine V_getI (zdk tbX1_stepsToLimit_0_ok 11 rfl) c_v0 fF1_28 rfl ?_
      refine V_iload_n 2 (zdk tbX1_stepsToLimit_0_ok 12 rfl) rfl ?_
      refine V_iload_n 1 (zdk tbX1_stepsToLimit_0_ok 13 rfl) rfl ?_
      refine V_imul (zdk tbX1_stepsToLimit_0_ok 14 rfl) ?_
      refine V_iadd (zdk tbX1_stepsToLimit_0_ok 15 rfl) ?_
      refine V_min (zdk tbX1_stepsToLimit_0_ok 16 rfl) wM1_31 wMs_min wMi wMc_min ⟨Nat.le_of_ble_eq_true rfl, Nat.le_of_ble_eq_true rfl⟩ (Nat.le_of_ble_eq_true rfl) ?_
      refine V_aload_n 0 (zdk tbX1_stepsToLimit_0_ok 17 rfl) rfl ?_
      obtain ⟨μ3, r4, q2, h⟩ := bd2_some h
      refine V_callV (R1 := (rmd 1)) (As := []) (r := (some (.int r4))) (zdk tbX1_stepsToLimit_0_ok 18 rfl) sC1_43 (tX1_limit q2) (c_v0) rfl rfl rfl ⟨Nat.le_of_ble_eq_true rfl, Nat.le_of_ble_eq_true rfl⟩ (Nat.le_of_ble_eq_true rfl) ⟨rfl, rfl⟩ id ?_
      refine V_icmp_le (tgt := 36) (zdk tbX1_stepsToLimit_0_ok 19 rfl) (by decide) (fun c5 => ?_) (fun c5 => ?_)
      · replace h := ite_t h c5
        refine V_inc (dx := 1) (ls' := [(0, .ref v0), (2, .int v2), (3, .int (v3 + (1 : Int32)))]) 2 [1, 2, 0] (zdk tbX1_stepsToLimit_0_ok 22 rfl) rfl (Nat.le_of_ble_eq_true rfl) rfl rfl ?_
        refine V_goto (tgt := 8) (zdk tbX1_stepsToLimit_0_ok 23 rfl) (by decide) ?_
        exact ih v0 v2 (v3 + (1 : Int32)) μ3 c_v0 h
      · replace h := ite_f h c5
        refine V_iload_n 2 (zdk tbX1_stepsToLimit_0_ok 20 rfl) rfl ?_
        cases h
        exact V_iret (zdk tbX1_stepsToLimit_0_ok 21 rfl) rfl rfl
def fX1_stepsToLimit (n : Nat) (v0 : Nat) (v1 : Int32) (μ : ZMem) : Option (ZMem × Int32) := chk (isC n 1 v0) (bd2 (fX1_toil n v0 v1 μ) (fun μ2 r3 => (fX1_stepsToLimit_b8 n FU v0 r3 (0 : Int32) μ2)))
theorem tX1_stepsToLimit {l : Launch} {fr : Bool} {n : Nat} {v0 : Nat} {v1 : Int32} {μ : ZMem} {z : ZMem × Int32} (h : fX1_stepsToLimit n v0 v1 μ = some z) : ZFn l mX1_stepsToLimit (rmd 3) [.ref v0, .int v1] fr n μ (fr, n, z.1, some (.int z.2)) := by
  unfold fX1_stepsToLimit at h
  obtain ⟨c_v0, h⟩ := chk_some h
  refine ZFn.of (ls := [(0, .ref v0), (1, .int v1)]) (by decide) (fun ξ => Nat.le_of_ble_eq_true rfl) (fun ξ => rfl) ?_
  refine V_aload_n 0 (zdk tbX1_stepsToLimit_0_ok 0 rfl) rfl ?_
  refine V_iload_n 1 (zdk tbX1_stepsToLimit_0_ok 1 rfl) rfl ?_
  obtain ⟨μ2, r3, q1, h⟩ := bd2_some h
  refine V_callV (R1 := (rmd 2)) (As := [.int v1]) (r := (some (.int r3))) (zdk tbX1_stepsToLimit_0_ok 2 rfl) sC1_47 (tX1_toil q1) (c_v0) rfl rfl rfl ⟨Nat.le_of_ble_eq_true rfl, Nat.le_of_ble_eq_true rfl⟩ (Nat.le_of_ble_eq_true rfl) ⟨rfl, rfl⟩ id ?_
  refine V_istore_n (ls' := [(0, .ref v0), (2, .int r3)]) [1, 0] (zdk tbX1_stepsToLimit_0_ok 3 rfl) (Nat.le_of_ble_eq_true rfl) rfl ?_
  refine V_iconst (v := 0) (zdk tbX1_stepsToLimit_0_ok 4 rfl) rfl ?_
  refine V_istore_n (ls' := [(0, .ref v0), (2, .int r3), (3, .int (0 : Int32))]) [1, 2, 0] (zdk tbX1_stepsToLimit_0_ok 5 rfl) (Nat.le_of_ble_eq_true rfl) rfl ?_
  exact tX1_stepsToLimit_b8 FU v0 r3 (0 : Int32) μ2 c_v0 h
end
