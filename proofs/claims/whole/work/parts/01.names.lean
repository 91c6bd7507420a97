-- ===== PART A: goes FIRST, ahead of the names: the tables' words, and 'selects' of the private methods out of them =====
/-- a private method of a class that the tables say can be made, by its rows of tables_1 -/
def lw_okq (q : MethodName × Nat) : Prop := (q.1.cls ≠ "java/lang/invoke/MethodHandle" ∧ q.1.cls ≠ "java/lang/invoke/VarHandle") ∧ Cond.instantiable q.1.cls q.2 ∈ tables_1 ∧ Cond.privateMethod q.1 ∈ tables_1 ∧ Cond.instanceMethod q.1 ∈ tables_1
theorem lw_p0 : lw_okq (⟨"QuotedBooks", "takeWords", "(I)Z"⟩, 16) := ⟨⟨by decide +kernel, by decide +kernel⟩, List.mem_of_getElem? (i := 24) (by decide +kernel), List.mem_of_getElem? (i := 552) (by decide +kernel), List.mem_of_getElem? (i := 553) (by decide +kernel)⟩
theorem lw_p1 : lw_okq (⟨"QuotedBooks", "keepBit", "(IIII)I"⟩, 16) := ⟨⟨by decide +kernel, by decide +kernel⟩, List.mem_of_getElem? (i := 24) (by decide +kernel), List.mem_of_getElem? (i := 557) (by decide +kernel), List.mem_of_getElem? (i := 558) (by decide +kernel)⟩
theorem lw_p2 : lw_okq (⟨"QuotedBooks", "wayOf", "(I)LQuotedBooks$Text;"⟩, 16) := ⟨⟨by decide +kernel, by decide +kernel⟩, List.mem_of_getElem? (i := 24) (by decide +kernel), List.mem_of_getElem? (i := 582) (by decide +kernel), List.mem_of_getElem? (i := 583) (by decide +kernel)⟩
theorem lw_p3 : lw_okq (⟨"QuotedBooks", "readText", "(ILjava/lang/String;LQuotedBooks$Text;)I"⟩, 16) := ⟨⟨by decide +kernel, by decide +kernel⟩, List.mem_of_getElem? (i := 24) (by decide +kernel), List.mem_of_getElem? (i := 586) (by decide +kernel), List.mem_of_getElem? (i := 587) (by decide +kernel)⟩
theorem lw_p4 : lw_okq (⟨"QuotedBooks$Reader", "readClause", "(Ljava/lang/String;)V"⟩, 5) := ⟨⟨by decide +kernel, by decide +kernel⟩, List.mem_of_getElem? (i := 107) (by decide +kernel), List.mem_of_getElem? (i := 598) (by decide +kernel), List.mem_of_getElem? (i := 599) (by decide +kernel)⟩
theorem lw_p5 : lw_okq (⟨"QuotedBooks$Reader", "nextIsOf", "(Ljava/lang/String;)Z"⟩, 5) := ⟨⟨by decide +kernel, by decide +kernel⟩, List.mem_of_getElem? (i := 107) (by decide +kernel), List.mem_of_getElem? (i := 602) (by decide +kernel), List.mem_of_getElem? (i := 603) (by decide +kernel)⟩
theorem lw_p6 : lw_okq (⟨"QuotedBooks$Reader", "next", "()I"⟩, 5) := ⟨⟨by decide +kernel, by decide +kernel⟩, List.mem_of_getElem? (i := 107) (by decide +kernel), List.mem_of_getElem? (i := 606) (by decide +kernel), List.mem_of_getElem? (i := 607) (by decide +kernel)⟩
theorem lw_p7 : lw_okq (⟨"QuotedBooks$Reader", "blame", "(I)V"⟩, 5) := ⟨⟨by decide +kernel, by decide +kernel⟩, List.mem_of_getElem? (i := 107) (by decide +kernel), List.mem_of_getElem? (i := 697) (by decide +kernel), List.mem_of_getElem? (i := 698) (by decide +kernel)⟩
theorem lw_p8 : lw_okq (⟨"QuotedBooks$Reader", "readSum", "(I)V"⟩, 5) := ⟨⟨by decide +kernel, by decide +kernel⟩, List.mem_of_getElem? (i := 107) (by decide +kernel), List.mem_of_getElem? (i := 705) (by decide +kernel), List.mem_of_getElem? (i := 706) (by decide +kernel)⟩
theorem lw_p9 : lw_okq (⟨"QuotedBooks$Reader", "readTerm", "(I)V"⟩, 5) := ⟨⟨by decide +kernel, by decide +kernel⟩, List.mem_of_getElem? (i := 107) (by decide +kernel), List.mem_of_getElem? (i := 709) (by decide +kernel), List.mem_of_getElem? (i := 710) (by decide +kernel)⟩
theorem lw_p10 : lw_okq (⟨"QuotedBooks$Reader", "readFactor", "(I)V"⟩, 5) := ⟨⟨by decide +kernel, by decide +kernel⟩, List.mem_of_getElem? (i := 107) (by decide +kernel), List.mem_of_getElem? (i := 713) (by decide +kernel), List.mem_of_getElem? (i := 714) (by decide +kernel)⟩
theorem lw_p11 : lw_okq (⟨"QuotedBooks$Reader", "opens", "(I)Z"⟩, 5) := ⟨⟨by decide +kernel, by decide +kernel⟩, List.mem_of_getElem? (i := 107) (by decide +kernel), List.mem_of_getElem? (i := 717) (by decide +kernel), List.mem_of_getElem? (i := 718) (by decide +kernel)⟩
theorem lw_p12 : lw_okq (⟨"QuotedBooks$Reader", "expect", "(C)V"⟩, 5) := ⟨⟨by decide +kernel, by decide +kernel⟩, List.mem_of_getElem? (i := 107) (by decide +kernel), List.mem_of_getElem? (i := 721) (by decide +kernel), List.mem_of_getElem? (i := 722) (by decide +kernel)⟩
theorem lw_p13 : lw_okq (⟨"QuotedBooks$Reader", "readNumber", "()V"⟩, 5) := ⟨⟨by decide +kernel, by decide +kernel⟩, List.mem_of_getElem? (i := 107) (by decide +kernel), List.mem_of_getElem? (i := 726) (by decide +kernel), List.mem_of_getElem? (i := 727) (by decide +kernel)⟩
theorem lw_p14 : lw_okq (⟨"QuotedBooks$Reader", "readChoice", "(I)V"⟩, 5) := ⟨⟨by decide +kernel, by decide +kernel⟩, List.mem_of_getElem? (i := 107) (by decide +kernel), List.mem_of_getElem? (i := 742) (by decide +kernel), List.mem_of_getElem? (i := 743) (by decide +kernel)⟩
theorem lw_p15 : lw_okq (⟨"QuotedBooks$Reader", "readPart", "(I)V"⟩, 5) := ⟨⟨by decide +kernel, by decide +kernel⟩, List.mem_of_getElem? (i := 107) (by decide +kernel), List.mem_of_getElem? (i := 746) (by decide +kernel), List.mem_of_getElem? (i := 747) (by decide +kernel)⟩
def lw_privs_1 : List (MethodName × Nat) := [(⟨"QuotedBooks", "takeWords", "(I)Z"⟩, 16), (⟨"QuotedBooks", "keepBit", "(IIII)I"⟩, 16), (⟨"QuotedBooks", "wayOf", "(I)LQuotedBooks$Text;"⟩, 16), (⟨"QuotedBooks", "readText", "(ILjava/lang/String;LQuotedBooks$Text;)I"⟩, 16), (⟨"QuotedBooks$Reader", "readClause", "(Ljava/lang/String;)V"⟩, 5), (⟨"QuotedBooks$Reader", "nextIsOf", "(Ljava/lang/String;)Z"⟩, 5), (⟨"QuotedBooks$Reader", "next", "()I"⟩, 5), (⟨"QuotedBooks$Reader", "blame", "(I)V"⟩, 5), (⟨"QuotedBooks$Reader", "readSum", "(I)V"⟩, 5), (⟨"QuotedBooks$Reader", "readTerm", "(I)V"⟩, 5), (⟨"QuotedBooks$Reader", "readFactor", "(I)V"⟩, 5), (⟨"QuotedBooks$Reader", "opens", "(I)Z"⟩, 5), (⟨"QuotedBooks$Reader", "expect", "(C)V"⟩, 5), (⟨"QuotedBooks$Reader", "readNumber", "()V"⟩, 5), (⟨"QuotedBooks$Reader", "readChoice", "(I)V"⟩, 5), (⟨"QuotedBooks$Reader", "readPart", "(I)V"⟩, 5)]
theorem lw_r1 : ∀ q ∈ lw_privs_1, lw_okq q := List.forall_mem_cons.mpr ⟨lw_p0, List.forall_mem_cons.mpr ⟨lw_p1, List.forall_mem_cons.mpr ⟨lw_p2, List.forall_mem_cons.mpr ⟨lw_p3, List.forall_mem_cons.mpr ⟨lw_p4, List.forall_mem_cons.mpr ⟨lw_p5, List.forall_mem_cons.mpr ⟨lw_p6, List.forall_mem_cons.mpr ⟨lw_p7, List.forall_mem_cons.mpr ⟨lw_p8, List.forall_mem_cons.mpr ⟨lw_p9, List.forall_mem_cons.mpr ⟨lw_p10, List.forall_mem_cons.mpr ⟨lw_p11, List.forall_mem_cons.mpr ⟨lw_p12, List.forall_mem_cons.mpr ⟨lw_p13, List.forall_mem_cons.mpr ⟨lw_p14, List.forall_mem_cons.mpr ⟨lw_p15, fun _ h => absurd h List.not_mem_nil⟩⟩⟩⟩⟩⟩⟩⟩⟩⟩⟩⟩⟩⟩⟩⟩
theorem lw_p16 : lw_okq (⟨"QuotedBooks$Reader", "readPiece", "(I)V"⟩, 5) := ⟨⟨by decide +kernel, by decide +kernel⟩, List.mem_of_getElem? (i := 107) (by decide +kernel), List.mem_of_getElem? (i := 750) (by decide +kernel), List.mem_of_getElem? (i := 751) (by decide +kernel)⟩
theorem lw_p17 : lw_okq (⟨"QuotedBooks$Reader", "readComparison", "(I)V"⟩, 5) := ⟨⟨by decide +kernel, by decide +kernel⟩, List.mem_of_getElem? (i := 107) (by decide +kernel), List.mem_of_getElem? (i := 754) (by decide +kernel), List.mem_of_getElem? (i := 755) (by decide +kernel)⟩
theorem lw_p18 : lw_okq (⟨"QuotedBooks", "quoteWords", "(LQuotedBooks$Text;III)I"⟩, 16) := ⟨⟨by decide +kernel, by decide +kernel⟩, List.mem_of_getElem? (i := 24) (by decide +kernel), List.mem_of_getElem? (i := 812) (by decide +kernel), List.mem_of_getElem? (i := 813) (by decide +kernel)⟩
theorem lw_p19 : lw_okq (⟨"QuotedBooks$Text", "run", "(II)I"⟩, 11) := ⟨⟨by decide +kernel, by decide +kernel⟩, List.mem_of_getElem? (i := 113) (by decide +kernel), List.mem_of_getElem? (i := 828) (by decide +kernel), List.mem_of_getElem? (i := 829) (by decide +kernel)⟩
theorem lw_p20 : lw_okq (⟨"QuotedBooks$Text", "step", "(I)I"⟩, 11) := ⟨⟨by decide +kernel, by decide +kernel⟩, List.mem_of_getElem? (i := 113) (by decide +kernel), List.mem_of_getElem? (i := 832) (by decide +kernel), List.mem_of_getElem? (i := 833) (by decide +kernel)⟩
theorem lw_p21 : lw_okq (⟨"QuotedBooks$Text", "push", "(I)V"⟩, 11) := ⟨⟨by decide +kernel, by decide +kernel⟩, List.mem_of_getElem? (i := 113) (by decide +kernel), List.mem_of_getElem? (i := 836) (by decide +kernel), List.mem_of_getElem? (i := 837) (by decide +kernel)⟩
theorem lw_p22 : lw_okq (⟨"QuotedBooks$Text", "pop", "()I"⟩, 11) := ⟨⟨by decide +kernel, by decide +kernel⟩, List.mem_of_getElem? (i := 113) (by decide +kernel), List.mem_of_getElem? (i := 841) (by decide +kernel), List.mem_of_getElem? (i := 842) (by decide +kernel)⟩
theorem lw_p23 : lw_okq (⟨"QuotedBooks$Text", "keepsTop", "(Z)Z"⟩, 11) := ⟨⟨by decide +kernel, by decide +kernel⟩, List.mem_of_getElem? (i := 113) (by decide +kernel), List.mem_of_getElem? (i := 845) (by decide +kernel), List.mem_of_getElem? (i := 846) (by decide +kernel)⟩
theorem lw_p24 : lw_okq (⟨"QuotedBooks$Text", "joined", "(III)I"⟩, 11) := ⟨⟨by decide +kernel, by decide +kernel⟩, List.mem_of_getElem? (i := 113) (by decide +kernel), List.mem_of_getElem? (i := 849) (by decide +kernel), List.mem_of_getElem? (i := 850) (by decide +kernel)⟩
theorem lw_p25 : lw_okq (⟨"QuotedBooks", "quoteWord", "(LQuotedBooks$Text;II)V"⟩, 16) := ⟨⟨by decide +kernel, by decide +kernel⟩, List.mem_of_getElem? (i := 24) (by decide +kernel), List.mem_of_getElem? (i := 857) (by decide +kernel), List.mem_of_getElem? (i := 858) (by decide +kernel)⟩
theorem lw_p26 : lw_okq (⟨"QuotedBooks$Closeness", "startRow", "(I)V"⟩, 8) := ⟨⟨by decide +kernel, by decide +kernel⟩, List.mem_of_getElem? (i := 185) (by decide +kernel), List.mem_of_getElem? (i := 899) (by decide +kernel), List.mem_of_getElem? (i := 900) (by decide +kernel)⟩
theorem lw_p27 : lw_okq (⟨"QuotedBooks$Closeness", "advance", "(III)V"⟩, 8) := ⟨⟨by decide +kernel, by decide +kernel⟩, List.mem_of_getElem? (i := 185) (by decide +kernel), List.mem_of_getElem? (i := 904) (by decide +kernel), List.mem_of_getElem? (i := 905) (by decide +kernel)⟩
theorem lw_p28 : lw_okq (⟨"QuotedBooks$Closeness", "fillTails", "(II)V"⟩, 8) := ⟨⟨by decide +kernel, by decide +kernel⟩, List.mem_of_getElem? (i := 185) (by decide +kernel), List.mem_of_getElem? (i := 955) (by decide +kernel), List.mem_of_getElem? (i := 956) (by decide +kernel)⟩
theorem lw_p29 : lw_okq (⟨"QuotedBooks$Closeness", "tail", "(II)I"⟩, 8) := ⟨⟨by decide +kernel, by decide +kernel⟩, List.mem_of_getElem? (i := 185) (by decide +kernel), List.mem_of_getElem? (i := 959) (by decide +kernel), List.mem_of_getElem? (i := 960) (by decide +kernel)⟩
theorem lw_p30 : lw_okq (⟨"QuotedBooks$Closeness", "firstOf", "(III)I"⟩, 8) := ⟨⟨by decide +kernel, by decide +kernel⟩, List.mem_of_getElem? (i := 185) (by decide +kernel), List.mem_of_getElem? (i := 964) (by decide +kernel), List.mem_of_getElem? (i := 965) (by decide +kernel)⟩
theorem lw_p31 : lw_okq (⟨"QuotedBooks$Slips", "addBit", "(III)V"⟩, 5) := ⟨⟨by decide +kernel, by decide +kernel⟩, List.mem_of_getElem? (i := 223) (by decide +kernel), List.mem_of_getElem? (i := 989) (by decide +kernel), List.mem_of_getElem? (i := 990) (by decide +kernel)⟩
def lw_privs_2 : List (MethodName × Nat) := [(⟨"QuotedBooks$Reader", "readPiece", "(I)V"⟩, 5), (⟨"QuotedBooks$Reader", "readComparison", "(I)V"⟩, 5), (⟨"QuotedBooks", "quoteWords", "(LQuotedBooks$Text;III)I"⟩, 16), (⟨"QuotedBooks$Text", "run", "(II)I"⟩, 11), (⟨"QuotedBooks$Text", "step", "(I)I"⟩, 11), (⟨"QuotedBooks$Text", "push", "(I)V"⟩, 11), (⟨"QuotedBooks$Text", "pop", "()I"⟩, 11), (⟨"QuotedBooks$Text", "keepsTop", "(Z)Z"⟩, 11), (⟨"QuotedBooks$Text", "joined", "(III)I"⟩, 11), (⟨"QuotedBooks", "quoteWord", "(LQuotedBooks$Text;II)V"⟩, 16), (⟨"QuotedBooks$Closeness", "startRow", "(I)V"⟩, 8), (⟨"QuotedBooks$Closeness", "advance", "(III)V"⟩, 8), (⟨"QuotedBooks$Closeness", "fillTails", "(II)V"⟩, 8), (⟨"QuotedBooks$Closeness", "tail", "(II)I"⟩, 8), (⟨"QuotedBooks$Closeness", "firstOf", "(III)I"⟩, 8), (⟨"QuotedBooks$Slips", "addBit", "(III)V"⟩, 5)]
theorem lw_r2 : ∀ q ∈ lw_privs_2, lw_okq q := List.forall_mem_cons.mpr ⟨lw_p16, List.forall_mem_cons.mpr ⟨lw_p17, List.forall_mem_cons.mpr ⟨lw_p18, List.forall_mem_cons.mpr ⟨lw_p19, List.forall_mem_cons.mpr ⟨lw_p20, List.forall_mem_cons.mpr ⟨lw_p21, List.forall_mem_cons.mpr ⟨lw_p22, List.forall_mem_cons.mpr ⟨lw_p23, List.forall_mem_cons.mpr ⟨lw_p24, List.forall_mem_cons.mpr ⟨lw_p25, List.forall_mem_cons.mpr ⟨lw_p26, List.forall_mem_cons.mpr ⟨lw_p27, List.forall_mem_cons.mpr ⟨lw_p28, List.forall_mem_cons.mpr ⟨lw_p29, List.forall_mem_cons.mpr ⟨lw_p30, List.forall_mem_cons.mpr ⟨lw_p31, fun _ h => absurd h List.not_mem_nil⟩⟩⟩⟩⟩⟩⟩⟩⟩⟩⟩⟩⟩⟩⟩⟩
theorem lw_p32 : lw_okq (⟨"QuotedBooks$Slips", "others", "(III)I"⟩, 5) := ⟨⟨by decide +kernel, by decide +kernel⟩, List.mem_of_getElem? (i := 223) (by decide +kernel), List.mem_of_getElem? (i := 995) (by decide +kernel), List.mem_of_getElem? (i := 996) (by decide +kernel)⟩
theorem lw_p33 : lw_okq (⟨"QuotedBooks$Slips", "has", "(I)Z"⟩, 5) := ⟨⟨by decide +kernel, by decide +kernel⟩, List.mem_of_getElem? (i := 223) (by decide +kernel), List.mem_of_getElem? (i := 1002) (by decide +kernel), List.mem_of_getElem? (i := 1003) (by decide +kernel)⟩
theorem lw_p34 : lw_okq (⟨"QuotedBooks$Slips", "addPlace", "(III)V"⟩, 5) := ⟨⟨by decide +kernel, by decide +kernel⟩, List.mem_of_getElem? (i := 223) (by decide +kernel), List.mem_of_getElem? (i := 1009) (by decide +kernel), List.mem_of_getElem? (i := 1010) (by decide +kernel)⟩
theorem lw_p35 : lw_okq (⟨"QuotedBooks$Odds", "reduce", "(JJ)V"⟩, 2) := ⟨⟨by decide +kernel, by decide +kernel⟩, List.mem_of_getElem? (i := 172) (by decide +kernel), List.mem_of_getElem? (i := 1064) (by decide +kernel), List.mem_of_getElem? (i := 1065) (by decide +kernel)⟩
theorem lw_p36 : lw_okq (⟨"QuotedBooks$Copies", "costFromOther", "()I"⟩, 10) := ⟨⟨by decide +kernel, by decide +kernel⟩, List.mem_of_getElem? (i := 217) (by decide +kernel), List.mem_of_getElem? (i := 1129) (by decide +kernel), List.mem_of_getElem? (i := 1130) (by decide +kernel)⟩
theorem lw_p37 : lw_okq (⟨"QuotedBooks$Ordering", "gather", "(I)V"⟩, 18) := ⟨⟨by decide +kernel, by decide +kernel⟩, List.mem_of_getElem? (i := 276) (by decide +kernel), List.mem_of_getElem? (i := 1181) (by decide +kernel), List.mem_of_getElem? (i := 1182) (by decide +kernel)⟩
theorem lw_p38 : lw_okq (⟨"QuotedBooks$Ordering", "placeOf", "(I)I"⟩, 18) := ⟨⟨by decide +kernel, by decide +kernel⟩, List.mem_of_getElem? (i := 276) (by decide +kernel), List.mem_of_getElem? (i := 1187) (by decide +kernel), List.mem_of_getElem? (i := 1188) (by decide +kernel)⟩
theorem lw_p39 : lw_okq (⟨"QuotedBooks$Ordering", "search", "()V"⟩, 18) := ⟨⟨by decide +kernel, by decide +kernel⟩, List.mem_of_getElem? (i := 276) (by decide +kernel), List.mem_of_getElem? (i := 1191) (by decide +kernel), List.mem_of_getElem? (i := 1192) (by decide +kernel)⟩
theorem lw_p40 : lw_okq (⟨"QuotedBooks$Ordering", "fillGains", "()V"⟩, 18) := ⟨⟨by decide +kernel, by decide +kernel⟩, List.mem_of_getElem? (i := 276) (by decide +kernel), List.mem_of_getElem? (i := 1196) (by decide +kernel), List.mem_of_getElem? (i := 1197) (by decide +kernel)⟩
theorem lw_p41 : lw_okq (⟨"QuotedBooks$Ordering", "complete", "(II)V"⟩, 18) := ⟨⟨by decide +kernel, by decide +kernel⟩, List.mem_of_getElem? (i := 276) (by decide +kernel), List.mem_of_getElem? (i := 1207) (by decide +kernel), List.mem_of_getElem? (i := 1208) (by decide +kernel)⟩
theorem lw_p42 : lw_okq (⟨"QuotedBooks$Ordering", "behind", "(III)I"⟩, 18) := ⟨⟨by decide +kernel, by decide +kernel⟩, List.mem_of_getElem? (i := 276) (by decide +kernel), List.mem_of_getElem? (i := 1211) (by decide +kernel), List.mem_of_getElem? (i := 1212) (by decide +kernel)⟩
theorem lw_p43 : lw_okq (⟨"QuotedBooks$Ordering", "layLeast", "()V"⟩, 18) := ⟨⟨by decide +kernel, by decide +kernel⟩, List.mem_of_getElem? (i := 276) (by decide +kernel), List.mem_of_getElem? (i := 1215) (by decide +kernel), List.mem_of_getElem? (i := 1216) (by decide +kernel)⟩
theorem lw_p44 : lw_okq (⟨"QuotedBooks$Ordering", "compareAll", "()V"⟩, 18) := ⟨⟨by decide +kernel, by decide +kernel⟩, List.mem_of_getElem? (i := 276) (by decide +kernel), List.mem_of_getElem? (i := 1248) (by decide +kernel), List.mem_of_getElem? (i := 1249) (by decide +kernel)⟩
theorem lw_p45 : lw_okq (⟨"QuotedBooks$Ordering", "markNext", "(III)V"⟩, 18) := ⟨⟨by decide +kernel, by decide +kernel⟩, List.mem_of_getElem? (i := 276) (by decide +kernel), List.mem_of_getElem? (i := 1252) (by decide +kernel), List.mem_of_getElem? (i := 1253) (by decide +kernel)⟩
theorem lw_p46 : lw_okq (⟨"QuotedBooks", "tableProduct", "(JII)J"⟩, 16) := ⟨⟨by decide +kernel, by decide +kernel⟩, List.mem_of_getElem? (i := 24) (by decide +kernel), List.mem_of_getElem? (i := 1260) (by decide +kernel), List.mem_of_getElem? (i := 1261) (by decide +kernel)⟩
theorem lw_p47 : lw_okq (⟨"QuotedBooks$Authorship", "pointsFor", "(II)I"⟩, 12) := ⟨⟨by decide +kernel, by decide +kernel⟩, List.mem_of_getElem? (i := 337) (by decide +kernel), List.mem_of_getElem? (i := 1310) (by decide +kernel), List.mem_of_getElem? (i := 1311) (by decide +kernel)⟩
def lw_privs_3 : List (MethodName × Nat) := [(⟨"QuotedBooks$Slips", "others", "(III)I"⟩, 5), (⟨"QuotedBooks$Slips", "has", "(I)Z"⟩, 5), (⟨"QuotedBooks$Slips", "addPlace", "(III)V"⟩, 5), (⟨"QuotedBooks$Odds", "reduce", "(JJ)V"⟩, 2), (⟨"QuotedBooks$Copies", "costFromOther", "()I"⟩, 10), (⟨"QuotedBooks$Ordering", "gather", "(I)V"⟩, 18), (⟨"QuotedBooks$Ordering", "placeOf", "(I)I"⟩, 18), (⟨"QuotedBooks$Ordering", "search", "()V"⟩, 18), (⟨"QuotedBooks$Ordering", "fillGains", "()V"⟩, 18), (⟨"QuotedBooks$Ordering", "complete", "(II)V"⟩, 18), (⟨"QuotedBooks$Ordering", "behind", "(III)I"⟩, 18), (⟨"QuotedBooks$Ordering", "layLeast", "()V"⟩, 18), (⟨"QuotedBooks$Ordering", "compareAll", "()V"⟩, 18), (⟨"QuotedBooks$Ordering", "markNext", "(III)V"⟩, 18), (⟨"QuotedBooks", "tableProduct", "(JII)J"⟩, 16), (⟨"QuotedBooks$Authorship", "pointsFor", "(II)I"⟩, 12)]
theorem lw_r3 : ∀ q ∈ lw_privs_3, lw_okq q := List.forall_mem_cons.mpr ⟨lw_p32, List.forall_mem_cons.mpr ⟨lw_p33, List.forall_mem_cons.mpr ⟨lw_p34, List.forall_mem_cons.mpr ⟨lw_p35, List.forall_mem_cons.mpr ⟨lw_p36, List.forall_mem_cons.mpr ⟨lw_p37, List.forall_mem_cons.mpr ⟨lw_p38, List.forall_mem_cons.mpr ⟨lw_p39, List.forall_mem_cons.mpr ⟨lw_p40, List.forall_mem_cons.mpr ⟨lw_p41, List.forall_mem_cons.mpr ⟨lw_p42, List.forall_mem_cons.mpr ⟨lw_p43, List.forall_mem_cons.mpr ⟨lw_p44, List.forall_mem_cons.mpr ⟨lw_p45, List.forall_mem_cons.mpr ⟨lw_p46, List.forall_mem_cons.mpr ⟨lw_p47, fun _ h => absurd h List.not_mem_nil⟩⟩⟩⟩⟩⟩⟩⟩⟩⟩⟩⟩⟩⟩⟩⟩
theorem lw_p48 : lw_okq (⟨"QuotedBooks$Authorship", "gatherUses", "(II)V"⟩, 12) := ⟨⟨by decide +kernel, by decide +kernel⟩, List.mem_of_getElem? (i := 337) (by decide +kernel), List.mem_of_getElem? (i := 1314) (by decide +kernel), List.mem_of_getElem? (i := 1315) (by decide +kernel)⟩
theorem lw_p49 : lw_okq (⟨"QuotedBooks$Authorship", "addUse", "(I)V"⟩, 12) := ⟨⟨by decide +kernel, by decide +kernel⟩, List.mem_of_getElem? (i := 337) (by decide +kernel), List.mem_of_getElem? (i := 1325) (by decide +kernel), List.mem_of_getElem? (i := 1326) (by decide +kernel)⟩
theorem lw_p50 : lw_okq (⟨"QuotedBooks$Authorship", "fillBonds", "()V"⟩, 12) := ⟨⟨by decide +kernel, by decide +kernel⟩, List.mem_of_getElem? (i := 337) (by decide +kernel), List.mem_of_getElem? (i := 1365) (by decide +kernel), List.mem_of_getElem? (i := 1366) (by decide +kernel)⟩
theorem lw_p51 : lw_okq (⟨"QuotedBooks$Authorship", "kindsOf", "(I)J"⟩, 12) := ⟨⟨by decide +kernel, by decide +kernel⟩, List.mem_of_getElem? (i := 337) (by decide +kernel), List.mem_of_getElem? (i := 1373) (by decide +kernel), List.mem_of_getElem? (i := 1374) (by decide +kernel)⟩
theorem lw_p52 : lw_okq (⟨"QuotedBooks$Authorship", "valueOf", "(I)I"⟩, 12) := ⟨⟨by decide +kernel, by decide +kernel⟩, List.mem_of_getElem? (i := 337) (by decide +kernel), List.mem_of_getElem? (i := 1378) (by decide +kernel), List.mem_of_getElem? (i := 1379) (by decide +kernel)⟩
theorem lw_p53 : lw_okq (⟨"QuotedBooks$Authorship", "bitsOf", "(I)J"⟩, 12) := ⟨⟨by decide +kernel, by decide +kernel⟩, List.mem_of_getElem? (i := 337) (by decide +kernel), List.mem_of_getElem? (i := 1382) (by decide +kernel), List.mem_of_getElem? (i := 1383) (by decide +kernel)⟩
theorem lw_p54 : lw_okq (⟨"QuotedBooks$Editors", "isWrong", "(II)Z"⟩, 5) := ⟨⟨by decide +kernel, by decide +kernel⟩, List.mem_of_getElem? (i := 380) (by decide +kernel), List.mem_of_getElem? (i := 1424) (by decide +kernel), List.mem_of_getElem? (i := 1425) (by decide +kernel)⟩
theorem lw_p55 : lw_okq (⟨"QuotedBooks", "firstNotSo", "(II)I"⟩, 16) := ⟨⟨by decide +kernel, by decide +kernel⟩, List.mem_of_getElem? (i := 24) (by decide +kernel), List.mem_of_getElem? (i := 1450) (by decide +kernel), List.mem_of_getElem? (i := 1451) (by decide +kernel)⟩
theorem lw_p56 : lw_okq (⟨"QuotedBooksModel", "isAuthor", "(I)Z"⟩, 92) := ⟨⟨by decide +kernel, by decide +kernel⟩, List.mem_of_getElem? (i := 1469) (by decide +kernel), List.mem_of_getElem? (i := 1766) (by decide +kernel), List.mem_of_getElem? (i := 1767) (by decide +kernel)⟩
theorem lw_p57 : lw_okq (⟨"QuotedBooksModel", "push", "(I)V"⟩, 92) := ⟨⟨by decide +kernel, by decide +kernel⟩, List.mem_of_getElem? (i := 1469) (by decide +kernel), List.mem_of_getElem? (i := 1784) (by decide +kernel), List.mem_of_getElem? (i := 1785) (by decide +kernel)⟩
theorem lw_p58 : lw_okq (⟨"QuotedBooksModel", "isWork", "(I)Z"⟩, 92) := ⟨⟨by decide +kernel, by decide +kernel⟩, List.mem_of_getElem? (i := 1469) (by decide +kernel), List.mem_of_getElem? (i := 1792) (by decide +kernel), List.mem_of_getElem? (i := 1793) (by decide +kernel)⟩
theorem lw_p59 : lw_okq (⟨"QuotedBooksModel", "isWriter", "(I)Z"⟩, 92) := ⟨⟨by decide +kernel, by decide +kernel⟩, List.mem_of_getElem? (i := 1469) (by decide +kernel), List.mem_of_getElem? (i := 1801) (by decide +kernel), List.mem_of_getElem? (i := 1802) (by decide +kernel)⟩
theorem lw_p60 : lw_okq (⟨"QuotedBooksModel", "comes", "(IIIII)V"⟩, 92) := ⟨⟨by decide +kernel, by decide +kernel⟩, List.mem_of_getElem? (i := 1469) (by decide +kernel), List.mem_of_getElem? (i := 1807) (by decide +kernel), List.mem_of_getElem? (i := 1808) (by decide +kernel)⟩
theorem lw_p61 : lw_okq (⟨"QuotedBooksModel", "readsText", "(II)I"⟩, 92) := ⟨⟨by decide +kernel, by decide +kernel⟩, List.mem_of_getElem? (i := 1469) (by decide +kernel), List.mem_of_getElem? (i := 1815) (by decide +kernel), List.mem_of_getElem? (i := 1816) (by decide +kernel)⟩
theorem lw_p62 : lw_okq (⟨"QuotedBooksModel", "isGood", "()Z"⟩, 92) := ⟨⟨by decide +kernel, by decide +kernel⟩, List.mem_of_getElem? (i := 1469) (by decide +kernel), List.mem_of_getElem? (i := 1820) (by decide +kernel), List.mem_of_getElem? (i := 1821) (by decide +kernel)⟩
theorem lw_p63 : lw_okq (⟨"QuotedBooksModel", "clause", "(I)V"⟩, 92) := ⟨⟨by decide +kernel, by decide +kernel⟩, List.mem_of_getElem? (i := 1469) (by decide +kernel), List.mem_of_getElem? (i := 1824) (by decide +kernel), List.mem_of_getElem? (i := 1825) (by decide +kernel)⟩
def lw_privs_4 : List (MethodName × Nat) := [(⟨"QuotedBooks$Authorship", "gatherUses", "(II)V"⟩, 12), (⟨"QuotedBooks$Authorship", "addUse", "(I)V"⟩, 12), (⟨"QuotedBooks$Authorship", "fillBonds", "()V"⟩, 12), (⟨"QuotedBooks$Authorship", "kindsOf", "(I)J"⟩, 12), (⟨"QuotedBooks$Authorship", "valueOf", "(I)I"⟩, 12), (⟨"QuotedBooks$Authorship", "bitsOf", "(I)J"⟩, 12), (⟨"QuotedBooks$Editors", "isWrong", "(II)Z"⟩, 5), (⟨"QuotedBooks", "firstNotSo", "(II)I"⟩, 16), (⟨"QuotedBooksModel", "isAuthor", "(I)Z"⟩, 92), (⟨"QuotedBooksModel", "push", "(I)V"⟩, 92), (⟨"QuotedBooksModel", "isWork", "(I)Z"⟩, 92), (⟨"QuotedBooksModel", "isWriter", "(I)Z"⟩, 92), (⟨"QuotedBooksModel", "comes", "(IIIII)V"⟩, 92), (⟨"QuotedBooksModel", "readsText", "(II)I"⟩, 92), (⟨"QuotedBooksModel", "isGood", "()Z"⟩, 92), (⟨"QuotedBooksModel", "clause", "(I)V"⟩, 92)]
theorem lw_r4 : ∀ q ∈ lw_privs_4, lw_okq q := List.forall_mem_cons.mpr ⟨lw_p48, List.forall_mem_cons.mpr ⟨lw_p49, List.forall_mem_cons.mpr ⟨lw_p50, List.forall_mem_cons.mpr ⟨lw_p51, List.forall_mem_cons.mpr ⟨lw_p52, List.forall_mem_cons.mpr ⟨lw_p53, List.forall_mem_cons.mpr ⟨lw_p54, List.forall_mem_cons.mpr ⟨lw_p55, List.forall_mem_cons.mpr ⟨lw_p56, List.forall_mem_cons.mpr ⟨lw_p57, List.forall_mem_cons.mpr ⟨lw_p58, List.forall_mem_cons.mpr ⟨lw_p59, List.forall_mem_cons.mpr ⟨lw_p60, List.forall_mem_cons.mpr ⟨lw_p61, List.forall_mem_cons.mpr ⟨lw_p62, List.forall_mem_cons.mpr ⟨lw_p63, fun _ h => absurd h List.not_mem_nil⟩⟩⟩⟩⟩⟩⟩⟩⟩⟩⟩⟩⟩⟩⟩⟩
theorem lw_p64 : lw_okq (⟨"QuotedBooksModel", "here", "()I"⟩, 92) := ⟨⟨by decide +kernel, by decide +kernel⟩, List.mem_of_getElem? (i := 1469) (by decide +kernel), List.mem_of_getElem? (i := 1828) (by decide +kernel), List.mem_of_getElem? (i := 1829) (by decide +kernel)⟩
theorem lw_p65 : lw_okq (⟨"QuotedBooksModel", "wrongs", "(II)V"⟩, 92) := ⟨⟨by decide +kernel, by decide +kernel⟩, List.mem_of_getElem? (i := 1469) (by decide +kernel), List.mem_of_getElem? (i := 1835) (by decide +kernel), List.mem_of_getElem? (i := 1836) (by decide +kernel)⟩
theorem lw_p66 : lw_okq (⟨"QuotedBooksModel", "value", "()V"⟩, 92) := ⟨⟨by decide +kernel, by decide +kernel⟩, List.mem_of_getElem? (i := 1469) (by decide +kernel), List.mem_of_getElem? (i := 1839) (by decide +kernel), List.mem_of_getElem? (i := 1840) (by decide +kernel)⟩
theorem lw_p67 : lw_okq (⟨"QuotedBooksModel", "factor", "()V"⟩, 92) := ⟨⟨by decide +kernel, by decide +kernel⟩, List.mem_of_getElem? (i := 1469) (by decide +kernel), List.mem_of_getElem? (i := 1843) (by decide +kernel), List.mem_of_getElem? (i := 1844) (by decide +kernel)⟩
theorem lw_p68 : lw_okq (⟨"QuotedBooksModel", "opens", "()V"⟩, 92) := ⟨⟨by decide +kernel, by decide +kernel⟩, List.mem_of_getElem? (i := 1469) (by decide +kernel), List.mem_of_getElem? (i := 1847) (by decide +kernel), List.mem_of_getElem? (i := 1848) (by decide +kernel)⟩
theorem lw_p69 : lw_okq (⟨"QuotedBooksModel", "puts", "(I)V"⟩, 92) := ⟨⟨by decide +kernel, by decide +kernel⟩, List.mem_of_getElem? (i := 1469) (by decide +kernel), List.mem_of_getElem? (i := 1851) (by decide +kernel), List.mem_of_getElem? (i := 1852) (by decide +kernel)⟩
theorem lw_p70 : lw_okq (⟨"QuotedBooksModel", "seesDigit", "()Z"⟩, 92) := ⟨⟨by decide +kernel, by decide +kernel⟩, List.mem_of_getElem? (i := 1469) (by decide +kernel), List.mem_of_getElem? (i := 1855) (by decide +kernel), List.mem_of_getElem? (i := 1856) (by decide +kernel)⟩
theorem lw_p71 : lw_okq (⟨"QuotedBooksModel", "reads", "()I"⟩, 92) := ⟨⟨by decide +kernel, by decide +kernel⟩, List.mem_of_getElem? (i := 1469) (by decide +kernel), List.mem_of_getElem? (i := 1861) (by decide +kernel), List.mem_of_getElem? (i := 1862) (by decide +kernel)⟩
theorem lw_p72 : lw_okq (⟨"QuotedBooksModel", "emit", "(II)V"⟩, 92) := ⟨⟨by decide +kernel, by decide +kernel⟩, List.mem_of_getElem? (i := 1469) (by decide +kernel), List.mem_of_getElem? (i := 1865) (by decide +kernel), List.mem_of_getElem? (i := 1866) (by decide +kernel)⟩
theorem lw_p73 : lw_okq (⟨"QuotedBooksModel", "stays", "()Z"⟩, 92) := ⟨⟨by decide +kernel, by decide +kernel⟩, List.mem_of_getElem? (i := 1469) (by decide +kernel), List.mem_of_getElem? (i := 1872) (by decide +kernel), List.mem_of_getElem? (i := 1873) (by decide +kernel)⟩
theorem lw_p74 : lw_okq (⟨"QuotedBooksModel", "sums", "(Z)V"⟩, 92) := ⟨⟨by decide +kernel, by decide +kernel⟩, List.mem_of_getElem? (i := 1469) (by decide +kernel), List.mem_of_getElem? (i := 1882) (by decide +kernel), List.mem_of_getElem? (i := 1883) (by decide +kernel)⟩
theorem lw_p75 : lw_okq (⟨"QuotedBooksModel", "top", "()I"⟩, 92) := ⟨⟨by decide +kernel, by decide +kernel⟩, List.mem_of_getElem? (i := 1469) (by decide +kernel), List.mem_of_getElem? (i := 1886) (by decide +kernel), List.mem_of_getElem? (i := 1887) (by decide +kernel)⟩
theorem lw_p76 : lw_okq (⟨"QuotedBooksModel", "condition", "()V"⟩, 92) := ⟨⟨by decide +kernel, by decide +kernel⟩, List.mem_of_getElem? (i := 1469) (by decide +kernel), List.mem_of_getElem? (i := 1890) (by decide +kernel), List.mem_of_getElem? (i := 1891) (by decide +kernel)⟩
theorem lw_p77 : lw_okq (⟨"QuotedBooksModel", "pieceOfC", "()V"⟩, 92) := ⟨⟨by decide +kernel, by decide +kernel⟩, List.mem_of_getElem? (i := 1469) (by decide +kernel), List.mem_of_getElem? (i := 1894) (by decide +kernel), List.mem_of_getElem? (i := 1895) (by decide +kernel)⟩
theorem lw_p78 : lw_okq (⟨"QuotedBooksModel", "ends", "()V"⟩, 92) := ⟨⟨by decide +kernel, by decide +kernel⟩, List.mem_of_getElem? (i := 1469) (by decide +kernel), List.mem_of_getElem? (i := 1901) (by decide +kernel), List.mem_of_getElem? (i := 1902) (by decide +kernel)⟩
theorem lw_p79 : lw_okq (⟨"QuotedBooksModel", "goesBehind", "()Z"⟩, 92) := ⟨⟨by decide +kernel, by decide +kernel⟩, List.mem_of_getElem? (i := 1469) (by decide +kernel), List.mem_of_getElem? (i := 1905) (by decide +kernel), List.mem_of_getElem? (i := 1906) (by decide +kernel)⟩
def lw_privs_5 : List (MethodName × Nat) := [(⟨"QuotedBooksModel", "here", "()I"⟩, 92), (⟨"QuotedBooksModel", "wrongs", "(II)V"⟩, 92), (⟨"QuotedBooksModel", "value", "()V"⟩, 92), (⟨"QuotedBooksModel", "factor", "()V"⟩, 92), (⟨"QuotedBooksModel", "opens", "()V"⟩, 92), (⟨"QuotedBooksModel", "puts", "(I)V"⟩, 92), (⟨"QuotedBooksModel", "seesDigit", "()Z"⟩, 92), (⟨"QuotedBooksModel", "reads", "()I"⟩, 92), (⟨"QuotedBooksModel", "emit", "(II)V"⟩, 92), (⟨"QuotedBooksModel", "stays", "()Z"⟩, 92), (⟨"QuotedBooksModel", "sums", "(Z)V"⟩, 92), (⟨"QuotedBooksModel", "top", "()I"⟩, 92), (⟨"QuotedBooksModel", "condition", "()V"⟩, 92), (⟨"QuotedBooksModel", "pieceOfC", "()V"⟩, 92), (⟨"QuotedBooksModel", "ends", "()V"⟩, 92), (⟨"QuotedBooksModel", "goesBehind", "()Z"⟩, 92)]
theorem lw_r5 : ∀ q ∈ lw_privs_5, lw_okq q := List.forall_mem_cons.mpr ⟨lw_p64, List.forall_mem_cons.mpr ⟨lw_p65, List.forall_mem_cons.mpr ⟨lw_p66, List.forall_mem_cons.mpr ⟨lw_p67, List.forall_mem_cons.mpr ⟨lw_p68, List.forall_mem_cons.mpr ⟨lw_p69, List.forall_mem_cons.mpr ⟨lw_p70, List.forall_mem_cons.mpr ⟨lw_p71, List.forall_mem_cons.mpr ⟨lw_p72, List.forall_mem_cons.mpr ⟨lw_p73, List.forall_mem_cons.mpr ⟨lw_p74, List.forall_mem_cons.mpr ⟨lw_p75, List.forall_mem_cons.mpr ⟨lw_p76, List.forall_mem_cons.mpr ⟨lw_p77, List.forall_mem_cons.mpr ⟨lw_p78, List.forall_mem_cons.mpr ⟨lw_p79, fun _ h => absurd h List.not_mem_nil⟩⟩⟩⟩⟩⟩⟩⟩⟩⟩⟩⟩⟩⟩⟩⟩
theorem lw_p80 : lw_okq (⟨"QuotedBooksModel", "joins", "(Z)V"⟩, 92) := ⟨⟨by decide +kernel, by decide +kernel⟩, List.mem_of_getElem? (i := 1469) (by decide +kernel), List.mem_of_getElem? (i := 1909) (by decide +kernel), List.mem_of_getElem? (i := 1910) (by decide +kernel)⟩
theorem lw_p81 : lw_okq (⟨"QuotedBooksModel", "isLeft", "(I)Z"⟩, 92) := ⟨⟨by decide +kernel, by decide +kernel⟩, List.mem_of_getElem? (i := 1469) (by decide +kernel), List.mem_of_getElem? (i := 1929) (by decide +kernel), List.mem_of_getElem? (i := 1930) (by decide +kernel)⟩
theorem lw_p82 : lw_okq (⟨"QuotedBooksModel", "stands", "(IIIII)V"⟩, 92) := ⟨⟨by decide +kernel, by decide +kernel⟩, List.mem_of_getElem? (i := 1469) (by decide +kernel), List.mem_of_getElem? (i := 1934) (by decide +kernel), List.mem_of_getElem? (i := 1935) (by decide +kernel)⟩
theorem lw_p83 : lw_okq (⟨"QuotedBooksModel", "clears", "()V"⟩, 92) := ⟨⟨by decide +kernel, by decide +kernel⟩, List.mem_of_getElem? (i := 1469) (by decide +kernel), List.mem_of_getElem? (i := 1938) (by decide +kernel), List.mem_of_getElem? (i := 1939) (by decide +kernel)⟩
theorem lw_p84 : lw_okq (⟨"QuotedBooksModel", "tells", "(IIII)I"⟩, 92) := ⟨⟨by decide +kernel, by decide +kernel⟩, List.mem_of_getElem? (i := 1469) (by decide +kernel), List.mem_of_getElem? (i := 1942) (by decide +kernel), List.mem_of_getElem? (i := 1943) (by decide +kernel)⟩
theorem lw_p85 : lw_okq (⟨"QuotedBooksModel", "reckons", "(II)V"⟩, 92) := ⟨⟨by decide +kernel, by decide +kernel⟩, List.mem_of_getElem? (i := 1469) (by decide +kernel), List.mem_of_getElem? (i := 1946) (by decide +kernel), List.mem_of_getElem? (i := 1947) (by decide +kernel)⟩
theorem lw_p86 : lw_okq (⟨"QuotedBooksModel", "does", "(II)V"⟩, 92) := ⟨⟨by decide +kernel, by decide +kernel⟩, List.mem_of_getElem? (i := 1469) (by decide +kernel), List.mem_of_getElem? (i := 1950) (by decide +kernel), List.mem_of_getElem? (i := 1951) (by decide +kernel)⟩
theorem lw_p87 : lw_okq (⟨"QuotedBooksModel", "valueOf", "(I)I"⟩, 92) := ⟨⟨by decide +kernel, by decide +kernel⟩, List.mem_of_getElem? (i := 1469) (by decide +kernel), List.mem_of_getElem? (i := 1957) (by decide +kernel), List.mem_of_getElem? (i := 1958) (by decide +kernel)⟩
theorem lw_p88 : lw_okq (⟨"QuotedBooksModel", "isBit", "(I)Z"⟩, 92) := ⟨⟨by decide +kernel, by decide +kernel⟩, List.mem_of_getElem? (i := 1469) (by decide +kernel), List.mem_of_getElem? (i := 1965) (by decide +kernel), List.mem_of_getElem? (i := 1966) (by decide +kernel)⟩
theorem lw_p89 : lw_okq (⟨"QuotedBooksModel", "farOf", "(II)I"⟩, 92) := ⟨⟨by decide +kernel, by decide +kernel⟩, List.mem_of_getElem? (i := 1469) (by decide +kernel), List.mem_of_getElem? (i := 1973) (by decide +kernel), List.mem_of_getElem? (i := 1974) (by decide +kernel)⟩
theorem lw_p90 : lw_okq (⟨"QuotedBooksModel", "starts", "(I)V"⟩, 92) := ⟨⟨by decide +kernel, by decide +kernel⟩, List.mem_of_getElem? (i := 1469) (by decide +kernel), List.mem_of_getElem? (i := 1977) (by decide +kernel), List.mem_of_getElem? (i := 1978) (by decide +kernel)⟩
theorem lw_p91 : lw_okq (⟨"QuotedBooksModel", "goesOn", "(II)V"⟩, 92) := ⟨⟨by decide +kernel, by decide +kernel⟩, List.mem_of_getElem? (i := 1469) (by decide +kernel), List.mem_of_getElem? (i := 1981) (by decide +kernel), List.mem_of_getElem? (i := 1982) (by decide +kernel)⟩
theorem lw_p92 : lw_okq (⟨"QuotedBooksModel", "nears", "(II)V"⟩, 92) := ⟨⟨by decide +kernel, by decide +kernel⟩, List.mem_of_getElem? (i := 1469) (by decide +kernel), List.mem_of_getElem? (i := 1990) (by decide +kernel), List.mem_of_getElem? (i := 1991) (by decide +kernel)⟩
theorem lw_p93 : lw_okq (⟨"QuotedBooksModel", "nearnessNow", "(I)I"⟩, 92) := ⟨⟨by decide +kernel, by decide +kernel⟩, List.mem_of_getElem? (i := 1469) (by decide +kernel), List.mem_of_getElem? (i := 1994) (by decide +kernel), List.mem_of_getElem? (i := 1995) (by decide +kernel)⟩
theorem lw_p94 : lw_okq (⟨"QuotedBooksModel", "standsBoth", "(II)I"⟩, 92) := ⟨⟨by decide +kernel, by decide +kernel⟩, List.mem_of_getElem? (i := 1469) (by decide +kernel), List.mem_of_getElem? (i := 2011) (by decide +kernel), List.mem_of_getElem? (i := 2012) (by decide +kernel)⟩
theorem lw_p95 : lw_okq (⟨"QuotedBooksModel", "leads", "(IIIII)Z"⟩, 92) := ⟨⟨by decide +kernel, by decide +kernel⟩, List.mem_of_getElem? (i := 1469) (by decide +kernel), List.mem_of_getElem? (i := 2015) (by decide +kernel), List.mem_of_getElem? (i := 2016) (by decide +kernel)⟩
def lw_privs_6 : List (MethodName × Nat) := [(⟨"QuotedBooksModel", "joins", "(Z)V"⟩, 92), (⟨"QuotedBooksModel", "isLeft", "(I)Z"⟩, 92), (⟨"QuotedBooksModel", "stands", "(IIIII)V"⟩, 92), (⟨"QuotedBooksModel", "clears", "()V"⟩, 92), (⟨"QuotedBooksModel", "tells", "(IIII)I"⟩, 92), (⟨"QuotedBooksModel", "reckons", "(II)V"⟩, 92), (⟨"QuotedBooksModel", "does", "(II)V"⟩, 92), (⟨"QuotedBooksModel", "valueOf", "(I)I"⟩, 92), (⟨"QuotedBooksModel", "isBit", "(I)Z"⟩, 92), (⟨"QuotedBooksModel", "farOf", "(II)I"⟩, 92), (⟨"QuotedBooksModel", "starts", "(I)V"⟩, 92), (⟨"QuotedBooksModel", "goesOn", "(II)V"⟩, 92), (⟨"QuotedBooksModel", "nears", "(II)V"⟩, 92), (⟨"QuotedBooksModel", "nearnessNow", "(I)I"⟩, 92), (⟨"QuotedBooksModel", "standsBoth", "(II)I"⟩, 92), (⟨"QuotedBooksModel", "leads", "(IIIII)Z"⟩, 92)]
theorem lw_r6 : ∀ q ∈ lw_privs_6, lw_okq q := List.forall_mem_cons.mpr ⟨lw_p80, List.forall_mem_cons.mpr ⟨lw_p81, List.forall_mem_cons.mpr ⟨lw_p82, List.forall_mem_cons.mpr ⟨lw_p83, List.forall_mem_cons.mpr ⟨lw_p84, List.forall_mem_cons.mpr ⟨lw_p85, List.forall_mem_cons.mpr ⟨lw_p86, List.forall_mem_cons.mpr ⟨lw_p87, List.forall_mem_cons.mpr ⟨lw_p88, List.forall_mem_cons.mpr ⟨lw_p89, List.forall_mem_cons.mpr ⟨lw_p90, List.forall_mem_cons.mpr ⟨lw_p91, List.forall_mem_cons.mpr ⟨lw_p92, List.forall_mem_cons.mpr ⟨lw_p93, List.forall_mem_cons.mpr ⟨lw_p94, List.forall_mem_cons.mpr ⟨lw_p95, fun _ h => absurd h List.not_mem_nil⟩⟩⟩⟩⟩⟩⟩⟩⟩⟩⟩⟩⟩⟩⟩⟩
theorem lw_p96 : lw_okq (⟨"QuotedBooksModel", "findsWord", "(III)I"⟩, 92) := ⟨⟨by decide +kernel, by decide +kernel⟩, List.mem_of_getElem? (i := 1469) (by decide +kernel), List.mem_of_getElem? (i := 2019) (by decide +kernel), List.mem_of_getElem? (i := 2020) (by decide +kernel)⟩
theorem lw_p97 : lw_okq (⟨"QuotedBooksModel", "lays", "(I)V"⟩, 92) := ⟨⟨by decide +kernel, by decide +kernel⟩, List.mem_of_getElem? (i := 1469) (by decide +kernel), List.mem_of_getElem? (i := 2027) (by decide +kernel), List.mem_of_getElem? (i := 2028) (by decide +kernel)⟩
theorem lw_p98 : lw_okq (⟨"QuotedBooksModel", "slipsOf", "(II)J"⟩, 92) := ⟨⟨by decide +kernel, by decide +kernel⟩, List.mem_of_getElem? (i := 1469) (by decide +kernel), List.mem_of_getElem? (i := 2031) (by decide +kernel), List.mem_of_getElem? (i := 2032) (by decide +kernel)⟩
theorem lw_p99 : lw_okq (⟨"QuotedBooksModel", "slipsAt", "(III)Z"⟩, 92) := ⟨⟨by decide +kernel, by decide +kernel⟩, List.mem_of_getElem? (i := 1469) (by decide +kernel), List.mem_of_getElem? (i := 2035) (by decide +kernel), List.mem_of_getElem? (i := 2036) (by decide +kernel)⟩
theorem lw_p100 : lw_okq (⟨"QuotedBooksModel", "hasPlace", "(II)Z"⟩, 92) := ⟨⟨by decide +kernel, by decide +kernel⟩, List.mem_of_getElem? (i := 1469) (by decide +kernel), List.mem_of_getElem? (i := 2039) (by decide +kernel), List.mem_of_getElem? (i := 2040) (by decide +kernel)⟩
theorem lw_p101 : lw_okq (⟨"QuotedBooksModel", "placesOf", "(I)J"⟩, 92) := ⟨⟨by decide +kernel, by decide +kernel⟩, List.mem_of_getElem? (i := 1469) (by decide +kernel), List.mem_of_getElem? (i := 2046) (by decide +kernel), List.mem_of_getElem? (i := 2047) (by decide +kernel)⟩
theorem lw_p102 : lw_okq (⟨"QuotedBooksModel", "shares", "(III)V"⟩, 92) := ⟨⟨by decide +kernel, by decide +kernel⟩, List.mem_of_getElem? (i := 1469) (by decide +kernel), List.mem_of_getElem? (i := 2059) (by decide +kernel), List.mem_of_getElem? (i := 2060) (by decide +kernel)⟩
theorem lw_p103 : lw_okq (⟨"QuotedBooksModel", "fromOf", "(II)I"⟩, 92) := ⟨⟨by decide +kernel, by decide +kernel⟩, List.mem_of_getElem? (i := 1469) (by decide +kernel), List.mem_of_getElem? (i := 2081) (by decide +kernel), List.mem_of_getElem? (i := 2082) (by decide +kernel)⟩
theorem lw_p104 : lw_okq (⟨"QuotedBooksModel", "isOrdered", "(I)Z"⟩, 92) := ⟨⟨by decide +kernel, by decide +kernel⟩, List.mem_of_getElem? (i := 1469) (by decide +kernel), List.mem_of_getElem? (i := 2097) (by decide +kernel), List.mem_of_getElem? (i := 2098) (by decide +kernel)⟩
theorem lw_p105 : lw_okq (⟨"QuotedBooksModel", "gathers", "(II)Z"⟩, 92) := ⟨⟨by decide +kernel, by decide +kernel⟩, List.mem_of_getElem? (i := 1469) (by decide +kernel), List.mem_of_getElem? (i := 2101) (by decide +kernel), List.mem_of_getElem? (i := 2102) (by decide +kernel)⟩
theorem lw_p106 : lw_okq (⟨"QuotedBooksModel", "standsPlan", "(II)V"⟩, 92) := ⟨⟨by decide +kernel, by decide +kernel⟩, List.mem_of_getElem? (i := 1469) (by decide +kernel), List.mem_of_getElem? (i := 2105) (by decide +kernel), List.mem_of_getElem? (i := 2106) (by decide +kernel)⟩
theorem lw_p107 : lw_okq (⟨"QuotedBooksModel", "laysOrder", "()Z"⟩, 92) := ⟨⟨by decide +kernel, by decide +kernel⟩, List.mem_of_getElem? (i := 1469) (by decide +kernel), List.mem_of_getElem? (i := 2109) (by decide +kernel), List.mem_of_getElem? (i := 2110) (by decide +kernel)⟩
theorem lw_p108 : lw_okq (⟨"QuotedBooksModel", "weighs", "(II)V"⟩, 92) := ⟨⟨by decide +kernel, by decide +kernel⟩, List.mem_of_getElem? (i := 1469) (by decide +kernel), List.mem_of_getElem? (i := 2113) (by decide +kernel), List.mem_of_getElem? (i := 2114) (by decide +kernel)⟩
theorem lw_p109 : lw_okq (⟨"QuotedBooksModel", "mayCome", "(II)Z"⟩, 92) := ⟨⟨by decide +kernel, by decide +kernel⟩, List.mem_of_getElem? (i := 1469) (by decide +kernel), List.mem_of_getElem? (i := 2117) (by decide +kernel), List.mem_of_getElem? (i := 2118) (by decide +kernel)⟩
theorem lw_p110 : lw_okq (⟨"QuotedBooksModel", "atPlace", "(I)I"⟩, 92) := ⟨⟨by decide +kernel, by decide +kernel⟩, List.mem_of_getElem? (i := 1469) (by decide +kernel), List.mem_of_getElem? (i := 2122) (by decide +kernel), List.mem_of_getElem? (i := 2123) (by decide +kernel)⟩
theorem lw_p111 : lw_okq (⟨"QuotedBooksModel", "isNext", "(III)Z"⟩, 92) := ⟨⟨by decide +kernel, by decide +kernel⟩, List.mem_of_getElem? (i := 1469) (by decide +kernel), List.mem_of_getElem? (i := 2126) (by decide +kernel), List.mem_of_getElem? (i := 2127) (by decide +kernel)⟩
def lw_privs_7 : List (MethodName × Nat) := [(⟨"QuotedBooksModel", "findsWord", "(III)I"⟩, 92), (⟨"QuotedBooksModel", "lays", "(I)V"⟩, 92), (⟨"QuotedBooksModel", "slipsOf", "(II)J"⟩, 92), (⟨"QuotedBooksModel", "slipsAt", "(III)Z"⟩, 92), (⟨"QuotedBooksModel", "hasPlace", "(II)Z"⟩, 92), (⟨"QuotedBooksModel", "placesOf", "(I)J"⟩, 92), (⟨"QuotedBooksModel", "shares", "(III)V"⟩, 92), (⟨"QuotedBooksModel", "fromOf", "(II)I"⟩, 92), (⟨"QuotedBooksModel", "isOrdered", "(I)Z"⟩, 92), (⟨"QuotedBooksModel", "gathers", "(II)Z"⟩, 92), (⟨"QuotedBooksModel", "standsPlan", "(II)V"⟩, 92), (⟨"QuotedBooksModel", "laysOrder", "()Z"⟩, 92), (⟨"QuotedBooksModel", "weighs", "(II)V"⟩, 92), (⟨"QuotedBooksModel", "mayCome", "(II)Z"⟩, 92), (⟨"QuotedBooksModel", "atPlace", "(I)I"⟩, 92), (⟨"QuotedBooksModel", "isNext", "(III)Z"⟩, 92)]
theorem lw_r7 : ∀ q ∈ lw_privs_7, lw_okq q := List.forall_mem_cons.mpr ⟨lw_p96, List.forall_mem_cons.mpr ⟨lw_p97, List.forall_mem_cons.mpr ⟨lw_p98, List.forall_mem_cons.mpr ⟨lw_p99, List.forall_mem_cons.mpr ⟨lw_p100, List.forall_mem_cons.mpr ⟨lw_p101, List.forall_mem_cons.mpr ⟨lw_p102, List.forall_mem_cons.mpr ⟨lw_p103, List.forall_mem_cons.mpr ⟨lw_p104, List.forall_mem_cons.mpr ⟨lw_p105, List.forall_mem_cons.mpr ⟨lw_p106, List.forall_mem_cons.mpr ⟨lw_p107, List.forall_mem_cons.mpr ⟨lw_p108, List.forall_mem_cons.mpr ⟨lw_p109, List.forall_mem_cons.mpr ⟨lw_p110, List.forall_mem_cons.mpr ⟨lw_p111, fun _ h => absurd h List.not_mem_nil⟩⟩⟩⟩⟩⟩⟩⟩⟩⟩⟩⟩⟩⟩⟩⟩
theorem lw_p112 : lw_okq (⟨"QuotedBooksModel", "orderOf", "(I)I"⟩, 92) := ⟨⟨by decide +kernel, by decide +kernel⟩, List.mem_of_getElem? (i := 1469) (by decide +kernel), List.mem_of_getElem? (i := 2138) (by decide +kernel), List.mem_of_getElem? (i := 2139) (by decide +kernel)⟩
theorem lw_p113 : lw_okq (⟨"QuotedBooksModel", "truthOf", "(JII)J"⟩, 92) := ⟨⟨by decide +kernel, by decide +kernel⟩, List.mem_of_getElem? (i := 1469) (by decide +kernel), List.mem_of_getElem? (i := 2150) (by decide +kernel), List.mem_of_getElem? (i := 2151) (by decide +kernel)⟩
theorem lw_p114 : lw_okq (⟨"QuotedBooksModel", "speaks", "(III)I"⟩, 92) := ⟨⟨by decide +kernel, by decide +kernel⟩, List.mem_of_getElem? (i := 1469) (by decide +kernel), List.mem_of_getElem? (i := 2154) (by decide +kernel), List.mem_of_getElem? (i := 2155) (by decide +kernel)⟩
theorem lw_p115 : lw_okq (⟨"QuotedBooksModel", "booksTold", "(I)J"⟩, 92) := ⟨⟨by decide +kernel, by decide +kernel⟩, List.mem_of_getElem? (i := 1469) (by decide +kernel), List.mem_of_getElem? (i := 2162) (by decide +kernel), List.mem_of_getElem? (i := 2163) (by decide +kernel)⟩
theorem lw_p116 : lw_okq (⟨"QuotedBooksModel", "gathersWords", "(I)V"⟩, 92) := ⟨⟨by decide +kernel, by decide +kernel⟩, List.mem_of_getElem? (i := 1469) (by decide +kernel), List.mem_of_getElem? (i := 2183) (by decide +kernel), List.mem_of_getElem? (i := 2184) (by decide +kernel)⟩
theorem lw_p117 : lw_okq (⟨"QuotedBooksModel", "counts", "(II)V"⟩, 92) := ⟨⟨by decide +kernel, by decide +kernel⟩, List.mem_of_getElem? (i := 1469) (by decide +kernel), List.mem_of_getElem? (i := 2187) (by decide +kernel), List.mem_of_getElem? (i := 2188) (by decide +kernel)⟩
theorem lw_p118 : lw_okq (⟨"QuotedBooksModel", "pointsFor", "(II)I"⟩, 92) := ⟨⟨by decide +kernel, by decide +kernel⟩, List.mem_of_getElem? (i := 1469) (by decide +kernel), List.mem_of_getElem? (i := 2191) (by decide +kernel), List.mem_of_getElem? (i := 2192) (by decide +kernel)⟩
theorem lw_p119 : lw_okq (⟨"QuotedBooksModel", "alikeOf", "(II)I"⟩, 92) := ⟨⟨by decide +kernel, by decide +kernel⟩, List.mem_of_getElem? (i := 1469) (by decide +kernel), List.mem_of_getElem? (i := 2200) (by decide +kernel), List.mem_of_getElem? (i := 2201) (by decide +kernel)⟩
theorem lw_p120 : lw_okq (⟨"QuotedBooksModel", "givenOf", "(II)I"⟩, 92) := ⟨⟨by decide +kernel, by decide +kernel⟩, List.mem_of_getElem? (i := 1469) (by decide +kernel), List.mem_of_getElem? (i := 2216) (by decide +kernel), List.mem_of_getElem? (i := 2217) (by decide +kernel)⟩
theorem lw_p121 : lw_okq (⟨"QuotedBooksModel", "numberAt", "(I)I"⟩, 92) := ⟨⟨by decide +kernel, by decide +kernel⟩, List.mem_of_getElem? (i := 1469) (by decide +kernel), List.mem_of_getElem? (i := 2228) (by decide +kernel), List.mem_of_getElem? (i := 2229) (by decide +kernel)⟩
def lw_privs_8 : List (MethodName × Nat) := [(⟨"QuotedBooksModel", "orderOf", "(I)I"⟩, 92), (⟨"QuotedBooksModel", "truthOf", "(JII)J"⟩, 92), (⟨"QuotedBooksModel", "speaks", "(III)I"⟩, 92), (⟨"QuotedBooksModel", "booksTold", "(I)J"⟩, 92), (⟨"QuotedBooksModel", "gathersWords", "(I)V"⟩, 92), (⟨"QuotedBooksModel", "counts", "(II)V"⟩, 92), (⟨"QuotedBooksModel", "pointsFor", "(II)I"⟩, 92), (⟨"QuotedBooksModel", "alikeOf", "(II)I"⟩, 92), (⟨"QuotedBooksModel", "givenOf", "(II)I"⟩, 92), (⟨"QuotedBooksModel", "numberAt", "(I)I"⟩, 92)]
theorem lw_r8 : ∀ q ∈ lw_privs_8, lw_okq q := List.forall_mem_cons.mpr ⟨lw_p112, List.forall_mem_cons.mpr ⟨lw_p113, List.forall_mem_cons.mpr ⟨lw_p114, List.forall_mem_cons.mpr ⟨lw_p115, List.forall_mem_cons.mpr ⟨lw_p116, List.forall_mem_cons.mpr ⟨lw_p117, List.forall_mem_cons.mpr ⟨lw_p118, List.forall_mem_cons.mpr ⟨lw_p119, List.forall_mem_cons.mpr ⟨lw_p120, List.forall_mem_cons.mpr ⟨lw_p121, fun _ h => absurd h List.not_mem_nil⟩⟩⟩⟩⟩⟩⟩⟩⟩⟩
def lw_privs : List (MethodName × Nat) := lw_privs_1 ++ (lw_privs_2 ++ (lw_privs_3 ++ (lw_privs_4 ++ (lw_privs_5 ++ (lw_privs_6 ++ (lw_privs_7 ++ (lw_privs_8)))))))
def lw_tbl : List Cond := k2_sels lw_privs ++ tables_1
theorem lw_privs_ok : ∀ q ∈ lw_privs, lw_okq q := by
  show ∀ q ∈ lw_privs_1 ++ (lw_privs_2 ++ (lw_privs_3 ++ (lw_privs_4 ++ (lw_privs_5 ++ (lw_privs_6 ++ (lw_privs_7 ++ (lw_privs_8))))))), lw_okq q
  exact List.forall_mem_append.mpr ⟨lw_r1, List.forall_mem_append.mpr ⟨lw_r2, List.forall_mem_append.mpr ⟨lw_r3, List.forall_mem_append.mpr ⟨lw_r4, List.forall_mem_append.mpr ⟨lw_r5, List.forall_mem_append.mpr ⟨lw_r6, List.forall_mem_append.mpr ⟨lw_r7, lw_r8⟩⟩⟩⟩⟩⟩⟩
def RX0 : String := "QuotedBooks$Authorship"
def TX0 : u_T := fun k => match k with
  | 0 => ("QuotedBooks$Authorship", "shelf", "LQuotedBooks$Shelf;", true)
  | 1 => ("QuotedBooks$Authorship", "text", "LQuotedBooks$Text;", true)
  | 2 => ("QuotedBooks$Authorship", "uses", "[I", true)
  | 3 => ("QuotedBooks$Authorship", "allUses", "I", false)
  | 4 => ("QuotedBooks$Authorship", "likeliest", "I", false)
  | 5 => ("QuotedBooks$Authorship", "points", "I", false)
  | 6 => ("QuotedBooks$Authorship", "lead", "I", false)
  | 7 => ("QuotedBooks$Authorship", "size", "I", false)
  | 8 => ("QuotedBooks$Authorship", "members", "[I", true)
  | 9 => ("QuotedBooks$Authorship", "bonds", "[I", true)
  | 10 => ("QuotedBooks$Authorship", "secondMan", "J", false)
  | _ => ("QuotedBooks$Authorship", "cutValue", "I", false)
def tyX0 : Nat → FieldType := fun k => match k with
  | 0 => .object "QuotedBooks$Shelf"
  | 1 => .object "QuotedBooks$Text"
  | 2 => .array .int
  | 3 => .int
  | 4 => .int
  | 5 => .int
  | 6 => .int
  | 7 => .int
  | 8 => .array .int
  | 9 => .array .int
  | 10 => .long
  | _ => .int
theorem nmX0 : ∀ a, a < 12 → ∀ b, b < 12 → a ≠ b → (TX0 a).2.1 ≠ (TX0 b).2.1 := by decide +kernel
theorem tyX0_ok : ∀ k, k < 12 → parseFieldDescriptor (TX0 k).2.2.1 = some (tyX0 k) := by decide +kernel
abbrev cX0_init : ByteArray := prog_2_method_1_code
def yX0_init : MethodName := ⟨RX0, "<init>", "(LQuotedBooks$Shelf;LQuotedBooks$Text;)V"⟩
abbrev cX0_likeliest : ByteArray := prog_2_method_2_code
def yX0_likeliest : MethodName := ⟨RX0, "likeliest", "()I"⟩
abbrev cX0_points : ByteArray := prog_2_method_3_code
def yX0_points : MethodName := ⟨RX0, "points", "()I"⟩
abbrev cX0_lead : ByteArray := prog_2_method_4_code
def yX0_lead : MethodName := ⟨RX0, "lead", "()I"⟩
abbrev cX0_secondMan : ByteArray := prog_2_method_5_code
def yX0_secondMan : MethodName := ⟨RX0, "secondMan", "()J"⟩
abbrev cX0_cutValue : ByteArray := prog_2_method_6_code
def yX0_cutValue : MethodName := ⟨RX0, "cutValue", "()I"⟩
abbrev cX0_judge : ByteArray := prog_2_method_7_code
def yX0_judge : MethodName := ⟨RX0, "judge", "(I)V"⟩
abbrev cX0_pointsFor : ByteArray := prog_2_method_8_code
def yX0_pointsFor : MethodName := ⟨RX0, "pointsFor", "(II)I"⟩
abbrev cX0_gatherUses : ByteArray := prog_2_method_9_code
def yX0_gatherUses : MethodName := ⟨RX0, "gatherUses", "(II)V"⟩
abbrev cX0_addUse : ByteArray := prog_2_method_10_code
def yX0_addUse : MethodName := ⟨RX0, "addUse", "(I)V"⟩
abbrev cX0_cut : ByteArray := prog_2_method_11_code
def yX0_cut : MethodName := ⟨RX0, "cut", "(I)Z"⟩
abbrev cX0_bitsOf : ByteArray := prog_2_method_12_code
def yX0_bitsOf : MethodName := ⟨RX0, "bitsOf", "(I)J"⟩
abbrev cX0_fillBonds : ByteArray := prog_2_method_13_code
def yX0_fillBonds : MethodName := ⟨RX0, "fillBonds", "()V"⟩
abbrev cX0_kindsOf : ByteArray := prog_2_method_14_code
def yX0_kindsOf : MethodName := ⟨RX0, "kindsOf", "(I)J"⟩
abbrev cX0_valueOf : ByteArray := prog_2_method_15_code
def yX0_valueOf : MethodName := ⟨RX0, "valueOf", "(I)I"⟩
def RX1 : String := "QuotedBooks$Closeness"
def TX1 : u_T := fun k => match k with
  | 0 => ("QuotedBooks$Closeness", "shelf", "LQuotedBooks$Shelf;", true)
  | 1 => ("QuotedBooks$Closeness", "row", "[I", true)
  | 2 => ("QuotedBooks$Closeness", "found", "[Z", true)
  | 3 => ("QuotedBooks$Closeness", "fars", "[I", true)
  | 4 => ("QuotedBooks$Closeness", "firsts", "[I", true)
  | 5 => ("QuotedBooks$Closeness", "lasts", "[I", true)
  | 6 => ("QuotedBooks$Closeness", "tails", "[I", true)
  | _ => ("QuotedBooks$Closeness", "commonWords", "[I", true)
def tyX1 : Nat → FieldType := fun k => match k with
  | 0 => .object "QuotedBooks$Shelf"
  | 1 => .array .int
  | 2 => .array .boolean
  | 3 => .array .int
  | 4 => .array .int
  | 5 => .array .int
  | 6 => .array .int
  | _ => .array .int
theorem nmX1 : ∀ a, a < 8 → ∀ b, b < 8 → a ≠ b → (TX1 a).2.1 ≠ (TX1 b).2.1 := by decide +kernel
theorem tyX1_ok : ∀ k, k < 8 → parseFieldDescriptor (TX1 k).2.2.1 = some (tyX1 k) := by decide +kernel
abbrev cX1_init : ByteArray := prog_3_method_1_code
def yX1_init : MethodName := ⟨RX1, "<init>", "(LQuotedBooks$Shelf;)V"⟩
abbrev cX1_far : ByteArray := prog_3_method_2_code
def yX1_far : MethodName := ⟨RX1, "far", "(II)I"⟩
abbrev cX1_startRow : ByteArray := prog_3_method_3_code
def yX1_startRow : MethodName := ⟨RX1, "startRow", "(I)V"⟩
abbrev cX1_advance : ByteArray := prog_3_method_4_code
def yX1_advance : MethodName := ⟨RX1, "advance", "(III)V"⟩
abbrev cX1_find : ByteArray := prog_3_method_5_code
def yX1_find : MethodName := ⟨RX1, "find", "(II)V"⟩
abbrev cX1_leastFar : ByteArray := prog_3_method_6_code
def yX1_leastFar : MethodName := ⟨RX1, "leastFar", "(II)I"⟩
abbrev cX1_firstPlace : ByteArray := prog_3_method_7_code
def yX1_firstPlace : MethodName := ⟨RX1, "firstPlace", "(II)I"⟩
abbrev cX1_lastPlace : ByteArray := prog_3_method_8_code
def yX1_lastPlace : MethodName := ⟨RX1, "lastPlace", "(II)I"⟩
abbrev cX1_thousandths : ByteArray := prog_3_method_9_code
def yX1_thousandths : MethodName := ⟨RX1, "thousandths", "(II)I"⟩
abbrev cX1_common : ByteArray := prog_3_method_10_code
def yX1_common : MethodName := ⟨RX1, "common", "(II)I"⟩
abbrev cX1_firstOf : ByteArray := prog_3_method_11_code
def yX1_firstOf : MethodName := ⟨RX1, "firstOf", "(III)I"⟩
abbrev cX1_commonWord : ByteArray := prog_3_method_12_code
def yX1_commonWord : MethodName := ⟨RX1, "commonWord", "(I)I"⟩
abbrev cX1_tail : ByteArray := prog_3_method_13_code
def yX1_tail : MethodName := ⟨RX1, "tail", "(II)I"⟩
abbrev cX1_fillTails : ByteArray := prog_3_method_14_code
def yX1_fillTails : MethodName := ⟨RX1, "fillTails", "(II)V"⟩
def RX2 : String := "QuotedBooks$Copies"
def TX2 : u_T := fun k => match k with
  | 0 => ("QuotedBooks$Copies", "shelf", "LQuotedBooks$Shelf;", true)
  | 1 => ("QuotedBooks$Copies", "odds", "LQuotedBooks$Odds;", true)
  | 2 => ("QuotedBooks$Copies", "one", "LQuotedBooks$Slips;", true)
  | 3 => ("QuotedBooks$Copies", "other", "LQuotedBooks$Slips;", true)
  | 4 => ("QuotedBooks$Copies", "bothHave", "I", false)
  | 5 => ("QuotedBooks$Copies", "slipsOfOne", "I", false)
  | 6 => ("QuotedBooks$Copies", "slipsOfOther", "I", false)
  | 7 => ("QuotedBooks$Copies", "alike", "I", false)
  | 8 => ("QuotedBooks$Copies", "source", "I", false)
  | _ => ("QuotedBooks$Copies", "cost", "I", false)
def tyX2 : Nat → FieldType := fun k => match k with
  | 0 => .object "QuotedBooks$Shelf"
  | 1 => .object "QuotedBooks$Odds"
  | 2 => .object "QuotedBooks$Slips"
  | 3 => .object "QuotedBooks$Slips"
  | 4 => .int
  | 5 => .int
  | 6 => .int
  | 7 => .int
  | 8 => .int
  | _ => .int
theorem nmX2 : ∀ a, a < 10 → ∀ b, b < 10 → a ≠ b → (TX2 a).2.1 ≠ (TX2 b).2.1 := by decide +kernel
theorem tyX2_ok : ∀ k, k < 10 → parseFieldDescriptor (TX2 k).2.2.1 = some (tyX2 k) := by decide +kernel
abbrev cX2_init : ByteArray := prog_4_method_1_code
def yX2_init : MethodName := ⟨RX2, "<init>", "(LQuotedBooks$Shelf;LQuotedBooks$Closeness;LQuotedBooks$Odds;)V"⟩
abbrev cX2_bothHave : ByteArray := prog_4_method_2_code
def yX2_bothHave : MethodName := ⟨RX2, "bothHave", "()I"⟩
abbrev cX2_slipsOfOne : ByteArray := prog_4_method_3_code
def yX2_slipsOfOne : MethodName := ⟨RX2, "slipsOfOne", "()I"⟩
abbrev cX2_slipsOfOther : ByteArray := prog_4_method_4_code
def yX2_slipsOfOther : MethodName := ⟨RX2, "slipsOfOther", "()I"⟩
abbrev cX2_alike : ByteArray := prog_4_method_5_code
def yX2_alike : MethodName := ⟨RX2, "alike", "()I"⟩
abbrev cX2_source : ByteArray := prog_4_method_6_code
def yX2_source : MethodName := ⟨RX2, "source", "()I"⟩
abbrev cX2_cost : ByteArray := prog_4_method_7_code
def yX2_cost : MethodName := ⟨RX2, "cost", "()I"⟩
abbrev cX2_hasPlaces : ByteArray := prog_4_method_8_code
def yX2_hasPlaces : MethodName := ⟨RX2, "hasPlaces", "()Z"⟩
abbrev cX2_slipsOf : ByteArray := prog_4_method_9_code
def yX2_slipsOf : MethodName := ⟨RX2, "slipsOf", "(II)LQuotedBooks$Slips;"⟩
abbrev cX2_compare : ByteArray := prog_4_method_10_code
def yX2_compare : MethodName := ⟨RX2, "compare", "(III)V"⟩
abbrev cX2_hadMiddle : ByteArray := prog_4_method_11_code
def yX2_hadMiddle : MethodName := ⟨RX2, "hadMiddle", "(III)Z"⟩
abbrev cX2_findSource : ByteArray := prog_4_method_12_code
def yX2_findSource : MethodName := ⟨RX2, "findSource", "(II)V"⟩
abbrev cX2_costFromOther : ByteArray := prog_4_method_13_code
def yX2_costFromOther : MethodName := ⟨RX2, "costFromOther", "()I"⟩
abbrev cX2_lastYearHad : ByteArray := prog_4_method_14_code
def yX2_lastYearHad : MethodName := ⟨RX2, "lastYearHad", "(I)I"⟩
def RX3 : String := "QuotedBooks$Editors"
def TX3 : u_T := fun k => match k with
  | 0 => ("QuotedBooks$Editors", "shelf", "LQuotedBooks$Shelf;", true)
  | 1 => ("QuotedBooks$Editors", "gifts", "I", false)
  | 2 => ("QuotedBooks$Editors", "bits", "[I", true)
  | 3 => ("QuotedBooks$Editors", "works", "[I", true)
  | _ => ("QuotedBooks$Editors", "years", "[I", true)
def tyX3 : Nat → FieldType := fun k => match k with
  | 0 => .object "QuotedBooks$Shelf"
  | 1 => .int
  | 2 => .array .int
  | 3 => .array .int
  | _ => .array .int
theorem nmX3 : ∀ a, a < 5 → ∀ b, b < 5 → a ≠ b → (TX3 a).2.1 ≠ (TX3 b).2.1 := by decide +kernel
theorem tyX3_ok : ∀ k, k < 5 → parseFieldDescriptor (TX3 k).2.2.1 = some (tyX3 k) := by decide +kernel
abbrev cX3_init : ByteArray := prog_5_method_1_code
def yX3_init : MethodName := ⟨RX3, "<init>", "(LQuotedBooks$Shelf;)V"⟩
abbrev cX3_give : ByteArray := prog_5_method_2_code
def yX3_give : MethodName := ⟨RX3, "give", "(III)Z"⟩
abbrev cX3_workBy : ByteArray := prog_5_method_3_code
def yX3_workBy : MethodName := ⟨RX3, "workBy", "(II)I"⟩
abbrev cX3_wronglyBy : ByteArray := prog_5_method_4_code
def yX3_wronglyBy : MethodName := ⟨RX3, "wronglyBy", "(I)J"⟩
abbrev cX3_isWrong : ByteArray := prog_5_method_5_code
def yX3_isWrong : MethodName := ⟨RX3, "isWrong", "(II)Z"⟩
def RX4 : String := "QuotedBooks$Odds"
def TX4 : u_T := fun k => match k with
  | 0 => ("QuotedBooks$Odds", "above", "J", false)
  | _ => ("QuotedBooks$Odds", "below", "J", false)
def tyX4 : Nat → FieldType := fun k => match k with
  | 0 => .long
  | _ => .long
theorem nmX4 : ∀ a, a < 2 → ∀ b, b < 2 → a ≠ b → (TX4 a).2.1 ≠ (TX4 b).2.1 := by decide +kernel
theorem tyX4_ok : ∀ k, k < 2 → parseFieldDescriptor (TX4 k).2.2.1 = some (tyX4 k) := by decide +kernel
abbrev cX4_init : ByteArray := prog_6_method_1_code
def yX4_init : MethodName := ⟨RX4, "<init>", "()V"⟩
abbrev cX4_above : ByteArray := prog_6_method_2_code
def yX4_above : MethodName := ⟨RX4, "above", "()J"⟩
abbrev cX4_below : ByteArray := prog_6_method_3_code
def yX4_below : MethodName := ⟨RX4, "below", "()J"⟩
abbrev cX4_choose : ByteArray := prog_6_method_4_code
def yX4_choose : MethodName := ⟨RX4, "choose", "(II)J"⟩
abbrev cX4_ofCommon : ByteArray := prog_6_method_5_code
def yX4_ofCommon : MethodName := ⟨RX4, "ofCommon", "(IIII)V"⟩
abbrev cX4_ofGreatest : ByteArray := prog_6_method_6_code
def yX4_ofGreatest : MethodName := ⟨RX4, "ofGreatest", "(JI)V"⟩
abbrev cX4_notAbove : ByteArray := prog_6_method_7_code
def yX4_notAbove : MethodName := ⟨RX4, "notAbove", "(I)Z"⟩
abbrev cX4_notBelow : ByteArray := prog_6_method_8_code
def yX4_notBelow : MethodName := ⟨RX4, "notBelow", "(I)Z"⟩
abbrev cX4_reduce : ByteArray := prog_6_method_9_code
def yX4_reduce : MethodName := ⟨RX4, "reduce", "(JJ)V"⟩
def RX5 : String := "QuotedBooks$Ordering"
def TX5 : u_T := fun k => match k with
  | 0 => ("QuotedBooks$Ordering", "shelf", "LQuotedBooks$Shelf;", true)
  | 1 => ("QuotedBooks$Ordering", "text", "LQuotedBooks$Text;", true)
  | 2 => ("QuotedBooks$Ordering", "pairs", "I", false)
  | 3 => ("QuotedBooks$Ordering", "fore", "[I", true)
  | 4 => ("QuotedBooks$Ordering", "hind", "[I", true)
  | 5 => ("QuotedBooks$Ordering", "size", "I", false)
  | 6 => ("QuotedBooks$Ordering", "members", "[I", true)
  | 7 => ("QuotedBooks$Ordering", "before", "[I", true)
  | 8 => ("QuotedBooks$Ordering", "gains", "[I", true)
  | 9 => ("QuotedBooks$Ordering", "most", "[I", true)
  | 10 => ("QuotedBooks$Ordering", "ways", "[I", true)
  | 11 => ("QuotedBooks$Ordering", "laid", "[I", true)
  | 12 => ("QuotedBooks$Ordering", "bestEnds", "[I", true)
  | 13 => ("QuotedBooks$Ordering", "behindInSome", "[I", true)
  | 14 => ("QuotedBooks$Ordering", "points", "I", false)
  | 15 => ("QuotedBooks$Ordering", "rows", "I", false)
  | 16 => ("QuotedBooks$Ordering", "solved", "I", false)
  | _ => ("QuotedBooks$Ordering", "compared", "Z", false)
def tyX5 : Nat → FieldType := fun k => match k with
  | 0 => .object "QuotedBooks$Shelf"
  | 1 => .object "QuotedBooks$Text"
  | 2 => .int
  | 3 => .array .int
  | 4 => .array .int
  | 5 => .int
  | 6 => .array .int
  | 7 => .array .int
  | 8 => .array .int
  | 9 => .array .int
  | 10 => .array .int
  | 11 => .array .int
  | 12 => .array .int
  | 13 => .array .int
  | 14 => .int
  | 15 => .int
  | 16 => .int
  | _ => .boolean
theorem nmX5 : ∀ a, a < 18 → ∀ b, b < 18 → a ≠ b → (TX5 a).2.1 ≠ (TX5 b).2.1 := by decide +kernel
theorem tyX5_ok : ∀ k, k < 18 → parseFieldDescriptor (TX5 k).2.2.1 = some (tyX5 k) := by decide +kernel
abbrev cX5_init : ByteArray := prog_7_method_1_code
def yX5_init : MethodName := ⟨RX5, "<init>", "(LQuotedBooks$Shelf;LQuotedBooks$Text;)V"⟩
abbrev cX5_pairs : ByteArray := prog_7_method_2_code
def yX5_pairs : MethodName := ⟨RX5, "pairs", "()I"⟩
abbrev cX5_points : ByteArray := prog_7_method_3_code
def yX5_points : MethodName := ⟨RX5, "points", "()I"⟩
abbrev cX5_rows : ByteArray := prog_7_method_4_code
def yX5_rows : MethodName := ⟨RX5, "rows", "()I"⟩
abbrev cX5_size : ByteArray := prog_7_method_5_code
def yX5_size : MethodName := ⟨RX5, "size", "()I"⟩
abbrev cX5_bitAt : ByteArray := prog_7_method_6_code
def yX5_bitAt : MethodName := ⟨RX5, "bitAt", "(I)I"⟩
abbrev cX5_forget : ByteArray := prog_7_method_7_code
def yX5_forget : MethodName := ⟨RX5, "forget", "()V"⟩
abbrev cX5_tell : ByteArray := prog_7_method_8_code
def yX5_tell : MethodName := ⟨RX5, "tell", "(II)Z"⟩
abbrev cX5_solve : ByteArray := prog_7_method_9_code
def yX5_solve : MethodName := ⟨RX5, "solve", "(I)Z"⟩
abbrev cX5_gather : ByteArray := prog_7_method_10_code
def yX5_gather : MethodName := ⟨RX5, "gather", "(I)V"⟩
abbrev cX5_placeOf : ByteArray := prog_7_method_11_code
def yX5_placeOf : MethodName := ⟨RX5, "placeOf", "(I)I"⟩
abbrev cX5_search : ByteArray := prog_7_method_12_code
def yX5_search : MethodName := ⟨RX5, "search", "()V"⟩
abbrev cX5_fillGains : ByteArray := prog_7_method_13_code
def yX5_fillGains : MethodName := ⟨RX5, "fillGains", "()V"⟩
abbrev cX5_complete : ByteArray := prog_7_method_14_code
def yX5_complete : MethodName := ⟨RX5, "complete", "(II)V"⟩
abbrev cX5_behind : ByteArray := prog_7_method_15_code
def yX5_behind : MethodName := ⟨RX5, "behind", "(III)I"⟩
abbrev cX5_layLeast : ByteArray := prog_7_method_16_code
def yX5_layLeast : MethodName := ⟨RX5, "layLeast", "()V"⟩
abbrev cX5_pointsWithout : ByteArray := prog_7_method_17_code
def yX5_pointsWithout : MethodName := ⟨RX5, "pointsWithout", "(I)I"⟩
abbrev cX5_isAheadInAll : ByteArray := prog_7_method_18_code
def yX5_isAheadInAll : MethodName := ⟨RX5, "isAheadInAll", "(II)Z"⟩
abbrev cX5_compareAll : ByteArray := prog_7_method_19_code
def yX5_compareAll : MethodName := ⟨RX5, "compareAll", "()V"⟩
abbrev cX5_markNext : ByteArray := prog_7_method_20_code
def yX5_markNext : MethodName := ⟨RX5, "markNext", "(III)V"⟩
def RX6 : String := "QuotedBooks$Reader"
def TX6 : u_T := fun k => match k with
  | 0 => ("QuotedBooks$Reader", "tape", "LQuotedBooks$Tape;", true)
  | 1 => ("QuotedBooks$Reader", "draft", "LQuotedBooks$Text;", true)
  | 2 => ("QuotedBooks$Reader", "end", "I", false)
  | 3 => ("QuotedBooks$Reader", "place", "I", false)
  | _ => ("QuotedBooks$Reader", "fault", "I", false)
def tyX6 : Nat → FieldType := fun k => match k with
  | 0 => .object "QuotedBooks$Tape"
  | 1 => .object "QuotedBooks$Text"
  | 2 => .int
  | 3 => .int
  | _ => .int
theorem nmX6 : ∀ a, a < 5 → ∀ b, b < 5 → a ≠ b → (TX6 a).2.1 ≠ (TX6 b).2.1 := by decide +kernel
theorem tyX6_ok : ∀ k, k < 5 → parseFieldDescriptor (TX6 k).2.2.1 = some (tyX6 k) := by decide +kernel
abbrev cX6_init : ByteArray := prog_8_method_1_code
def yX6_init : MethodName := ⟨RX6, "<init>", "(LQuotedBooks$Tape;)V"⟩
abbrev cX6_read : ByteArray := prog_8_method_2_code
def yX6_read : MethodName := ⟨RX6, "read", "(ILjava/lang/String;LQuotedBooks$Text;)I"⟩
abbrev cX6_next : ByteArray := prog_8_method_3_code
def yX6_next : MethodName := ⟨RX6, "next", "()I"⟩
abbrev cX6_nextIsOf : ByteArray := prog_8_method_4_code
def yX6_nextIsOf : MethodName := ⟨RX6, "nextIsOf", "(Ljava/lang/String;)Z"⟩
abbrev cX6_blame : ByteArray := prog_8_method_5_code
def yX6_blame : MethodName := ⟨RX6, "blame", "(I)V"⟩
abbrev cX6_expect : ByteArray := prog_8_method_6_code
def yX6_expect : MethodName := ⟨RX6, "expect", "(C)V"⟩
abbrev cX6_readClause : ByteArray := prog_8_method_7_code
def yX6_readClause : MethodName := ⟨RX6, "readClause", "(Ljava/lang/String;)V"⟩
abbrev cX6_opens : ByteArray := prog_8_method_8_code
def yX6_opens : MethodName := ⟨RX6, "opens", "(I)Z"⟩
abbrev cX6_readChoice : ByteArray := prog_8_method_9_code
def yX6_readChoice : MethodName := ⟨RX6, "readChoice", "(I)V"⟩
abbrev cX6_readPart : ByteArray := prog_8_method_10_code
def yX6_readPart : MethodName := ⟨RX6, "readPart", "(I)V"⟩
abbrev cX6_readPiece : ByteArray := prog_8_method_11_code
def yX6_readPiece : MethodName := ⟨RX6, "readPiece", "(I)V"⟩
abbrev cX6_readComparison : ByteArray := prog_8_method_12_code
def yX6_readComparison : MethodName := ⟨RX6, "readComparison", "(I)V"⟩
abbrev cX6_readSum : ByteArray := prog_8_method_13_code
def yX6_readSum : MethodName := ⟨RX6, "readSum", "(I)V"⟩
abbrev cX6_readTerm : ByteArray := prog_8_method_14_code
def yX6_readTerm : MethodName := ⟨RX6, "readTerm", "(I)V"⟩
abbrev cX6_readFactor : ByteArray := prog_8_method_15_code
def yX6_readFactor : MethodName := ⟨RX6, "readFactor", "(I)V"⟩
abbrev cX6_readNumber : ByteArray := prog_8_method_16_code
def yX6_readNumber : MethodName := ⟨RX6, "readNumber", "()V"⟩
def RX7 : String := "QuotedBooks$Shelf"
def TX7 : u_T := fun k => match k with
  | 0 => ("QuotedBooks$Shelf", "authors", "I", false)
  | 1 => ("QuotedBooks$Shelf", "authorYears", "[I", true)
  | 2 => ("QuotedBooks$Shelf", "priors", "[I", true)
  | 3 => ("QuotedBooks$Shelf", "works", "I", false)
  | 4 => ("QuotedBooks$Shelf", "workAuthors", "[I", true)
  | 5 => ("QuotedBooks$Shelf", "workBooks", "[I", true)
  | 6 => ("QuotedBooks$Shelf", "workSizes", "[I", true)
  | 7 => ("QuotedBooks$Shelf", "workWords", "[I", true)
  | 8 => ("QuotedBooks$Shelf", "wordBooks", "[I", true)
  | 9 => ("QuotedBooks$Shelf", "writers", "I", false)
  | 10 => ("QuotedBooks$Shelf", "writerYears", "[I", true)
  | 11 => ("QuotedBooks$Shelf", "bits", "I", false)
  | 12 => ("QuotedBooks$Shelf", "bitWriters", "[I", true)
  | 13 => ("QuotedBooks$Shelf", "bitWorks", "[I", true)
  | 14 => ("QuotedBooks$Shelf", "bitBooks", "[I", true)
  | 15 => ("QuotedBooks$Shelf", "bitSubjects", "[I", true)
  | 16 => ("QuotedBooks$Shelf", "bitSizes", "[I", true)
  | _ => ("QuotedBooks$Shelf", "bitWords", "[I", true)
def tyX7 : Nat → FieldType := fun k => match k with
  | 0 => .int
  | 1 => .array .int
  | 2 => .array .int
  | 3 => .int
  | 4 => .array .int
  | 5 => .array .int
  | 6 => .array .int
  | 7 => .array .int
  | 8 => .array .int
  | 9 => .int
  | 10 => .array .int
  | 11 => .int
  | 12 => .array .int
  | 13 => .array .int
  | 14 => .array .int
  | 15 => .array .int
  | 16 => .array .int
  | _ => .array .int
theorem nmX7 : ∀ a, a < 18 → ∀ b, b < 18 → a ≠ b → (TX7 a).2.1 ≠ (TX7 b).2.1 := by decide +kernel
theorem tyX7_ok : ∀ k, k < 18 → parseFieldDescriptor (TX7 k).2.2.1 = some (tyX7 k) := by decide +kernel
abbrev cX7_init : ByteArray := prog_9_method_1_code
def yX7_init : MethodName := ⟨RX7, "<init>", "()V"⟩
abbrev cX7_authors : ByteArray := prog_9_method_2_code
def yX7_authors : MethodName := ⟨RX7, "authors", "()I"⟩
abbrev cX7_works : ByteArray := prog_9_method_3_code
def yX7_works : MethodName := ⟨RX7, "works", "()I"⟩
abbrev cX7_writers : ByteArray := prog_9_method_4_code
def yX7_writers : MethodName := ⟨RX7, "writers", "()I"⟩
abbrev cX7_bits : ByteArray := prog_9_method_5_code
def yX7_bits : MethodName := ⟨RX7, "bits", "()I"⟩
abbrev cX7_isAuthor : ByteArray := prog_9_method_6_code
def yX7_isAuthor : MethodName := ⟨RX7, "isAuthor", "(I)Z"⟩
abbrev cX7_isWork : ByteArray := prog_9_method_7_code
def yX7_isWork : MethodName := ⟨RX7, "isWork", "(I)Z"⟩
abbrev cX7_isWriter : ByteArray := prog_9_method_8_code
def yX7_isWriter : MethodName := ⟨RX7, "isWriter", "(I)Z"⟩
abbrev cX7_isBit : ByteArray := prog_9_method_9_code
def yX7_isBit : MethodName := ⟨RX7, "isBit", "(I)Z"⟩
abbrev cX7_isLeft : ByteArray := prog_9_method_10_code
def yX7_isLeft : MethodName := ⟨RX7, "isLeft", "(I)Z"⟩
abbrev cX7_addAuthor : ByteArray := prog_9_method_11_code
def yX7_addAuthor : MethodName := ⟨RX7, "addAuthor", "(II)I"⟩
abbrev cX7_addWork : ByteArray := prog_9_method_12_code
def yX7_addWork : MethodName := ⟨RX7, "addWork", "(II)I"⟩
abbrev cX7_addWriter : ByteArray := prog_9_method_13_code
def yX7_addWriter : MethodName := ⟨RX7, "addWriter", "(I)I"⟩
abbrev cX7_addBit : ByteArray := prog_9_method_14_code
def yX7_addBit : MethodName := ⟨RX7, "addBit", "(IIII)I"⟩
abbrev cX7_tellBitWords : ByteArray := prog_9_method_15_code
def yX7_tellBitWords : MethodName := ⟨RX7, "tellBitWords", "(I[II)V"⟩
abbrev cX7_tellWords : ByteArray := prog_9_method_16_code
def yX7_tellWords : MethodName := ⟨RX7, "tellWords", "(ILQuotedBooks$Tape;I)Z"⟩
abbrev cX7_authorYear : ByteArray := prog_9_method_17_code
def yX7_authorYear : MethodName := ⟨RX7, "authorYear", "(I)I"⟩
abbrev cX7_prior : ByteArray := prog_9_method_18_code
def yX7_prior : MethodName := ⟨RX7, "prior", "(I)I"⟩
abbrev cX7_authorOf : ByteArray := prog_9_method_19_code
def yX7_authorOf : MethodName := ⟨RX7, "authorOf", "(I)I"⟩
abbrev cX7_booksOf : ByteArray := prog_9_method_20_code
def yX7_booksOf : MethodName := ⟨RX7, "booksOf", "(I)I"⟩
abbrev cX7_wordsLeft : ByteArray := prog_9_method_21_code
def yX7_wordsLeft : MethodName := ⟨RX7, "wordsLeft", "(I)I"⟩
abbrev cX7_workWord : ByteArray := prog_9_method_22_code
def yX7_workWord : MethodName := ⟨RX7, "workWord", "(II)I"⟩
abbrev cX7_workBook : ByteArray := prog_9_method_23_code
def yX7_workBook : MethodName := ⟨RX7, "workBook", "(II)I"⟩
abbrev cX7_writerYear : ByteArray := prog_9_method_24_code
def yX7_writerYear : MethodName := ⟨RX7, "writerYear", "(I)I"⟩
abbrev cX7_bitWriter : ByteArray := prog_9_method_25_code
def yX7_bitWriter : MethodName := ⟨RX7, "bitWriter", "(I)I"⟩
abbrev cX7_bitWork : ByteArray := prog_9_method_26_code
def yX7_bitWork : MethodName := ⟨RX7, "bitWork", "(I)I"⟩
abbrev cX7_bitBook : ByteArray := prog_9_method_27_code
def yX7_bitBook : MethodName := ⟨RX7, "bitBook", "(I)I"⟩
abbrev cX7_bitSubject : ByteArray := prog_9_method_28_code
def yX7_bitSubject : MethodName := ⟨RX7, "bitSubject", "(I)I"⟩
abbrev cX7_bitSize : ByteArray := prog_9_method_29_code
def yX7_bitSize : MethodName := ⟨RX7, "bitSize", "(I)I"⟩
abbrev cX7_bitWord : ByteArray := prog_9_method_30_code
def yX7_bitWord : MethodName := ⟨RX7, "bitWord", "(II)I"⟩
abbrev cX7_ofOneWork : ByteArray := prog_9_method_31_code
def yX7_ofOneWork : MethodName := ⟨RX7, "ofOneWork", "(II)Z"⟩
abbrev cX7_toldBooks : ByteArray := prog_9_method_32_code
def yX7_toldBooks : MethodName := ⟨RX7, "toldBooks", "(I)J"⟩
def RX8 : String := "QuotedBooks$Slips"
def TX8 : u_T := fun k => match k with
  | 0 => ("QuotedBooks$Slips", "shelf", "LQuotedBooks$Shelf;", true)
  | 1 => ("QuotedBooks$Slips", "closeness", "LQuotedBooks$Closeness;", true)
  | 2 => ("QuotedBooks$Slips", "wordsPut", "[I", true)
  | 3 => ("QuotedBooks$Slips", "places", "J", false)
  | _ => ("QuotedBooks$Slips", "marks", "J", false)
def tyX8 : Nat → FieldType := fun k => match k with
  | 0 => .object "QuotedBooks$Shelf"
  | 1 => .object "QuotedBooks$Closeness"
  | 2 => .array .int
  | 3 => .long
  | _ => .long
theorem nmX8 : ∀ a, a < 5 → ∀ b, b < 5 → a ≠ b → (TX8 a).2.1 ≠ (TX8 b).2.1 := by decide +kernel
theorem tyX8_ok : ∀ k, k < 5 → parseFieldDescriptor (TX8 k).2.2.1 = some (tyX8 k) := by decide +kernel
abbrev cX8_init : ByteArray := prog_10_method_1_code
def yX8_init : MethodName := ⟨RX8, "<init>", "(LQuotedBooks$Shelf;LQuotedBooks$Closeness;)V"⟩
abbrev cX8_places : ByteArray := prog_10_method_2_code
def yX8_places : MethodName := ⟨RX8, "places", "()J"⟩
abbrev cX8_marks : ByteArray := prog_10_method_3_code
def yX8_marks : MethodName := ⟨RX8, "marks", "()J"⟩
abbrev cX8_isIn : ByteArray := prog_10_method_4_code
def yX8_isIn : MethodName := ⟨RX8, "isIn", "(JI)Z"⟩
abbrev cX8_has : ByteArray := prog_10_method_5_code
def yX8_has : MethodName := ⟨RX8, "has", "(I)Z"⟩
abbrev cX8_isAt : ByteArray := prog_10_method_6_code
def yX8_isAt : MethodName := ⟨RX8, "isAt", "(I)Z"⟩
abbrev cX8_wordPut : ByteArray := prog_10_method_7_code
def yX8_wordPut : MethodName := ⟨RX8, "wordPut", "(I)I"⟩
abbrev cX8_gather : ByteArray := prog_10_method_8_code
def yX8_gather : MethodName := ⟨RX8, "gather", "(II)V"⟩
abbrev cX8_addBit : ByteArray := prog_10_method_9_code
def yX8_addBit : MethodName := ⟨RX8, "addBit", "(III)V"⟩
abbrev cX8_addPlace : ByteArray := prog_10_method_10_code
def yX8_addPlace : MethodName := ⟨RX8, "addPlace", "(III)V"⟩
abbrev cX8_others : ByteArray := prog_10_method_11_code
def yX8_others : MethodName := ⟨RX8, "others", "(III)I"⟩
abbrev cX8_alikeWith : ByteArray := prog_10_method_12_code
def yX8_alikeWith : MethodName := ⟨RX8, "alikeWith", "(LQuotedBooks$Slips;)J"⟩
def RX9 : String := "QuotedBooks$Tape"
def TX9 : u_T := fun k => match k with
  | 0 => ("QuotedBooks$Tape", "bytes", "[I", true)
  | _ => ("QuotedBooks$Tape", "size", "I", false)
def tyX9 : Nat → FieldType := fun k => match k with
  | 0 => .array .int
  | _ => .int
theorem nmX9 : ∀ a, a < 2 → ∀ b, b < 2 → a ≠ b → (TX9 a).2.1 ≠ (TX9 b).2.1 := by decide +kernel
theorem tyX9_ok : ∀ k, k < 2 → parseFieldDescriptor (TX9 k).2.2.1 = some (tyX9 k) := by decide +kernel
abbrev cX9_init : ByteArray := prog_11_method_1_code
def yX9_init : MethodName := ⟨RX9, "<init>", "()V"⟩
abbrev cX9_size : ByteArray := prog_11_method_2_code
def yX9_size : MethodName := ⟨RX9, "size", "()I"⟩
abbrev cX9_hasRoomFor : ByteArray := prog_11_method_3_code
def yX9_hasRoomFor : MethodName := ⟨RX9, "hasRoomFor", "(I)Z"⟩
abbrev cX9_push : ByteArray := prog_11_method_4_code
def yX9_push : MethodName := ⟨RX9, "push", "(I)V"⟩
abbrev cX9_holds : ByteArray := prog_11_method_5_code
def yX9_holds : MethodName := ⟨RX9, "holds", "(II)Z"⟩
abbrev cX9_byteAt : ByteArray := prog_11_method_6_code
def yX9_byteAt : MethodName := ⟨RX9, "byteAt", "(I)I"⟩
abbrev cX9_numberAt : ByteArray := prog_11_method_7_code
def yX9_numberAt : MethodName := ⟨RX9, "numberAt", "(I)I"⟩
abbrev cX9_clear : ByteArray := prog_11_method_8_code
def yX9_clear : MethodName := ⟨RX9, "clear", "()V"⟩
def RX10 : String := "QuotedBooks$Text"
def TX10 : u_T := fun k => match k with
  | 0 => ("QuotedBooks$Text", "clauses", "I", false)
  | 1 => ("QuotedBooks$Text", "size", "I", false)
  | 2 => ("QuotedBooks$Text", "heads", "[I", true)
  | 3 => ("QuotedBooks$Text", "valueEnds", "[I", true)
  | 4 => ("QuotedBooks$Text", "clauseEnds", "[I", true)
  | 5 => ("QuotedBooks$Text", "kinds", "[I", true)
  | 6 => ("QuotedBooks$Text", "operands", "[I", true)
  | 7 => ("QuotedBooks$Text", "letters", "[I", true)
  | 8 => ("QuotedBooks$Text", "stack", "[I", true)
  | 9 => ("QuotedBooks$Text", "top", "I", false)
  | _ => ("QuotedBooks$Text", "refused", "Z", false)
def tyX10 : Nat → FieldType := fun k => match k with
  | 0 => .int
  | 1 => .int
  | 2 => .array .int
  | 3 => .array .int
  | 4 => .array .int
  | 5 => .array .int
  | 6 => .array .int
  | 7 => .array .int
  | 8 => .array .int
  | 9 => .int
  | _ => .boolean
theorem nmX10 : ∀ a, a < 11 → ∀ b, b < 11 → a ≠ b → (TX10 a).2.1 ≠ (TX10 b).2.1 := by decide +kernel
theorem tyX10_ok : ∀ k, k < 11 → parseFieldDescriptor (TX10 k).2.2.1 = some (tyX10 k) := by decide +kernel
abbrev cX10_init : ByteArray := prog_12_method_1_code
def yX10_init : MethodName := ⟨RX10, "<init>", "()V"⟩
abbrev cX10_clauses : ByteArray := prog_12_method_2_code
def yX10_clauses : MethodName := ⟨RX10, "clauses", "()I"⟩
abbrev cX10_clear : ByteArray := prog_12_method_3_code
def yX10_clear : MethodName := ⟨RX10, "clear", "()V"⟩
abbrev cX10_add : ByteArray := prog_12_method_4_code
def yX10_add : MethodName := ⟨RX10, "add", "(II)V"⟩
abbrev cX10_size : ByteArray := prog_12_method_5_code
def yX10_size : MethodName := ⟨RX10, "size", "()I"⟩
abbrev cX10_aim : ByteArray := prog_12_method_6_code
def yX10_aim : MethodName := ⟨RX10, "aim", "(I)V"⟩
abbrev cX10_endValue : ByteArray := prog_12_method_7_code
def yX10_endValue : MethodName := ⟨RX10, "endValue", "(I)V"⟩
abbrev cX10_endClause : ByteArray := prog_12_method_8_code
def yX10_endClause : MethodName := ⟨RX10, "endClause", "()V"⟩
abbrev cX10_takeOver : ByteArray := prog_12_method_9_code
def yX10_takeOver : MethodName := ⟨RX10, "takeOver", "(LQuotedBooks$Text;)V"⟩
abbrev cX10_let : ByteArray := prog_12_method_10_code
def yX10_let : MethodName := ⟨RX10, "let", "(CI)V"⟩
abbrev cX10_value : ByteArray := prog_12_method_11_code
def yX10_value : MethodName := ⟨RX10, "value", "(CII)I"⟩
abbrev cX10_run : ByteArray := prog_12_method_12_code
def yX10_run : MethodName := ⟨RX10, "run", "(II)I"⟩
abbrev cX10_step : ByteArray := prog_12_method_13_code
def yX10_step : MethodName := ⟨RX10, "step", "(I)I"⟩
abbrev cX10_keepsTop : ByteArray := prog_12_method_14_code
def yX10_keepsTop : MethodName := ⟨RX10, "keepsTop", "(Z)Z"⟩
abbrev cX10_joined : ByteArray := prog_12_method_15_code
def yX10_joined : MethodName := ⟨RX10, "joined", "(III)I"⟩
abbrev cX10_push : ByteArray := prog_12_method_16_code
def yX10_push : MethodName := ⟨RX10, "push", "(I)V"⟩
abbrev cX10_pop : ByteArray := prog_12_method_17_code
def yX10_pop : MethodName := ⟨RX10, "pop", "()I"⟩
def RX11 : String := "QuotedBooks"
def TX11 : u_T := fun k => match k with
  | 0 => ("QuotedBooks", "tape", "LQuotedBooks$Tape;", true)
  | 1 => ("QuotedBooks", "shelf", "LQuotedBooks$Shelf;", true)
  | 2 => ("QuotedBooks", "reader", "LQuotedBooks$Reader;", true)
  | 3 => ("QuotedBooks", "wayTexts", "[LQuotedBooks$Text;", true)
  | 4 => ("QuotedBooks", "planText", "LQuotedBooks$Text;", true)
  | 5 => ("QuotedBooks", "habitText", "LQuotedBooks$Text;", true)
  | 6 => ("QuotedBooks", "tableText", "LQuotedBooks$Text;", true)
  | 7 => ("QuotedBooks", "odds", "LQuotedBooks$Odds;", true)
  | 8 => ("QuotedBooks", "closeness", "LQuotedBooks$Closeness;", true)
  | 9 => ("QuotedBooks", "copies", "LQuotedBooks$Copies;", true)
  | 10 => ("QuotedBooks", "ordering", "LQuotedBooks$Ordering;", true)
  | 11 => ("QuotedBooks", "authorship", "LQuotedBooks$Authorship;", true)
  | 12 => ("QuotedBooks", "editors", "LQuotedBooks$Editors;", true)
  | 13 => ("QuotedBooks", "words", "[I", true)
  | 14 => ("QuotedBooks", "kept", "I", false)
  | _ => ("QuotedBooks", "luckState", "I", false)
def tyX11 : Nat → FieldType := fun k => match k with
  | 0 => .object "QuotedBooks$Tape"
  | 1 => .object "QuotedBooks$Shelf"
  | 2 => .object "QuotedBooks$Reader"
  | 3 => .array (.object "QuotedBooks$Text")
  | 4 => .object "QuotedBooks$Text"
  | 5 => .object "QuotedBooks$Text"
  | 6 => .object "QuotedBooks$Text"
  | 7 => .object "QuotedBooks$Odds"
  | 8 => .object "QuotedBooks$Closeness"
  | 9 => .object "QuotedBooks$Copies"
  | 10 => .object "QuotedBooks$Ordering"
  | 11 => .object "QuotedBooks$Authorship"
  | 12 => .object "QuotedBooks$Editors"
  | 13 => .array .int
  | 14 => .int
  | _ => .int
theorem nmX11 : ∀ a, a < 16 → ∀ b, b < 16 → a ≠ b → (TX11 a).2.1 ≠ (TX11 b).2.1 := by decide +kernel
theorem tyX11_ok : ∀ k, k < 16 → parseFieldDescriptor (TX11 k).2.2.1 = some (tyX11 k) := by decide +kernel
abbrev cX11_init : ByteArray := prog_1_method_1_code
def yX11_init : MethodName := ⟨RX11, "<init>", "()V"⟩
abbrev cX11_author : ByteArray := prog_1_method_2_code
def yX11_author : MethodName := ⟨RX11, "author", "(II)I"⟩
abbrev cX11_work : ByteArray := prog_1_method_3_code
def yX11_work : MethodName := ⟨RX11, "work", "(II)I"⟩
abbrev cX11_writer : ByteArray := prog_1_method_4_code
def yX11_writer : MethodName := ⟨RX11, "writer", "(I)I"⟩
abbrev cX11_seed : ByteArray := prog_1_method_5_code
def yX11_seed : MethodName := ⟨RX11, "seed", "(I)Z"⟩
abbrev cX11_feed : ByteArray := prog_1_method_6_code
def yX11_feed : MethodName := ⟨RX11, "feed", "(IIIII)I"⟩
abbrev cX11_left : ByteArray := prog_1_method_7_code
def yX11_left : MethodName := ⟨RX11, "left", "(II)Z"⟩
abbrev cX11_bit : ByteArray := prog_1_method_8_code
def yX11_bit : MethodName := ⟨RX11, "bit", "(IIIII)I"⟩
abbrev cX11_takeWords : ByteArray := prog_1_method_9_code
def yX11_takeWords : MethodName := ⟨RX11, "takeWords", "(I)Z"⟩
abbrev cX11_keepBit : ByteArray := prog_1_method_10_code
def yX11_keepBit : MethodName := ⟨RX11, "keepBit", "(IIII)I"⟩
abbrev cX11_way : ByteArray := prog_1_method_11_code
def yX11_way : MethodName := ⟨RX11, "way", "(II)I"⟩
abbrev cX11_plan : ByteArray := prog_1_method_12_code
def yX11_plan : MethodName := ⟨RX11, "plan", "(I)I"⟩
abbrev cX11_habit : ByteArray := prog_1_method_13_code
def yX11_habit : MethodName := ⟨RX11, "habit", "(I)I"⟩
abbrev cX11_table : ByteArray := prog_1_method_14_code
def yX11_table : MethodName := ⟨RX11, "table", "(I)I"⟩
abbrev cX11_wayOf : ByteArray := prog_1_method_15_code
def yX11_wayOf : MethodName := ⟨RX11, "wayOf", "(I)LQuotedBooks$Text;"⟩
abbrev cX11_readText : ByteArray := prog_1_method_16_code
def yX11_readText : MethodName := ⟨RX11, "readText", "(ILjava/lang/String;LQuotedBooks$Text;)I"⟩
abbrev cX11_quote : ByteArray := prog_1_method_17_code
def yX11_quote : MethodName := ⟨RX11, "quote", "(IIIII)I"⟩
abbrev cX11_quoteWords : ByteArray := prog_1_method_18_code
def yX11_quoteWords : MethodName := ⟨RX11, "quoteWords", "(LQuotedBooks$Text;III)I"⟩
abbrev cX11_quoteWord : ByteArray := prog_1_method_19_code
def yX11_quoteWord : MethodName := ⟨RX11, "quoteWord", "(LQuotedBooks$Text;II)V"⟩
abbrev cX11_bitIs : ByteArray := prog_1_method_20_code
def yX11_bitIs : MethodName := ⟨RX11, "bitIs", "(II)I"⟩
abbrev cX11_apart : ByteArray := prog_1_method_21_code
def yX11_apart : MethodName := ⟨RX11, "apart", "(II)I"⟩
abbrev cX11_near : ByteArray := prog_1_method_22_code
def yX11_near : MethodName := ⟨RX11, "near", "(III)I"⟩
abbrev cX11_nearness : ByteArray := prog_1_method_23_code
def yX11_nearness : MethodName := ⟨RX11, "nearness", "(II)I"⟩
abbrev cX11_same : ByteArray := prog_1_method_24_code
def yX11_same : MethodName := ⟨RX11, "same", "(II)J"⟩
abbrev cX11_stood : ByteArray := prog_1_method_25_code
def yX11_stood : MethodName := ⟨RX11, "stood", "(III)I"⟩
abbrev cX11_slips : ByteArray := prog_1_method_26_code
def yX11_slips : MethodName := ⟨RX11, "slips", "(III)J"⟩
abbrev cX11_slip : ByteArray := prog_1_method_27_code
def yX11_slip : MethodName := ⟨RX11, "slip", "(III)I"⟩
abbrev cX11_shared : ByteArray := prog_1_method_28_code
def yX11_shared : MethodName := ⟨RX11, "shared", "(IIII)J"⟩
abbrev cX11_groups : ByteArray := prog_1_method_29_code
def yX11_groups : MethodName := ⟨RX11, "groups", "(II)I"⟩
abbrev cX11_from : ByteArray := prog_1_method_30_code
def yX11_from : MethodName := ⟨RX11, "from", "(III)I"⟩
abbrev cX11_there : ByteArray := prog_1_method_31_code
def yX11_there : MethodName := ⟨RX11, "there", "(I)I"⟩
abbrev cX11_ahead : ByteArray := prog_1_method_32_code
def yX11_ahead : MethodName := ⟨RX11, "ahead", "(II)Z"⟩
abbrev cX11_order : ByteArray := prog_1_method_33_code
def yX11_order : MethodName := ⟨RX11, "order", "(II)I"⟩
abbrev cX11_orders : ByteArray := prog_1_method_34_code
def yX11_orders : MethodName := ⟨RX11, "orders", "(I)J"⟩
abbrev cX11_sure : ByteArray := prog_1_method_35_code
def yX11_sure : MethodName := ⟨RX11, "sure", "(II)I"⟩
abbrev cX11_truth : ByteArray := prog_1_method_36_code
def yX11_truth : MethodName := ⟨RX11, "truth", "(JII)J"⟩
abbrev cX11_tableProduct : ByteArray := prog_1_method_37_code
def yX11_tableProduct : MethodName := ⟨RX11, "tableProduct", "(JII)J"⟩
abbrev cX11_length : ByteArray := prog_1_method_38_code
def yX11_length : MethodName := ⟨RX11, "length", "(III)J"⟩
abbrev cX11_span : ByteArray := prog_1_method_39_code
def yX11_span : MethodName := ⟨RX11, "span", "(III)I"⟩
abbrev cX11_nobody : ByteArray := prog_1_method_40_code
def yX11_nobody : MethodName := ⟨RX11, "nobody", "(II)J"⟩
abbrev cX11_whose : ByteArray := prog_1_method_41_code
def yX11_whose : MethodName := ⟨RX11, "whose", "(II)I"⟩
abbrev cX11_men : ByteArray := prog_1_method_42_code
def yX11_men : MethodName := ⟨RX11, "men", "(II)J"⟩
abbrev cX11_gives : ByteArray := prog_1_method_43_code
def yX11_gives : MethodName := ⟨RX11, "gives", "(III)Z"⟩
abbrev cX11_given : ByteArray := prog_1_method_44_code
def yX11_given : MethodName := ⟨RX11, "given", "(II)I"⟩
abbrev cX11_wrong : ByteArray := prog_1_method_45_code
def yX11_wrong : MethodName := ⟨RX11, "wrong", "(I)J"⟩
abbrev cX11_moves : ByteArray := prog_1_method_46_code
def yX11_moves : MethodName := ⟨RX11, "moves", "(I)I"⟩
abbrev cX11_check : ByteArray := prog_1_method_47_code
def yX11_check : MethodName := ⟨RX11, "check", "(II)I"⟩
abbrev cX11_firstNotSo : ByteArray := prog_1_method_48_code
def yX11_firstNotSo : MethodName := ⟨RX11, "firstNotSo", "(II)I"⟩
abbrev cX11_count : ByteArray := prog_1_method_49_code
def yX11_count : MethodName := ⟨RX11, "count", "(I)I"⟩
abbrev cX11_within : ByteArray := prog_1_method_50_code
def yX11_within : MethodName := ⟨RX11, "within", "(III)Z"⟩
abbrev cX11_at : ByteArray := prog_1_method_51_code
def yX11_at : MethodName := ⟨RX11, "at", "([II)I"⟩
abbrev cX11_put : ByteArray := prog_1_method_52_code
def yX11_put : MethodName := ⟨RX11, "put", "([III)V"⟩
def RX12 : String := "QuotedBooksModel"
def TX12 : u_T := fun k => match k with
  | 0 => ("QuotedBooksModel", "tape", "[B", true)
  | 1 => ("QuotedBooksModel", "taped", "I", false)
  | 2 => ("QuotedBooksModel", "authors", "I", false)
  | 3 => ("QuotedBooksModel", "works", "I", false)
  | 4 => ("QuotedBooksModel", "writers", "I", false)
  | 5 => ("QuotedBooksModel", "bits", "I", false)
  | 6 => ("QuotedBooksModel", "luck", "I", false)
  | 7 => ("QuotedBooksModel", "authorYear", "[I", true)
  | 8 => ("QuotedBooksModel", "prior", "[I", true)
  | 9 => ("QuotedBooksModel", "authorOf", "[I", true)
  | 10 => ("QuotedBooksModel", "booksOf", "[I", true)
  | 11 => ("QuotedBooksModel", "wordsOf", "[I", true)
  | 12 => ("QuotedBooksModel", "word", "[I", true)
  | 13 => ("QuotedBooksModel", "wordBook", "[I", true)
  | 14 => ("QuotedBooksModel", "writerYear", "[I", true)
  | 15 => ("QuotedBooksModel", "writerOf", "[I", true)
  | 16 => ("QuotedBooksModel", "workOf", "[I", true)
  | 17 => ("QuotedBooksModel", "bookOf", "[I", true)
  | 18 => ("QuotedBooksModel", "subjectOf", "[I", true)
  | 19 => ("QuotedBooksModel", "lengthOf", "[I", true)
  | 20 => ("QuotedBooksModel", "bitWord", "[I", true)
  | 21 => ("QuotedBooksModel", "many", "[I", true)
  | 22 => ("QuotedBooksModel", "clauseLetter", "[I", true)
  | 23 => ("QuotedBooksModel", "sumFrom", "[I", true)
  | 24 => ("QuotedBooksModel", "codeFrom", "[I", true)
  | 25 => ("QuotedBooksModel", "codeTo", "[I", true)
  | 26 => ("QuotedBooksModel", "code", "[I", true)
  | 27 => ("QuotedBooksModel", "codeArg", "[I", true)
  | 28 => ("QuotedBooksModel", "newLetter", "[I", true)
  | 29 => ("QuotedBooksModel", "newSum", "[I", true)
  | 30 => ("QuotedBooksModel", "newFrom", "[I", true)
  | 31 => ("QuotedBooksModel", "newTo", "[I", true)
  | 32 => ("QuotedBooksModel", "newCode", "[I", true)
  | 33 => ("QuotedBooksModel", "newArg", "[I", true)
  | 34 => ("QuotedBooksModel", "place", "I", false)
  | 35 => ("QuotedBooksModel", "end", "I", false)
  | 36 => ("QuotedBooksModel", "bad", "I", false)
  | 37 => ("QuotedBooksModel", "clauses", "I", false)
  | 38 => ("QuotedBooksModel", "codes", "I", false)
  | 39 => ("QuotedBooksModel", "open", "I", false)
  | 40 => ("QuotedBooksModel", "stacked", "I", false)
  | 41 => ("QuotedBooksModel", "isOver", "Z", false)
  | 42 => ("QuotedBooksModel", "isBehind", "Z", false)
  | 43 => ("QuotedBooksModel", "stack", "[I", true)
  | 44 => ("QuotedBooksModel", "atB", "I", false)
  | 45 => ("QuotedBooksModel", "atC", "I", false)
  | 46 => ("QuotedBooksModel", "atI", "I", false)
  | 47 => ("QuotedBooksModel", "atK", "I", false)
  | 48 => ("QuotedBooksModel", "atL", "I", false)
  | 49 => ("QuotedBooksModel", "atM", "I", false)
  | 50 => ("QuotedBooksModel", "atN", "I", false)
  | 51 => ("QuotedBooksModel", "atP", "I", false)
  | 52 => ("QuotedBooksModel", "atS", "I", false)
  | 53 => ("QuotedBooksModel", "atT", "I", false)
  | 54 => ("QuotedBooksModel", "atW", "I", false)
  | 55 => ("QuotedBooksModel", "atX", "I", false)
  | 56 => ("QuotedBooksModel", "atY", "I", false)
  | 57 => ("QuotedBooksModel", "atZ", "I", false)
  | 58 => ("QuotedBooksModel", "worth", "[I", true)
  | 59 => ("QuotedBooksModel", "isRefused", "[Z", true)
  | 60 => ("QuotedBooksModel", "costs", "[I", true)
  | 61 => ("QuotedBooksModel", "nearFar", "I", false)
  | 62 => ("QuotedBooksModel", "nearFrom", "I", false)
  | 63 => ("QuotedBooksModel", "nearTo", "I", false)
  | 64 => ("QuotedBooksModel", "common", "[I", true)
  | 65 => ("QuotedBooksModel", "stoodRow", "[I", true)
  | 66 => ("QuotedBooksModel", "hisWord", "[I", true)
  | 67 => ("QuotedBooksModel", "bothPlaces", "I", false)
  | 68 => ("QuotedBooksModel", "slipsOne", "I", false)
  | 69 => ("QuotedBooksModel", "slipsOther", "I", false)
  | 70 => ("QuotedBooksModel", "slipsAlike", "I", false)
  | 71 => ("QuotedBooksModel", "above", "J", false)
  | 72 => ("QuotedBooksModel", "below", "J", false)
  | 73 => ("QuotedBooksModel", "tied", "[I", true)
  | 74 => ("QuotedBooksModel", "fromCost", "I", false)
  | 75 => ("QuotedBooksModel", "pairs", "I", false)
  | 76 => ("QuotedBooksModel", "pairFirst", "[I", true)
  | 77 => ("QuotedBooksModel", "pairThen", "[I", true)
  | 78 => ("QuotedBooksModel", "orderMany", "I", false)
  | 79 => ("QuotedBooksModel", "orderBit", "[I", true)
  | 80 => ("QuotedBooksModel", "aheadOf", "[I", true)
  | 81 => ("QuotedBooksModel", "pointsOf", "[I", true)
  | 82 => ("QuotedBooksModel", "restPoints", "[I", true)
  | 83 => ("QuotedBooksModel", "restMany", "[J", true)
  | 84 => ("QuotedBooksModel", "bestPoints", "I", false)
  | 85 => ("QuotedBooksModel", "bestMany", "J", false)
  | 86 => ("QuotedBooksModel", "oftenOf", "[I", true)
  | 87 => ("QuotedBooksModel", "allWords", "[I", true)
  | 88 => ("QuotedBooksModel", "givings", "I", false)
  | 89 => ("QuotedBooksModel", "givenBit", "[I", true)
  | 90 => ("QuotedBooksModel", "givenWork", "[I", true)
  | _ => ("QuotedBooksModel", "givenYear", "[I", true)
def tyX12 : Nat → FieldType := fun k => match k with
  | 0 => .array .byte
  | 1 => .int
  | 2 => .int
  | 3 => .int
  | 4 => .int
  | 5 => .int
  | 6 => .int
  | 7 => .array .int
  | 8 => .array .int
  | 9 => .array .int
  | 10 => .array .int
  | 11 => .array .int
  | 12 => .array .int
  | 13 => .array .int
  | 14 => .array .int
  | 15 => .array .int
  | 16 => .array .int
  | 17 => .array .int
  | 18 => .array .int
  | 19 => .array .int
  | 20 => .array .int
  | 21 => .array .int
  | 22 => .array .int
  | 23 => .array .int
  | 24 => .array .int
  | 25 => .array .int
  | 26 => .array .int
  | 27 => .array .int
  | 28 => .array .int
  | 29 => .array .int
  | 30 => .array .int
  | 31 => .array .int
  | 32 => .array .int
  | 33 => .array .int
  | 34 => .int
  | 35 => .int
  | 36 => .int
  | 37 => .int
  | 38 => .int
  | 39 => .int
  | 40 => .int
  | 41 => .boolean
  | 42 => .boolean
  | 43 => .array .int
  | 44 => .int
  | 45 => .int
  | 46 => .int
  | 47 => .int
  | 48 => .int
  | 49 => .int
  | 50 => .int
  | 51 => .int
  | 52 => .int
  | 53 => .int
  | 54 => .int
  | 55 => .int
  | 56 => .int
  | 57 => .int
  | 58 => .array .int
  | 59 => .array .boolean
  | 60 => .array .int
  | 61 => .int
  | 62 => .int
  | 63 => .int
  | 64 => .array .int
  | 65 => .array .int
  | 66 => .array .int
  | 67 => .int
  | 68 => .int
  | 69 => .int
  | 70 => .int
  | 71 => .long
  | 72 => .long
  | 73 => .array .int
  | 74 => .int
  | 75 => .int
  | 76 => .array .int
  | 77 => .array .int
  | 78 => .int
  | 79 => .array .int
  | 80 => .array .int
  | 81 => .array .int
  | 82 => .array .int
  | 83 => .array .long
  | 84 => .int
  | 85 => .long
  | 86 => .array .int
  | 87 => .array .int
  | 88 => .int
  | 89 => .array .int
  | 90 => .array .int
  | _ => .array .int
theorem nmX12 : ∀ a, a < 92 → ∀ b, b < 92 → a ≠ b → (TX12 a).2.1 ≠ (TX12 b).2.1 := by decide +kernel
theorem tyX12_ok : ∀ k, k < 92 → parseFieldDescriptor (TX12 k).2.2.1 = some (tyX12 k) := by decide +kernel
abbrev cX12_init : ByteArray := prog_14_method_1_code
def yX12_init : MethodName := ⟨RX12, "<init>", "()V"⟩
abbrev cX12_lies : ByteArray := prog_14_method_2_code
def yX12_lies : MethodName := ⟨RX12, "lies", "(JJJ)Z"⟩
abbrev cX12_has : ByteArray := prog_14_method_3_code
def yX12_has : MethodName := ⟨RX12, "has", "(JI)Z"⟩
abbrev cX12_sizeOf : ByteArray := prog_14_method_4_code
def yX12_sizeOf : MethodName := ⟨RX12, "sizeOf", "(J)I"⟩
abbrev cX12_isAuthor : ByteArray := prog_14_method_5_code
def yX12_isAuthor : MethodName := ⟨RX12, "isAuthor", "(I)Z"⟩
abbrev cX12_isWork : ByteArray := prog_14_method_6_code
def yX12_isWork : MethodName := ⟨RX12, "isWork", "(I)Z"⟩
abbrev cX12_isLeft : ByteArray := prog_14_method_7_code
def yX12_isLeft : MethodName := ⟨RX12, "isLeft", "(I)Z"⟩
abbrev cX12_isWriter : ByteArray := prog_14_method_8_code
def yX12_isWriter : MethodName := ⟨RX12, "isWriter", "(I)Z"⟩
abbrev cX12_isBit : ByteArray := prog_14_method_9_code
def yX12_isBit : MethodName := ⟨RX12, "isBit", "(I)Z"⟩
abbrev cX12_author : ByteArray := prog_14_method_10_code
def yX12_author : MethodName := ⟨RX12, "author", "(II)I"⟩
abbrev cX12_work : ByteArray := prog_14_method_11_code
def yX12_work : MethodName := ⟨RX12, "work", "(II)I"⟩
abbrev cX12_writer : ByteArray := prog_14_method_12_code
def yX12_writer : MethodName := ⟨RX12, "writer", "(I)I"⟩
abbrev cX12_seed : ByteArray := prog_14_method_13_code
def yX12_seed : MethodName := ⟨RX12, "seed", "(I)Z"⟩
abbrev cX12_push : ByteArray := prog_14_method_14_code
def yX12_push : MethodName := ⟨RX12, "push", "(I)V"⟩
abbrev cX12_feed : ByteArray := prog_14_method_15_code
def yX12_feed : MethodName := ⟨RX12, "feed", "(IIIII)I"⟩
abbrev cX12_left : ByteArray := prog_14_method_16_code
def yX12_left : MethodName := ⟨RX12, "left", "(II)Z"⟩
abbrev cX12_comes : ByteArray := prog_14_method_17_code
def yX12_comes : MethodName := ⟨RX12, "comes", "(IIIII)V"⟩
abbrev cX12_bit : ByteArray := prog_14_method_18_code
def yX12_bit : MethodName := ⟨RX12, "bit", "(IIIII)I"⟩
abbrev cX12_here : ByteArray := prog_14_method_19_code
def yX12_here : MethodName := ⟨RX12, "here", "()I"⟩
abbrev cX12_wrongs : ByteArray := prog_14_method_20_code
def yX12_wrongs : MethodName := ⟨RX12, "wrongs", "(II)V"⟩
abbrev cX12_isGood : ByteArray := prog_14_method_21_code
def yX12_isGood : MethodName := ⟨RX12, "isGood", "()Z"⟩
abbrev cX12_emit : ByteArray := prog_14_method_22_code
def yX12_emit : MethodName := ⟨RX12, "emit", "(II)V"⟩
abbrev cX12_top : ByteArray := prog_14_method_23_code
def yX12_top : MethodName := ⟨RX12, "top", "()I"⟩
abbrev cX12_puts : ByteArray := prog_14_method_24_code
def yX12_puts : MethodName := ⟨RX12, "puts", "(I)V"⟩
abbrev cX12_opens : ByteArray := prog_14_method_25_code
def yX12_opens : MethodName := ⟨RX12, "opens", "()V"⟩
abbrev cX12_seesDigit : ByteArray := prog_14_method_26_code
def yX12_seesDigit : MethodName := ⟨RX12, "seesDigit", "()Z"⟩
abbrev cX12_reads : ByteArray := prog_14_method_27_code
def yX12_reads : MethodName := ⟨RX12, "reads", "()I"⟩
abbrev cX12_isTimes : ByteArray := prog_14_method_28_code
def yX12_isTimes : MethodName := ⟨RX12, "isTimes", "(I)Z"⟩
abbrev cX12_isPlus : ByteArray := prog_14_method_29_code
def yX12_isPlus : MethodName := ⟨RX12, "isPlus", "(I)Z"⟩
abbrev cX12_isSign : ByteArray := prog_14_method_30_code
def yX12_isSign : MethodName := ⟨RX12, "isSign", "(I)Z"⟩
abbrev cX12_isValue : ByteArray := prog_14_method_31_code
def yX12_isValue : MethodName := ⟨RX12, "isValue", "(I)Z"⟩
abbrev cX12_sums : ByteArray := prog_14_method_32_code
def yX12_sums : MethodName := ⟨RX12, "sums", "(Z)V"⟩
abbrev cX12_joins : ByteArray := prog_14_method_33_code
def yX12_joins : MethodName := ⟨RX12, "joins", "(Z)V"⟩
abbrev cX12_ends : ByteArray := prog_14_method_34_code
def yX12_ends : MethodName := ⟨RX12, "ends", "()V"⟩
abbrev cX12_factor : ByteArray := prog_14_method_35_code
def yX12_factor : MethodName := ⟨RX12, "factor", "()V"⟩
abbrev cX12_stays : ByteArray := prog_14_method_36_code
def yX12_stays : MethodName := ⟨RX12, "stays", "()Z"⟩
abbrev cX12_value : ByteArray := prog_14_method_37_code
def yX12_value : MethodName := ⟨RX12, "value", "()V"⟩
abbrev cX12_pieceOfC : ByteArray := prog_14_method_38_code
def yX12_pieceOfC : MethodName := ⟨RX12, "pieceOfC", "()V"⟩
abbrev cX12_goesBehind : ByteArray := prog_14_method_39_code
def yX12_goesBehind : MethodName := ⟨RX12, "goesBehind", "()Z"⟩
abbrev cX12_condition : ByteArray := prog_14_method_40_code
def yX12_condition : MethodName := ⟨RX12, "condition", "()V"⟩
abbrev cX12_isClause : ByteArray := prog_14_method_41_code
def yX12_isClause : MethodName := ⟨RX12, "isClause", "(II)Z"⟩
abbrev cX12_clause : ByteArray := prog_14_method_42_code
def yX12_clause : MethodName := ⟨RX12, "clause", "(I)V"⟩
abbrev cX12_readsText : ByteArray := prog_14_method_43_code
def yX12_readsText : MethodName := ⟨RX12, "readsText", "(II)I"⟩
abbrev cX12_way : ByteArray := prog_14_method_44_code
def yX12_way : MethodName := ⟨RX12, "way", "(II)I"⟩
abbrev cX12_plan : ByteArray := prog_14_method_45_code
def yX12_plan : MethodName := ⟨RX12, "plan", "(I)I"⟩
abbrev cX12_habit : ByteArray := prog_14_method_46_code
def yX12_habit : MethodName := ⟨RX12, "habit", "(I)I"⟩
abbrev cX12_table : ByteArray := prog_14_method_47_code
def yX12_table : MethodName := ⟨RX12, "table", "(I)I"⟩
abbrev cX12_clears : ByteArray := prog_14_method_48_code
def yX12_clears : MethodName := ⟨RX12, "clears", "()V"⟩
abbrev cX12_valueOf : ByteArray := prog_14_method_49_code
def yX12_valueOf : MethodName := ⟨RX12, "valueOf", "(I)I"⟩
abbrev cX12_worked : ByteArray := prog_14_method_50_code
def yX12_worked : MethodName := ⟨RX12, "worked", "(III)I"⟩
abbrev cX12_does : ByteArray := prog_14_method_51_code
def yX12_does : MethodName := ⟨RX12, "does", "(II)V"⟩
abbrev cX12_reckons : ByteArray := prog_14_method_52_code
def yX12_reckons : MethodName := ⟨RX12, "reckons", "(II)V"⟩
abbrev cX12_tells : ByteArray := prog_14_method_53_code
def yX12_tells : MethodName := ⟨RX12, "tells", "(IIII)I"⟩
abbrev cX12_stands : ByteArray := prog_14_method_54_code
def yX12_stands : MethodName := ⟨RX12, "stands", "(IIIII)V"⟩
abbrev cX12_quote : ByteArray := prog_14_method_55_code
def yX12_quote : MethodName := ⟨RX12, "quote", "(IIIII)I"⟩
abbrev cX12_bitIs : ByteArray := prog_14_method_56_code
def yX12_bitIs : MethodName := ⟨RX12, "bitIs", "(II)I"⟩
abbrev cX12_starts : ByteArray := prog_14_method_57_code
def yX12_starts : MethodName := ⟨RX12, "starts", "(I)V"⟩
abbrev cX12_goesOn : ByteArray := prog_14_method_58_code
def yX12_goesOn : MethodName := ⟨RX12, "goesOn", "(II)V"⟩
abbrev cX12_farOf : ByteArray := prog_14_method_59_code
def yX12_farOf : MethodName := ⟨RX12, "farOf", "(II)I"⟩
abbrev cX12_apart : ByteArray := prog_14_method_60_code
def yX12_apart : MethodName := ⟨RX12, "apart", "(II)I"⟩
abbrev cX12_nears : ByteArray := prog_14_method_61_code
def yX12_nears : MethodName := ⟨RX12, "nears", "(II)V"⟩
abbrev cX12_nearnessNow : ByteArray := prog_14_method_62_code
def yX12_nearnessNow : MethodName := ⟨RX12, "nearnessNow", "(I)I"⟩
abbrev cX12_near : ByteArray := prog_14_method_63_code
def yX12_near : MethodName := ⟨RX12, "near", "(III)I"⟩
abbrev cX12_nearness : ByteArray := prog_14_method_64_code
def yX12_nearness : MethodName := ⟨RX12, "nearness", "(II)I"⟩
abbrev cX12_same : ByteArray := prog_14_method_65_code
def yX12_same : MethodName := ⟨RX12, "same", "(II)J"⟩
abbrev cX12_findsWord : ByteArray := prog_14_method_66_code
def yX12_findsWord : MethodName := ⟨RX12, "findsWord", "(III)I"⟩
abbrev cX12_standsBoth : ByteArray := prog_14_method_67_code
def yX12_standsBoth : MethodName := ⟨RX12, "standsBoth", "(II)I"⟩
abbrev cX12_leads : ByteArray := prog_14_method_68_code
def yX12_leads : MethodName := ⟨RX12, "leads", "(IIIII)Z"⟩
abbrev cX12_stood : ByteArray := prog_14_method_69_code
def yX12_stood : MethodName := ⟨RX12, "stood", "(III)I"⟩
abbrev cX12_lays : ByteArray := prog_14_method_70_code
def yX12_lays : MethodName := ⟨RX12, "lays", "(I)V"⟩
abbrev cX12_hasPlace : ByteArray := prog_14_method_71_code
def yX12_hasPlace : MethodName := ⟨RX12, "hasPlace", "(II)Z"⟩
abbrev cX12_slipsAt : ByteArray := prog_14_method_72_code
def yX12_slipsAt : MethodName := ⟨RX12, "slipsAt", "(III)Z"⟩
abbrev cX12_placesOf : ByteArray := prog_14_method_73_code
def yX12_placesOf : MethodName := ⟨RX12, "placesOf", "(I)J"⟩
abbrev cX12_slipsOf : ByteArray := prog_14_method_74_code
def yX12_slipsOf : MethodName := ⟨RX12, "slipsOf", "(II)J"⟩
abbrev cX12_slips : ByteArray := prog_14_method_75_code
def yX12_slips : MethodName := ⟨RX12, "slips", "(III)J"⟩
abbrev cX12_slip : ByteArray := prog_14_method_76_code
def yX12_slip : MethodName := ⟨RX12, "slip", "(III)I"⟩
abbrev cX12_choices : ByteArray := prog_14_method_77_code
def yX12_choices : MethodName := ⟨RX12, "choices", "(II)J"⟩
abbrev cX12_divisor : ByteArray := prog_14_method_78_code
def yX12_divisor : MethodName := ⟨RX12, "divisor", "(JJ)J"⟩
abbrev cX12_shares : ByteArray := prog_14_method_79_code
def yX12_shares : MethodName := ⟨RX12, "shares", "(III)V"⟩
abbrev cX12_shared : ByteArray := prog_14_method_80_code
def yX12_shared : MethodName := ⟨RX12, "shared", "(IIII)J"⟩
abbrev cX12_groups : ByteArray := prog_14_method_81_code
def yX12_groups : MethodName := ⟨RX12, "groups", "(II)I"⟩
abbrev cX12_fromOf : ByteArray := prog_14_method_82_code
def yX12_fromOf : MethodName := ⟨RX12, "fromOf", "(II)I"⟩
abbrev cX12_from : ByteArray := prog_14_method_83_code
def yX12_from : MethodName := ⟨RX12, "from", "(III)I"⟩
abbrev cX12_there : ByteArray := prog_14_method_84_code
def yX12_there : MethodName := ⟨RX12, "there", "(I)I"⟩
abbrev cX12_ahead : ByteArray := prog_14_method_85_code
def yX12_ahead : MethodName := ⟨RX12, "ahead", "(II)Z"⟩
abbrev cX12_standsPlan : ByteArray := prog_14_method_86_code
def yX12_standsPlan : MethodName := ⟨RX12, "standsPlan", "(II)V"⟩
abbrev cX12_gathers : ByteArray := prog_14_method_87_code
def yX12_gathers : MethodName := ⟨RX12, "gathers", "(II)Z"⟩
abbrev cX12_mayCome : ByteArray := prog_14_method_88_code
def yX12_mayCome : MethodName := ⟨RX12, "mayCome", "(II)Z"⟩
abbrev cX12_weighs : ByteArray := prog_14_method_89_code
def yX12_weighs : MethodName := ⟨RX12, "weighs", "(II)V"⟩
abbrev cX12_laysOrder : ByteArray := prog_14_method_90_code
def yX12_laysOrder : MethodName := ⟨RX12, "laysOrder", "()Z"⟩
abbrev cX12_isOrdered : ByteArray := prog_14_method_91_code
def yX12_isOrdered : MethodName := ⟨RX12, "isOrdered", "(I)Z"⟩
abbrev cX12_atPlace : ByteArray := prog_14_method_92_code
def yX12_atPlace : MethodName := ⟨RX12, "atPlace", "(I)I"⟩
abbrev cX12_isNext : ByteArray := prog_14_method_93_code
def yX12_isNext : MethodName := ⟨RX12, "isNext", "(III)Z"⟩
abbrev cX12_order : ByteArray := prog_14_method_94_code
def yX12_order : MethodName := ⟨RX12, "order", "(II)I"⟩
abbrev cX12_orders : ByteArray := prog_14_method_95_code
def yX12_orders : MethodName := ⟨RX12, "orders", "(I)J"⟩
abbrev cX12_orderOf : ByteArray := prog_14_method_96_code
def yX12_orderOf : MethodName := ⟨RX12, "orderOf", "(I)I"⟩
abbrev cX12_sure : ByteArray := prog_14_method_97_code
def yX12_sure : MethodName := ⟨RX12, "sure", "(II)I"⟩
abbrev cX12_moves : ByteArray := prog_14_method_98_code
def yX12_moves : MethodName := ⟨RX12, "moves", "(I)I"⟩
abbrev cX12_speaks : ByteArray := prog_14_method_99_code
def yX12_speaks : MethodName := ⟨RX12, "speaks", "(III)I"⟩
abbrev cX12_truthOf : ByteArray := prog_14_method_100_code
def yX12_truthOf : MethodName := ⟨RX12, "truthOf", "(JII)J"⟩
abbrev cX12_truth : ByteArray := prog_14_method_101_code
def yX12_truth : MethodName := ⟨RX12, "truth", "(JII)J"⟩
abbrev cX12_booksTold : ByteArray := prog_14_method_102_code
def yX12_booksTold : MethodName := ⟨RX12, "booksTold", "(I)J"⟩
abbrev cX12_greatestOf : ByteArray := prog_14_method_103_code
def yX12_greatestOf : MethodName := ⟨RX12, "greatestOf", "(J)I"⟩
abbrev cX12_length : ByteArray := prog_14_method_104_code
def yX12_length : MethodName := ⟨RX12, "length", "(III)J"⟩
abbrev cX12_span : ByteArray := prog_14_method_105_code
def yX12_span : MethodName := ⟨RX12, "span", "(III)I"⟩
abbrev cX12_nobody : ByteArray := prog_14_method_106_code
def yX12_nobody : MethodName := ⟨RX12, "nobody", "(II)J"⟩
abbrev cX12_counts : ByteArray := prog_14_method_107_code
def yX12_counts : MethodName := ⟨RX12, "counts", "(II)V"⟩
abbrev cX12_gathersWords : ByteArray := prog_14_method_108_code
def yX12_gathersWords : MethodName := ⟨RX12, "gathersWords", "(I)V"⟩
abbrev cX12_pointsFor : ByteArray := prog_14_method_109_code
def yX12_pointsFor : MethodName := ⟨RX12, "pointsFor", "(II)I"⟩
abbrev cX12_whose : ByteArray := prog_14_method_110_code
def yX12_whose : MethodName := ⟨RX12, "whose", "(II)I"⟩
abbrev cX12_alikeOf : ByteArray := prog_14_method_111_code
def yX12_alikeOf : MethodName := ⟨RX12, "alikeOf", "(II)I"⟩
abbrev cX12_men : ByteArray := prog_14_method_112_code
def yX12_men : MethodName := ⟨RX12, "men", "(II)J"⟩
abbrev cX12_isYear : ByteArray := prog_14_method_113_code
def yX12_isYear : MethodName := ⟨RX12, "isYear", "(I)Z"⟩
abbrev cX12_gives : ByteArray := prog_14_method_114_code
def yX12_gives : MethodName := ⟨RX12, "gives", "(III)Z"⟩
abbrev cX12_givenOf : ByteArray := prog_14_method_115_code
def yX12_givenOf : MethodName := ⟨RX12, "givenOf", "(II)I"⟩
abbrev cX12_given : ByteArray := prog_14_method_116_code
def yX12_given : MethodName := ⟨RX12, "given", "(II)I"⟩
abbrev cX12_wrong : ByteArray := prog_14_method_117_code
def yX12_wrong : MethodName := ⟨RX12, "wrong", "(I)J"⟩
abbrev cX12_numberAt : ByteArray := prog_14_method_118_code
def yX12_numberAt : MethodName := ⟨RX12, "numberAt", "(I)I"⟩
abbrev cX12_check : ByteArray := prog_14_method_119_code
def yX12_check : MethodName := ⟨RX12, "check", "(II)I"⟩
abbrev cX12_count : ByteArray := prog_14_method_120_code
def yX12_count : MethodName := ⟨RX12, "count", "(I)I"⟩
def RJ11 : String := "java/lang/Character"
abbrev cJ11_isValidCodePoint_9a6ad : ByteArray := prog_15_method_11_code
def yJ11_isValidCodePoint_9a6ad : MethodName := ⟨RJ11, "isValidCodePoint", "(I)Z"⟩
abbrev cJ11_highSurrogate_5068e : ByteArray := prog_15_method_28_code
def yJ11_highSurrogate_5068e : MethodName := ⟨RJ11, "highSurrogate", "(I)C"⟩
abbrev cJ11_lowSurrogate_5068e : ByteArray := prog_15_method_29_code
def yJ11_lowSurrogate_5068e : MethodName := ⟨RJ11, "lowSurrogate", "(I)C"⟩
def RJ6 : String := "java/lang/Integer"
abbrev cJ6_numberOfLeadingZeros_0f7a4 : ByteArray := prog_16_method_47_code
def yJ6_numberOfLeadingZeros_0f7a4 : MethodName := ⟨RJ6, "numberOfLeadingZeros", "(I)I"⟩
abbrev cJ6_numberOfTrailingZeros_0f7a4 : ByteArray := prog_16_method_48_code
def yJ6_numberOfTrailingZeros_0f7a4 : MethodName := ⟨RJ6, "numberOfTrailingZeros", "(I)I"⟩
def RJ13 : String := "java/lang/Long"
abbrev cJ13_numberOfLeadingZeros_95d88 : ByteArray := prog_17_method_48_code
def yJ13_numberOfLeadingZeros_95d88 : MethodName := ⟨RJ13, "numberOfLeadingZeros", "(J)I"⟩
abbrev cJ13_bitCount_95d88 : ByteArray := prog_17_method_50_code
def yJ13_bitCount_95d88 : MethodName := ⟨RJ13, "bitCount", "(J)I"⟩
def RJ9 : String := "java/lang/Math"
abbrev cJ9_abs_0f7a4 : ByteArray := prog_18_method_59_code
def yJ9_abs_0f7a4 : MethodName := ⟨RJ9, "abs", "(I)I"⟩
abbrev cJ9_max_7cf53 : ByteArray := prog_18_method_65_code
def yJ9_max_7cf53 : MethodName := ⟨RJ9, "max", "(II)I"⟩
abbrev cJ9_min_7cf53 : ByteArray := prog_18_method_69_code
def yJ9_min_7cf53 : MethodName := ⟨RJ9, "min", "(II)I"⟩
def RJ0 : String := "java/lang/String"
abbrev cJ0_length_8abf5 : ByteArray := prog_19_method_54_code
def yJ0_length_8abf5 : MethodName := ⟨RJ0, "length", "()I"⟩
abbrev cJ0_indexOf_0f7a4 : ByteArray := prog_19_method_79_code
def yJ0_indexOf_0f7a4 : MethodName := ⟨RJ0, "indexOf", "(I)I"⟩
abbrev cJ0_indexOf_7cf53 : ByteArray := prog_19_method_80_code
def yJ0_indexOf_7cf53 : MethodName := ⟨RJ0, "indexOf", "(II)I"⟩
abbrev cJ0_coder_7d493 : ByteArray := prog_19_method_152_code
def yJ0_coder_7d493 : MethodName := ⟨RJ0, "coder", "()B"⟩
abbrev cJ0_isLatin1_aae02 : ByteArray := prog_19_method_154_code
def yJ0_isLatin1_aae02 : MethodName := ⟨RJ0, "isLatin1", "()Z"⟩
abbrev cJ0_checkBoundsBeginEnd_23922 : ByteArray := prog_19_method_158_code
def yJ0_checkBoundsBeginEnd_23922 : MethodName := ⟨RJ0, "checkBoundsBeginEnd", "(III)V"⟩
def RJ1 : String := "java/lang/StringLatin1"
abbrev cJ1_canEncode_9a6ad : ByteArray := prog_20_method_4_code
def yJ1_canEncode_9a6ad : MethodName := ⟨RJ1, "canEncode", "(I)Z"⟩
abbrev cJ1_indexOf_4cfef : ByteArray := prog_20_method_22_code
def yJ1_indexOf_4cfef : MethodName := ⟨RJ1, "indexOf", "([BIII)I"⟩
abbrev cJ1_indexOfChar_4cfef : ByteArray := prog_20_method_23_code
def yJ1_indexOfChar_4cfef : MethodName := ⟨RJ1, "indexOfChar", "([BIII)I"⟩
def RJ2 : String := "java/lang/StringUTF16"
abbrev cJ2_getChar_3b067 : ByteArray := prog_21_method_5_code
def yJ2_getChar_3b067 : MethodName := ⟨RJ2, "getChar", "([BI)C"⟩
abbrev cJ2_length_9d52b : ByteArray := prog_21_method_6_code
def yJ2_length_9d52b : MethodName := ⟨RJ2, "length", "([B)I"⟩
abbrev cJ2_indexOf_4cfef : ByteArray := prog_21_method_40_code
def yJ2_indexOf_4cfef : MethodName := ⟨RJ2, "indexOf", "([BIII)I"⟩
abbrev cJ2_indexOfChar_4cfef : ByteArray := prog_21_method_47_code
def yJ2_indexOfChar_4cfef : MethodName := ⟨RJ2, "indexOfChar", "([BIII)I"⟩
abbrev cJ2_indexOfCharUnsafe_4cfef : ByteArray := prog_21_method_48_code
def yJ2_indexOfCharUnsafe_4cfef : MethodName := ⟨RJ2, "indexOfCharUnsafe", "([BIII)I"⟩
abbrev cJ2_indexOfSupplementary_4cfef : ByteArray := prog_21_method_49_code
def yJ2_indexOfSupplementary_4cfef : MethodName := ⟨RJ2, "indexOfSupplementary", "([BIII)I"⟩
abbrev cJ2_checkBoundsBeginEnd_d044e : ByteArray := prog_21_method_93_code
def yJ2_checkBoundsBeginEnd_d044e : MethodName := ⟨RJ2, "checkBoundsBeginEnd", "(II[B)V"⟩
def RJ10 : String := "java/lang/System"
def RJ3 : String := "jdk/internal/util/Preconditions"
abbrev cJ3_checkFromToIndex_8c36e : ByteArray := prog_23_method_12_code
def yJ3_checkFromToIndex_8c36e : MethodName := ⟨RJ3, "checkFromToIndex", "(IIILjava/util/function/BiFunction;)I"⟩
def RL : String := "QuotedBooksLaw"
abbrev cL_law : ByteArray := code
def yL_law : MethodName := ⟨RL, "law", "([I)Z"⟩
abbrev vwCl : List vw_C := [(RX0, TX0, 12), (RX1, TX1, 8), (RX2, TX2, 10), (RX3, TX3, 5), (RX4, TX4, 2), (RX5, TX5, 18), (RX6, TX6, 5), (RX7, TX7, 18), (RX8, TX8, 5), (RX9, TX9, 2), (RX10, TX10, 11), (RX11, TX11, 16), (RX12, TX12, 92)]
-- tables
def clR (o : Nat) : String := [RX0, RX1, RX2, RX3, RX4, RX5, RX6, RX7, RX8, RX9, RX10, RX11, RX12, RJ6, RJ13, RJ9, RJ0, RJ1, RJ2, RJ11, RJ3, RJ10, RL].getD o ""
def clT (ci : Nat) : u_T := [TX0, TX1, TX2, TX3, TX4, TX5, TX6, TX7, TX8, TX9, TX10, TX11, TX12].getD ci TX0
def clY (ci : Nat) : Nat → FieldType := [tyX0, tyX1, tyX2, tyX3, tyX4, tyX5, tyX6, tyX7, tyX8, tyX9, tyX10, tyX11, tyX12].getD ci tyX0
def clN (ci : Nat) : Nat := [12, 8, 10, 5, 2, 18, 5, 18, 5, 2, 11, 16, 92].getD ci 0
/-- what kind a field is: 0 int, 1 long, 2 a reference, 3 boolean -/
def ftT : List (List Nat) := [[2, 2, 2, 0, 0, 0, 0, 0, 2, 2, 1, 0], [2, 2, 2, 2, 2, 2, 2, 2], [2, 2, 2, 2, 0, 0, 0, 0, 0, 0], [2, 0, 2, 2, 2], [1, 1], [2, 2, 0, 2, 2, 0, 2, 2, 2, 2, 2, 2, 2, 2, 0, 0, 0, 3], [2, 2, 0, 0, 0], [0, 2, 2, 0, 2, 2, 2, 2, 2, 0, 2, 0, 2, 2, 2, 2, 2, 2], [2, 2, 2, 1, 1], [2, 0], [0, 0, 2, 2, 2, 2, 2, 2, 2, 0, 3], [2, 2, 2, 2, 2, 2, 2, 2, 2, 2, 2, 2, 2, 2, 0, 0], [2, 0, 0, 0, 0, 0, 0, 2, 2, 2, 2, 2, 2, 2, 2, 2, 2, 2, 2, 2, 2, 2, 2, 2, 2, 2, 2, 2, 2, 2, 2, 2, 2, 2, 0, 0, 0, 0, 0, 0, 0, 3, 3, 2, 0, 0, 0, 0, 0, 0, 0, 0, 0, 0, 0, 0, 0, 0, 2, 2, 2, 0, 0, 0, 2, 2, 2, 0, 0, 0, 0, 1, 1, 2, 0, 0, 2, 2, 0, 2, 2, 2, 2, 2, 0, 1, 2, 2, 0, 2, 2, 2]]
def fin_ (ci j : Nat) : Bool := (clT ci j).2.2.2
/-- field links: pool index, class, field, place in the tables -/
def lkL : List (List (Nat × Nat × Nat × Nat)) := [[(9, 0, 2, 466), (15, 0, 8, 472), (18, 0, 9, 473), (21, 0, 0, 464), (25, 0, 1, 465), (29, 0, 4, 468), (33, 0, 5, 469), (36, 0, 6, 470), (39, 0, 10, 474), (43, 0, 11, 475), (60, 0, 3, 467), (116, 0, 7, 471)], [(11, 1, 1, 313), (15, 1, 2, 314), (19, 1, 3, 315), (22, 1, 4, 316), (25, 1, 5, 317), (28, 1, 6, 318), (31, 1, 7, 319), (34, 1, 0, 312)], [(9, 2, 0, 366), (15, 2, 1, 367), (24, 2, 2, 368), (28, 2, 3, 369), (31, 2, 4, 370), (35, 2, 5, 371), (38, 2, 6, 372), (41, 2, 7, 373), (44, 2, 8, 374), (47, 2, 9, 375)], [(11, 3, 2, 509), (15, 3, 3, 510), (18, 3, 4, 511), (21, 3, 0, 507), (25, 3, 1, 508)], [(7, 4, 1, 300), (13, 4, 0, 299)], [(11, 5, 3, 406), (15, 5, 4, 407), (18, 5, 6, 409), (21, 5, 7, 410), (24, 5, 8, 411), (27, 5, 9, 412), (30, 5, 10, 413), (33, 5, 11, 414), (36, 5, 12, 415), (39, 5, 13, 416), (42, 5, 16, 419), (46, 5, 0, 403), (50, 5, 1, 404), (54, 5, 2, 405), (57, 5, 14, 417), (60, 5, 15, 418), (63, 5, 5, 408), (77, 5, 17, 420)], [(12, 6, 1, 275), (18, 6, 0, 274), (22, 6, 2, 276), (26, 6, 3, 277), (29, 6, 4, 278)], [(9, 7, 1, 174), (15, 7, 2, 175), (18, 7, 4, 177), (21, 7, 5, 178), (24, 7, 6, 179), (27, 7, 7, 180), (30, 7, 8, 181), (33, 7, 10, 183), (36, 7, 12, 185), (39, 7, 13, 186), (42, 7, 14, 187), (45, 7, 15, 188), (48, 7, 16, 189), (51, 7, 17, 190), (54, 7, 0, 173), (58, 7, 3, 176), (61, 7, 9, 182), (64, 7, 11, 184)], [(9, 8, 2, 352), (15, 8, 0, 350), (19, 8, 1, 351), (23, 8, 3, 353), (27, 8, 4, 354)], [(11, 9, 0, 159), (15, 9, 1, 160)], [(9, 10, 2, 242), (13, 10, 3, 243), (16, 10, 4, 244), (19, 10, 5, 245), (22, 10, 6, 246), (25, 10, 7, 247), (28, 10, 8, 248), (31, 10, 0, 240), (35, 10, 1, 241), (62, 10, 9, 249), (65, 10, 10, 250)], [(10, 11, 0, 523), (19, 11, 1, 524), (28, 11, 2, 525), (34, 11, 3, 526), (39, 11, 4, 527), (43, 11, 5, 528), (46, 11, 6, 529), (52, 11, 7, 530), (61, 11, 8, 531), (70, 11, 9, 532), (79, 11, 10, 533), (86, 11, 11, 534), (93, 11, 12, 535), (97, 11, 13, 536), (101, 11, 15, 538), (166, 11, 14, 537)], [(7, 12, 0, 1596), (13, 12, 6, 1602), (17, 12, 7, 1603), (21, 12, 8, 1604), (24, 12, 9, 1605), (27, 12, 10, 1606), (30, 12, 11, 1607), (33, 12, 12, 1608), (36, 12, 13, 1609), (39, 12, 14, 1610), (42, 12, 15, 1611), (45, 12, 16, 1612), (48, 12, 17, 1613), (51, 12, 18, 1614), (54, 12, 19, 1615), (57, 12, 20, 1616), (60, 12, 21, 1617), (63, 12, 22, 1618), (66, 12, 23, 1619), (69, 12, 24, 1620), (72, 12, 25, 1621), (75, 12, 26, 1622), (78, 12, 27, 1623), (81, 12, 28, 1624), (84, 12, 29, 1625), (87, 12, 30, 1626), (90, 12, 31, 1627), (93, 12, 32, 1628), (96, 12, 33, 1629), (99, 12, 43, 1639), (102, 12, 58, 1654), (105, 12, 59, 1655), (109, 12, 60, 1656), (112, 12, 64, 1660), (115, 12, 65, 1661), (118, 12, 66, 1662), (121, 12, 73, 1669), (124, 12, 76, 1672), (127, 12, 77, 1673), (130, 12, 79, 1675), (133, 12, 80, 1676), (136, 12, 81, 1677), (139, 12, 82, 1678), (142, 12, 83, 1679), (146, 12, 86, 1682), (149, 12, 87, 1683), (152, 12, 89, 1685), (155, 12, 90, 1686), (158, 12, 91, 1687), (161, 12, 2, 1598), (168, 12, 3, 1599), (175, 12, 4, 1600), (178, 12, 5, 1601), (192, 12, 1, 1597), (212, 12, 34, 1630), (215, 12, 35, 1631), (218, 12, 36, 1632), (225, 12, 38, 1634), (228, 12, 40, 1636), (231, 12, 39, 1635), (277, 12, 42, 1638), (299, 12, 41, 1637), (312, 12, 37, 1633), (327, 12, 44, 1640), (330, 12, 45, 1641), (333, 12, 46, 1642), (336, 12, 47, 1643), (339, 12, 48, 1644), (342, 12, 49, 1645), (345, 12, 50, 1646), (348, 12, 51, 1647), (351, 12, 52, 1648), (354, 12, 53, 1649), (357, 12, 54, 1650), (360, 12, 55, 1651), (363, 12, 56, 1652), (366, 12, 57, 1653), (409, 12, 61, 1657), (412, 12, 62, 1658), (415, 12, 63, 1659), (460, 12, 67, 1663), (463, 12, 68, 1664), (466, 12, 69, 1665), (469, 12, 70, 1666), (472, 12, 71, 1667), (479, 12, 72, 1668), (498, 12, 74, 1670), (504, 12, 75, 1671), (507, 12, 78, 1674), (519, 12, 84, 1680), (522, 12, 85, 1681), (580, 12, 88, 1684)]]
def lkF (o idx : Nat) : Option (Nat × Nat × Nat × Nat) := (lkL.getD o []).find? (fun e => e.1 == idx)
def kiL : List (Nat × Nat × Int × Nat) := [(11, 124, 65535, 610), (18, 227, 65536, 774), (19, 110, 55232, 813), (19, 76, 56320, 817), (13, 264, 65536, 1220), (5, 101, -1000000, 1316), (11, 365, -1000000, 1340), (12, 389, 65536, 2054), (12, 537, -1000000, 2242)]
def kiF (o idx : Nat) : Option (Nat × Nat × Int × Nat) := kiL.find? (fun e => e.1 == o && e.2.1 == idx)
def klL : List (Nat × Nat × Int × Nat) := [(11, 277, -1, 1067), (14, 314, 6148914691236517205, 1142), (14, 316, 3689348814741910323, 1143), (14, 318, 1085102592571150095, 1144), (4, 33, 1000, 1239), (2, 104, -1, 1254), (11, 387, -2, 1394), (11, 412, -1000000, 1507), (12, 181, 999, 1878), (12, 183, 100, 1882), (12, 188, 40, 1891), (12, 190, 65535, 1900), (12, 199, 63, 1917), (12, 204, 9, 1926), (12, 206, 8, 1927), (12, 318, 160, 1940), (12, 245, 48, 1980), (12, 247, 57, 1981), (12, 418, 3, 2110), (12, 426, -1, 2127), (12, 482, 5, 2179), (12, 492, 1000, 2194), (12, 554, -2, 2287), (12, 562, 2, 2303), (12, 570, -1000000, 2320), (12, 575, 2000, 2332), (22, 135, 4294967295, 2357)]
def klF (o idx : Nat) : Option (Nat × Nat × Int × Nat) := klL.find? (fun e => e.1 == o && e.2.1 == idx)
/-- the texts: class, pool index, text, place -/
def srL : List (Nat × Nat × String × Nat) := [(11, 182, "dcn", 702), (6, 131, "bciklmnpstwxyz", 856), (6, 122, "*/%", 857), (6, 117, "+-", 858), (6, 112, "<>=", 879), (6, 103, "&", 880), (6, 88, "|", 889), (11, 192, "p", 906), (11, 194, "h", 911), (11, 196, "g", 916)]
/-- the words that go from caller to callee, and those of nest mates -/
def GW : List Cond := lw_tbl.filter goodWord
def isNest : Cond → Bool
  | .methodLinkNest .. => true
  | _ => false
def NW : List Cond := lw_tbl.filter isNest
theorem mem_GW {w : Cond} (i : Nat) (h : lw_tbl[i]? = some w) (hg : goodWord w = true) : w ∈ GW := List.mem_filter.mpr ⟨List.mem_of_getElem? h, hg⟩
theorem mem_NW {w : Cond} (i : Nat) (h : lw_tbl[i]? = some w) (hg : isNest w = true) : w ∈ NW := List.mem_filter.mpr ⟨List.mem_of_getElem? h, hg⟩
theorem GW_good : GoodIn GW GW := fun w hw => ⟨hw, good_of_word (List.mem_filter.mp hw).2⟩
theorem GW_sub : ∀ w ∈ GW, w ∈ lw_tbl := fun w hw => (List.mem_filter.mp hw).1
theorem NW_sub : ∀ w ∈ NW, w ∈ lw_tbl := fun w hw => (List.mem_filter.mp hw).1
theorem NW_nest {w : Cond} (hw : w ∈ NW) : ∃ a i x h, w = .methodLinkNest a i x h := by
  have h := (List.mem_filter.mp hw).2
  cases w <;> first | exact ⟨_, _, _, _, rfl⟩ | cases h
theorem lk_all : (List.range 13).all (fun o => (lkL.getD o []).all (fun e => decide (lw_tbl[e.2.2.2]? = some (.fieldLink (clR o) e.1 (clR e.2.1) (clT e.2.1 e.2.2.1).2.1 (clT e.2.1 e.2.2.1).2.2.1)) && goodWord (.fieldLink (clR o) e.1 (clR e.2.1) (clT e.2.1 e.2.2.1).2.1 (clT e.2.1 e.2.2.1).2.2.1) && decide (e.2.2.1 < clN e.2.1) && decide (e.2.1 < 13))) = true := by decide +kernel
theorem ki_all : kiL.all (fun e => decide (lw_tbl[e.2.2.2]? = some (.constant (clR e.1) e.2.1 (Int32.ofInt e.2.2.1))) && goodWord (.constant (clR e.1) e.2.1 (Int32.ofInt e.2.2.1))) = true := by decide +kernel
theorem kl_all : klL.all (fun e => decide (lw_tbl[e.2.2.2]? = some (.constantLong (clR e.1) e.2.1 (Int64.ofInt e.2.2.1))) && goodWord (.constantLong (clR e.1) e.2.1 (Int64.ofInt e.2.2.1))) = true := by decide +kernel
theorem lw_len : lw_tbl.length = 2360 := by decide +kernel
theorem iWX0 : ∀ w ∈ u_ws RX0 TX0 12, w ∈ GW := by
  have h : u_ws RX0 TX0 12 = [476, 478, 480, 482, 484, 486, 488, 490, 492, 494, 496, 498].map (fun i => lw_tbl.getD i (.initialized "")) := by decide +kernel
  have g : (u_ws RX0 TX0 12).all goodWord = true := by decide +kernel
  have z : [476, 478, 480, 482, 484, 486, 488, 490, 492, 494, 496, 498].all (fun i => decide (i < 2360)) = true := by decide +kernel
  intro w hw
  have gw := List.all_eq_true.mp g w hw
  rw [h] at hw
  obtain ⟨i, hi, rfl⟩ := List.mem_map.mp hw
  have hl : i < lw_tbl.length := by
    have := List.all_eq_true.mp z i hi
    rw [lw_len]; simpa using this
  refine List.mem_filter.mpr ⟨?_, gw⟩
  rw [List.getD_eq_getElem?_getD, List.getElem?_eq_getElem hl]
  exact List.getElem_mem hl
theorem iWX1 : ∀ w ∈ u_ws RX1 TX1 8, w ∈ GW := by
  have h : u_ws RX1 TX1 8 = [320, 322, 324, 326, 328, 330, 332, 334].map (fun i => lw_tbl.getD i (.initialized "")) := by decide +kernel
  have g : (u_ws RX1 TX1 8).all goodWord = true := by decide +kernel
  have z : [320, 322, 324, 326, 328, 330, 332, 334].all (fun i => decide (i < 2360)) = true := by decide +kernel
  intro w hw
  have gw := List.all_eq_true.mp g w hw
  rw [h] at hw
  obtain ⟨i, hi, rfl⟩ := List.mem_map.mp hw
  have hl : i < lw_tbl.length := by
    have := List.all_eq_true.mp z i hi
    rw [lw_len]; simpa using this
  refine List.mem_filter.mpr ⟨?_, gw⟩
  rw [List.getD_eq_getElem?_getD, List.getElem?_eq_getElem hl]
  exact List.getElem_mem hl
theorem iWX2 : ∀ w ∈ u_ws RX2 TX2 10, w ∈ GW := by
  have h : u_ws RX2 TX2 10 = [376, 378, 380, 382, 384, 386, 388, 390, 392, 394].map (fun i => lw_tbl.getD i (.initialized "")) := by decide +kernel
  have g : (u_ws RX2 TX2 10).all goodWord = true := by decide +kernel
  have z : [376, 378, 380, 382, 384, 386, 388, 390, 392, 394].all (fun i => decide (i < 2360)) = true := by decide +kernel
  intro w hw
  have gw := List.all_eq_true.mp g w hw
  rw [h] at hw
  obtain ⟨i, hi, rfl⟩ := List.mem_map.mp hw
  have hl : i < lw_tbl.length := by
    have := List.all_eq_true.mp z i hi
    rw [lw_len]; simpa using this
  refine List.mem_filter.mpr ⟨?_, gw⟩
  rw [List.getD_eq_getElem?_getD, List.getElem?_eq_getElem hl]
  exact List.getElem_mem hl
theorem iWX3 : ∀ w ∈ u_ws RX3 TX3 5, w ∈ GW := by
  have h : u_ws RX3 TX3 5 = [512, 514, 516, 518, 520].map (fun i => lw_tbl.getD i (.initialized "")) := by decide +kernel
  have g : (u_ws RX3 TX3 5).all goodWord = true := by decide +kernel
  have z : [512, 514, 516, 518, 520].all (fun i => decide (i < 2360)) = true := by decide +kernel
  intro w hw
  have gw := List.all_eq_true.mp g w hw
  rw [h] at hw
  obtain ⟨i, hi, rfl⟩ := List.mem_map.mp hw
  have hl : i < lw_tbl.length := by
    have := List.all_eq_true.mp z i hi
    rw [lw_len]; simpa using this
  refine List.mem_filter.mpr ⟨?_, gw⟩
  rw [List.getD_eq_getElem?_getD, List.getElem?_eq_getElem hl]
  exact List.getElem_mem hl
theorem iWX4 : ∀ w ∈ u_ws RX4 TX4 2, w ∈ GW := by
  have h : u_ws RX4 TX4 2 = [301, 303].map (fun i => lw_tbl.getD i (.initialized "")) := by decide +kernel
  have g : (u_ws RX4 TX4 2).all goodWord = true := by decide +kernel
  have z : [301, 303].all (fun i => decide (i < 2360)) = true := by decide +kernel
  intro w hw
  have gw := List.all_eq_true.mp g w hw
  rw [h] at hw
  obtain ⟨i, hi, rfl⟩ := List.mem_map.mp hw
  have hl : i < lw_tbl.length := by
    have := List.all_eq_true.mp z i hi
    rw [lw_len]; simpa using this
  refine List.mem_filter.mpr ⟨?_, gw⟩
  rw [List.getD_eq_getElem?_getD, List.getElem?_eq_getElem hl]
  exact List.getElem_mem hl
theorem iWX5 : ∀ w ∈ u_ws RX5 TX5 18, w ∈ GW := by
  have h : u_ws RX5 TX5 18 = [421, 423, 425, 427, 429, 431, 433, 435, 437, 439, 441, 443, 445, 447, 449, 451, 453, 455].map (fun i => lw_tbl.getD i (.initialized "")) := by decide +kernel
  have g : (u_ws RX5 TX5 18).all goodWord = true := by decide +kernel
  have z : [421, 423, 425, 427, 429, 431, 433, 435, 437, 439, 441, 443, 445, 447, 449, 451, 453, 455].all (fun i => decide (i < 2360)) = true := by decide +kernel
  intro w hw
  have gw := List.all_eq_true.mp g w hw
  rw [h] at hw
  obtain ⟨i, hi, rfl⟩ := List.mem_map.mp hw
  have hl : i < lw_tbl.length := by
    have := List.all_eq_true.mp z i hi
    rw [lw_len]; simpa using this
  refine List.mem_filter.mpr ⟨?_, gw⟩
  rw [List.getD_eq_getElem?_getD, List.getElem?_eq_getElem hl]
  exact List.getElem_mem hl
theorem iWX6 : ∀ w ∈ u_ws RX6 TX6 5, w ∈ GW := by
  have h : u_ws RX6 TX6 5 = [279, 281, 283, 285, 287].map (fun i => lw_tbl.getD i (.initialized "")) := by decide +kernel
  have g : (u_ws RX6 TX6 5).all goodWord = true := by decide +kernel
  have z : [279, 281, 283, 285, 287].all (fun i => decide (i < 2360)) = true := by decide +kernel
  intro w hw
  have gw := List.all_eq_true.mp g w hw
  rw [h] at hw
  obtain ⟨i, hi, rfl⟩ := List.mem_map.mp hw
  have hl : i < lw_tbl.length := by
    have := List.all_eq_true.mp z i hi
    rw [lw_len]; simpa using this
  refine List.mem_filter.mpr ⟨?_, gw⟩
  rw [List.getD_eq_getElem?_getD, List.getElem?_eq_getElem hl]
  exact List.getElem_mem hl
theorem iWX7 : ∀ w ∈ u_ws RX7 TX7 18, w ∈ GW := by
  have h : u_ws RX7 TX7 18 = [191, 193, 195, 197, 199, 201, 203, 205, 207, 209, 211, 213, 215, 217, 219, 221, 223, 225].map (fun i => lw_tbl.getD i (.initialized "")) := by decide +kernel
  have g : (u_ws RX7 TX7 18).all goodWord = true := by decide +kernel
  have z : [191, 193, 195, 197, 199, 201, 203, 205, 207, 209, 211, 213, 215, 217, 219, 221, 223, 225].all (fun i => decide (i < 2360)) = true := by decide +kernel
  intro w hw
  have gw := List.all_eq_true.mp g w hw
  rw [h] at hw
  obtain ⟨i, hi, rfl⟩ := List.mem_map.mp hw
  have hl : i < lw_tbl.length := by
    have := List.all_eq_true.mp z i hi
    rw [lw_len]; simpa using this
  refine List.mem_filter.mpr ⟨?_, gw⟩
  rw [List.getD_eq_getElem?_getD, List.getElem?_eq_getElem hl]
  exact List.getElem_mem hl
theorem iWX8 : ∀ w ∈ u_ws RX8 TX8 5, w ∈ GW := by
  have h : u_ws RX8 TX8 5 = [355, 357, 359, 361, 363].map (fun i => lw_tbl.getD i (.initialized "")) := by decide +kernel
  have g : (u_ws RX8 TX8 5).all goodWord = true := by decide +kernel
  have z : [355, 357, 359, 361, 363].all (fun i => decide (i < 2360)) = true := by decide +kernel
  intro w hw
  have gw := List.all_eq_true.mp g w hw
  rw [h] at hw
  obtain ⟨i, hi, rfl⟩ := List.mem_map.mp hw
  have hl : i < lw_tbl.length := by
    have := List.all_eq_true.mp z i hi
    rw [lw_len]; simpa using this
  refine List.mem_filter.mpr ⟨?_, gw⟩
  rw [List.getD_eq_getElem?_getD, List.getElem?_eq_getElem hl]
  exact List.getElem_mem hl
theorem iWX9 : ∀ w ∈ u_ws RX9 TX9 2, w ∈ GW := by
  have h : u_ws RX9 TX9 2 = [161, 163].map (fun i => lw_tbl.getD i (.initialized "")) := by decide +kernel
  have g : (u_ws RX9 TX9 2).all goodWord = true := by decide +kernel
  have z : [161, 163].all (fun i => decide (i < 2360)) = true := by decide +kernel
  intro w hw
  have gw := List.all_eq_true.mp g w hw
  rw [h] at hw
  obtain ⟨i, hi, rfl⟩ := List.mem_map.mp hw
  have hl : i < lw_tbl.length := by
    have := List.all_eq_true.mp z i hi
    rw [lw_len]; simpa using this
  refine List.mem_filter.mpr ⟨?_, gw⟩
  rw [List.getD_eq_getElem?_getD, List.getElem?_eq_getElem hl]
  exact List.getElem_mem hl
theorem iWX10 : ∀ w ∈ u_ws RX10 TX10 11, w ∈ GW := by
  have h : u_ws RX10 TX10 11 = [251, 253, 255, 257, 259, 261, 263, 265, 267, 269, 271].map (fun i => lw_tbl.getD i (.initialized "")) := by decide +kernel
  have g : (u_ws RX10 TX10 11).all goodWord = true := by decide +kernel
  have z : [251, 253, 255, 257, 259, 261, 263, 265, 267, 269, 271].all (fun i => decide (i < 2360)) = true := by decide +kernel
  intro w hw
  have gw := List.all_eq_true.mp g w hw
  rw [h] at hw
  obtain ⟨i, hi, rfl⟩ := List.mem_map.mp hw
  have hl : i < lw_tbl.length := by
    have := List.all_eq_true.mp z i hi
    rw [lw_len]; simpa using this
  refine List.mem_filter.mpr ⟨?_, gw⟩
  rw [List.getD_eq_getElem?_getD, List.getElem?_eq_getElem hl]
  exact List.getElem_mem hl
theorem iWX11 : ∀ w ∈ u_ws RX11 TX11 16, w ∈ GW := by
  have h : u_ws RX11 TX11 16 = [539, 541, 543, 545, 547, 549, 551, 553, 555, 557, 559, 561, 563, 565, 567, 569].map (fun i => lw_tbl.getD i (.initialized "")) := by decide +kernel
  have g : (u_ws RX11 TX11 16).all goodWord = true := by decide +kernel
  have z : [539, 541, 543, 545, 547, 549, 551, 553, 555, 557, 559, 561, 563, 565, 567, 569].all (fun i => decide (i < 2360)) = true := by decide +kernel
  intro w hw
  have gw := List.all_eq_true.mp g w hw
  rw [h] at hw
  obtain ⟨i, hi, rfl⟩ := List.mem_map.mp hw
  have hl : i < lw_tbl.length := by
    have := List.all_eq_true.mp z i hi
    rw [lw_len]; simpa using this
  refine List.mem_filter.mpr ⟨?_, gw⟩
  rw [List.getD_eq_getElem?_getD, List.getElem?_eq_getElem hl]
  exact List.getElem_mem hl
theorem iWX12 : ∀ w ∈ u_ws RX12 TX12 92, w ∈ GW := by
  have h : u_ws RX12 TX12 92 = [1688, 1690, 1692, 1694, 1696, 1698, 1700, 1702, 1704, 1706, 1708, 1710, 1712, 1714, 1716, 1718, 1720, 1722, 1724, 1726, 1728, 1730, 1732, 1734, 1736, 1738, 1740, 1742, 1744, 1746, 1748, 1750, 1752, 1754, 1756, 1758, 1760, 1762, 1764, 1766, 1768, 1770, 1772, 1774, 1776, 1778, 1780, 1782, 1784, 1786, 1788, 1790, 1792, 1794, 1796, 1798, 1800, 1802, 1804, 1806, 1808, 1810, 1812, 1814, 1816, 1818, 1820, 1822, 1824, 1826, 1828, 1830, 1832, 1834, 1836, 1838, 1840, 1842, 1844, 1846, 1848, 1850, 1852, 1854, 1856, 1858, 1860, 1862, 1864, 1866, 1868, 1870].map (fun i => lw_tbl.getD i (.initialized "")) := by decide +kernel
  have g : (u_ws RX12 TX12 92).all goodWord = true := by decide +kernel
  have z : [1688, 1690, 1692, 1694, 1696, 1698, 1700, 1702, 1704, 1706, 1708, 1710, 1712, 1714, 1716, 1718, 1720, 1722, 1724, 1726, 1728, 1730, 1732, 1734, 1736, 1738, 1740, 1742, 1744, 1746, 1748, 1750, 1752, 1754, 1756, 1758, 1760, 1762, 1764, 1766, 1768, 1770, 1772, 1774, 1776, 1778, 1780, 1782, 1784, 1786, 1788, 1790, 1792, 1794, 1796, 1798, 1800, 1802, 1804, 1806, 1808, 1810, 1812, 1814, 1816, 1818, 1820, 1822, 1824, 1826, 1828, 1830, 1832, 1834, 1836, 1838, 1840, 1842, 1844, 1846, 1848, 1850, 1852, 1854, 1856, 1858, 1860, 1862, 1864, 1866, 1868, 1870].all (fun i => decide (i < 2360)) = true := by decide +kernel
  intro w hw
  have gw := List.all_eq_true.mp g w hw
  rw [h] at hw
  obtain ⟨i, hi, rfl⟩ := List.mem_map.mp hw
  have hl : i < lw_tbl.length := by
    have := List.all_eq_true.mp z i hi
    rw [lw_len]; simpa using this
  refine List.mem_filter.mpr ⟨?_, gw⟩
  rw [List.getD_eq_getElem?_getD, List.getElem?_eq_getElem hl]
  exact List.getElem_mem hl
