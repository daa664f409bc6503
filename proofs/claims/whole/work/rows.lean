section
-- ===== PART A: goes FIRST, ahead of the names: the tables' words, and 'selects' of the private methods out of them =====
/-- a private method of a class that the tables say can be made, by its rows of tables_1 -/
def lw_okq (q : MethodName × Nat) : Prop := (q.1.cls ≠ "java/lang/invoke/MethodHandle" ∧ q.1.cls ≠ "java/lang/invoke/VarHandle") ∧ Cond.instantiable q.1.cls q.2 ∈ tables_1 ∧ Cond.privateMethod q.1 ∈ tables_1 ∧ Cond.instanceMethod q.1 ∈ tables_1
theorem lw_p0 : lw_okq (⟨"SandwichesSpeak$Reader", "readToken", "()V"⟩, 9) := ⟨⟨by decide +kernel, by decide +kernel⟩, List.mem_of_getElem? (i := 28) (by decide +kernel), List.mem_of_getElem? (i := 212) (by decide +kernel), List.mem_of_getElem? (i := 213) (by decide +kernel)⟩
theorem lw_p1 : lw_okq (⟨"SandwichesSpeak$Reader", "readWord", "()V"⟩, 9) := ⟨⟨by decide +kernel, by decide +kernel⟩, List.mem_of_getElem? (i := 28) (by decide +kernel), List.mem_of_getElem? (i := 219) (by decide +kernel), List.mem_of_getElem? (i := 220) (by decide +kernel)⟩
theorem lw_p2 : lw_okq (⟨"SandwichesSpeak$Reader", "wordNumber", "()I"⟩, 9) := ⟨⟨by decide +kernel, by decide +kernel⟩, List.mem_of_getElem? (i := 28) (by decide +kernel), List.mem_of_getElem? (i := 223) (by decide +kernel), List.mem_of_getElem? (i := 224) (by decide +kernel)⟩
theorem lw_p3 : lw_okq (⟨"SandwichesSpeak$Reader", "readNumeral", "()V"⟩, 9) := ⟨⟨by decide +kernel, by decide +kernel⟩, List.mem_of_getElem? (i := 28) (by decide +kernel), List.mem_of_getElem? (i := 230) (by decide +kernel), List.mem_of_getElem? (i := 231) (by decide +kernel)⟩
theorem lw_p4 : lw_okq (⟨"SandwichesSpeak$Reader", "pass", "(I)V"⟩, 9) := ⟨⟨by decide +kernel, by decide +kernel⟩, List.mem_of_getElem? (i := 28) (by decide +kernel), List.mem_of_getElem? (i := 298) (by decide +kernel), List.mem_of_getElem? (i := 299) (by decide +kernel)⟩
theorem lw_p5 : lw_okq (⟨"SandwichesSpeak$Reader", "fail", "()V"⟩, 9) := ⟨⟨by decide +kernel, by decide +kernel⟩, List.mem_of_getElem? (i := 28) (by decide +kernel), List.mem_of_getElem? (i := 302) (by decide +kernel), List.mem_of_getElem? (i := 303) (by decide +kernel)⟩
theorem lw_p6 : lw_okq (⟨"SandwichesSpeak$Reader", "readOr", "()V"⟩, 9) := ⟨⟨by decide +kernel, by decide +kernel⟩, List.mem_of_getElem? (i := 28) (by decide +kernel), List.mem_of_getElem? (i := 306) (by decide +kernel), List.mem_of_getElem? (i := 307) (by decide +kernel)⟩
theorem lw_p7 : lw_okq (⟨"SandwichesSpeak$Reader", "readAnd", "()V"⟩, 9) := ⟨⟨by decide +kernel, by decide +kernel⟩, List.mem_of_getElem? (i := 28) (by decide +kernel), List.mem_of_getElem? (i := 310) (by decide +kernel), List.mem_of_getElem? (i := 311) (by decide +kernel)⟩
theorem lw_p8 : lw_okq (⟨"SandwichesSpeak$Reader", "readNot", "()V"⟩, 9) := ⟨⟨by decide +kernel, by decide +kernel⟩, List.mem_of_getElem? (i := 28) (by decide +kernel), List.mem_of_getElem? (i := 314) (by decide +kernel), List.mem_of_getElem? (i := 315) (by decide +kernel)⟩
theorem lw_p9 : lw_okq (⟨"SandwichesSpeak$Reader", "readCompared", "()V"⟩, 9) := ⟨⟨by decide +kernel, by decide +kernel⟩, List.mem_of_getElem? (i := 28) (by decide +kernel), List.mem_of_getElem? (i := 318) (by decide +kernel), List.mem_of_getElem? (i := 319) (by decide +kernel)⟩
theorem lw_p10 : lw_okq (⟨"SandwichesSpeak$Reader", "readSum", "()V"⟩, 9) := ⟨⟨by decide +kernel, by decide +kernel⟩, List.mem_of_getElem? (i := 28) (by decide +kernel), List.mem_of_getElem? (i := 322) (by decide +kernel), List.mem_of_getElem? (i := 323) (by decide +kernel)⟩
theorem lw_p11 : lw_okq (⟨"SandwichesSpeak$Reader", "readTerm", "()V"⟩, 9) := ⟨⟨by decide +kernel, by decide +kernel⟩, List.mem_of_getElem? (i := 28) (by decide +kernel), List.mem_of_getElem? (i := 326) (by decide +kernel), List.mem_of_getElem? (i := 327) (by decide +kernel)⟩
theorem lw_p12 : lw_okq (⟨"SandwichesSpeak$Reader", "readOne", "()V"⟩, 9) := ⟨⟨by decide +kernel, by decide +kernel⟩, List.mem_of_getElem? (i := 28) (by decide +kernel), List.mem_of_getElem? (i := 330) (by decide +kernel), List.mem_of_getElem? (i := 331) (by decide +kernel)⟩
theorem lw_p13 : lw_okq (⟨"SandwichesSpeak$Reader", "opens", "()Z"⟩, 9) := ⟨⟨by decide +kernel, by decide +kernel⟩, List.mem_of_getElem? (i := 28) (by decide +kernel), List.mem_of_getElem? (i := 338) (by decide +kernel), List.mem_of_getElem? (i := 339) (by decide +kernel)⟩
theorem lw_p14 : lw_okq (⟨"SandwichesSpeak", "isThere", "(II)Z"⟩, 9) := ⟨⟨by decide +kernel, by decide +kernel⟩, List.mem_of_getElem? (i := 16) (by decide +kernel), List.mem_of_getElem? (i := 376) (by decide +kernel), List.mem_of_getElem? (i := 377) (by decide +kernel)⟩
theorem lw_p15 : lw_okq (⟨"SandwichesSpeak", "isPerson", "(I)Z"⟩, 9) := ⟨⟨by decide +kernel, by decide +kernel⟩, List.mem_of_getElem? (i := 16) (by decide +kernel), List.mem_of_getElem? (i := 380) (by decide +kernel), List.mem_of_getElem? (i := 381) (by decide +kernel)⟩
def lw_privs_1 : List (MethodName × Nat) := [(⟨"SandwichesSpeak$Reader", "readToken", "()V"⟩, 9), (⟨"SandwichesSpeak$Reader", "readWord", "()V"⟩, 9), (⟨"SandwichesSpeak$Reader", "wordNumber", "()I"⟩, 9), (⟨"SandwichesSpeak$Reader", "readNumeral", "()V"⟩, 9), (⟨"SandwichesSpeak$Reader", "pass", "(I)V"⟩, 9), (⟨"SandwichesSpeak$Reader", "fail", "()V"⟩, 9), (⟨"SandwichesSpeak$Reader", "readOr", "()V"⟩, 9), (⟨"SandwichesSpeak$Reader", "readAnd", "()V"⟩, 9), (⟨"SandwichesSpeak$Reader", "readNot", "()V"⟩, 9), (⟨"SandwichesSpeak$Reader", "readCompared", "()V"⟩, 9), (⟨"SandwichesSpeak$Reader", "readSum", "()V"⟩, 9), (⟨"SandwichesSpeak$Reader", "readTerm", "()V"⟩, 9), (⟨"SandwichesSpeak$Reader", "readOne", "()V"⟩, 9), (⟨"SandwichesSpeak$Reader", "opens", "()Z"⟩, 9), (⟨"SandwichesSpeak", "isThere", "(II)Z"⟩, 9), (⟨"SandwichesSpeak", "isPerson", "(I)Z"⟩, 9)]
theorem lw_r1 : ∀ q ∈ lw_privs_1, lw_okq q := List.forall_mem_cons.mpr ⟨lw_p0, List.forall_mem_cons.mpr ⟨lw_p1, List.forall_mem_cons.mpr ⟨lw_p2, List.forall_mem_cons.mpr ⟨lw_p3, List.forall_mem_cons.mpr ⟨lw_p4, List.forall_mem_cons.mpr ⟨lw_p5, List.forall_mem_cons.mpr ⟨lw_p6, List.forall_mem_cons.mpr ⟨lw_p7, List.forall_mem_cons.mpr ⟨lw_p8, List.forall_mem_cons.mpr ⟨lw_p9, List.forall_mem_cons.mpr ⟨lw_p10, List.forall_mem_cons.mpr ⟨lw_p11, List.forall_mem_cons.mpr ⟨lw_p12, List.forall_mem_cons.mpr ⟨lw_p13, List.forall_mem_cons.mpr ⟨lw_p14, List.forall_mem_cons.mpr ⟨lw_p15, fun _ h => absurd h List.not_mem_nil⟩⟩⟩⟩⟩⟩⟩⟩⟩⟩⟩⟩⟩⟩⟩⟩
theorem lw_p16 : lw_okq (⟨"SandwichesSpeak", "plainly", "(II)I"⟩, 9) := ⟨⟨by decide +kernel, by decide +kernel⟩, List.mem_of_getElem? (i := 16) (by decide +kernel), List.mem_of_getElem? (i := 387) (by decide +kernel), List.mem_of_getElem? (i := 388) (by decide +kernel)⟩
theorem lw_p17 : lw_okq (⟨"SandwichesSpeak$Family", "nameAll", "(IIIII)V"⟩, 12) := ⟨⟨by decide +kernel, by decide +kernel⟩, List.mem_of_getElem? (i := 99) (by decide +kernel), List.mem_of_getElem? (i := 415) (by decide +kernel), List.mem_of_getElem? (i := 416) (by decide +kernel)⟩
theorem lw_p18 : lw_okq (⟨"SandwichesSpeak$Family", "inlawSends", "(IZ)Z"⟩, 12) := ⟨⟨by decide +kernel, by decide +kernel⟩, List.mem_of_getElem? (i := 99) (by decide +kernel), List.mem_of_getElem? (i := 423) (by decide +kernel), List.mem_of_getElem? (i := 424) (by decide +kernel)⟩
theorem lw_p19 : lw_okq (⟨"SandwichesSpeak$Family", "cutsFor", "(III)Z"⟩, 12) := ⟨⟨by decide +kernel, by decide +kernel⟩, List.mem_of_getElem? (i := 99) (by decide +kernel), List.mem_of_getElem? (i := 427) (by decide +kernel), List.mem_of_getElem? (i := 428) (by decide +kernel)⟩
theorem lw_p20 : lw_okq (⟨"SandwichesSpeak$Family", "motherCuts", "(IIZ)Z"⟩, 12) := ⟨⟨by decide +kernel, by decide +kernel⟩, List.mem_of_getElem? (i := 99) (by decide +kernel), List.mem_of_getElem? (i := 431) (by decide +kernel), List.mem_of_getElem? (i := 432) (by decide +kernel)⟩
theorem lw_p21 : lw_okq (⟨"SandwichesSpeak", "areTwo", "(II)Z"⟩, 9) := ⟨⟨by decide +kernel, by decide +kernel⟩, List.mem_of_getElem? (i := 16) (by decide +kernel), List.mem_of_getElem? (i := 486) (by decide +kernel), List.mem_of_getElem? (i := 487) (by decide +kernel)⟩
theorem lw_p22 : lw_okq (⟨"SandwichesSpeak", "firstDead", "()I"⟩, 9) := ⟨⟨by decide +kernel, by decide +kernel⟩, List.mem_of_getElem? (i := 16) (by decide +kernel), List.mem_of_getElem? (i := 526) (by decide +kernel), List.mem_of_getElem? (i := 527) (by decide +kernel)⟩
theorem lw_p23 : lw_okq (⟨"SandwichesSpeak", "firstAgain", "(I)I"⟩, 9) := ⟨⟨by decide +kernel, by decide +kernel⟩, List.mem_of_getElem? (i := 16) (by decide +kernel), List.mem_of_getElem? (i := 530) (by decide +kernel), List.mem_of_getElem? (i := 531) (by decide +kernel)⟩
theorem lw_p24 : lw_okq (⟨"SandwichesSpeak", "gladAsItIs", "(I)I"⟩, 9) := ⟨⟨by decide +kernel, by decide +kernel⟩, List.mem_of_getElem? (i := 16) (by decide +kernel), List.mem_of_getElem? (i := 560) (by decide +kernel), List.mem_of_getElem? (i := 561) (by decide +kernel)⟩
theorem lw_p25 : lw_okq (⟨"SandwichesSpeak", "moodsSo", "(LSandwichesSpeak$Sheet;IZ)I"⟩, 9) := ⟨⟨by decide +kernel, by decide +kernel⟩, List.mem_of_getElem? (i := 16) (by decide +kernel), List.mem_of_getElem? (i := 588) (by decide +kernel), List.mem_of_getElem? (i := 589) (by decide +kernel)⟩
theorem lw_p26 : lw_okq (⟨"SandwichesSpeak", "bitsSo", "(LSandwichesSpeak$Sheet;II)I"⟩, 9) := ⟨⟨by decide +kernel, by decide +kernel⟩, List.mem_of_getElem? (i := 16) (by decide +kernel), List.mem_of_getElem? (i := 592) (by decide +kernel), List.mem_of_getElem? (i := 593) (by decide +kernel)⟩
theorem lw_p27 : lw_okq (⟨"SandwichesSpeakModel", "codes", "(I)V"⟩, 41) := ⟨⟨by decide +kernel, by decide +kernel⟩, List.mem_of_getElem? (i := 671) (by decide +kernel), List.mem_of_getElem? (i := 677) (by decide +kernel), List.mem_of_getElem? (i := 678) (by decide +kernel)⟩
theorem lw_p28 : lw_okq (⟨"SandwichesSpeakModel", "isOf", "(II)Z"⟩, 41) := ⟨⟨by decide +kernel, by decide +kernel⟩, List.mem_of_getElem? (i := 671) (by decide +kernel), List.mem_of_getElem? (i := 810) (by decide +kernel), List.mem_of_getElem? (i := 811) (by decide +kernel)⟩
theorem lw_p29 : lw_okq (⟨"SandwichesSpeakModel", "isOne", "(I)Z"⟩, 41) := ⟨⟨by decide +kernel, by decide +kernel⟩, List.mem_of_getElem? (i := 671) (by decide +kernel), List.mem_of_getElem? (i := 820) (by decide +kernel), List.mem_of_getElem? (i := 821) (by decide +kernel)⟩
theorem lw_p30 : lw_okq (⟨"SandwichesSpeakModel", "get", "(II)I"⟩, 41) := ⟨⟨by decide +kernel, by decide +kernel⟩, List.mem_of_getElem? (i := 671) (by decide +kernel), List.mem_of_getElem? (i := 827) (by decide +kernel), List.mem_of_getElem? (i := 828) (by decide +kernel)⟩
theorem lw_p31 : lw_okq (⟨"SandwichesSpeakModel", "sent", "(I)I"⟩, 41) := ⟨⟨by decide +kernel, by decide +kernel⟩, List.mem_of_getElem? (i := 671) (by decide +kernel), List.mem_of_getElem? (i := 839) (by decide +kernel), List.mem_of_getElem? (i := 840) (by decide +kernel)⟩
def lw_privs_2 : List (MethodName × Nat) := [(⟨"SandwichesSpeak", "plainly", "(II)I"⟩, 9), (⟨"SandwichesSpeak$Family", "nameAll", "(IIIII)V"⟩, 12), (⟨"SandwichesSpeak$Family", "inlawSends", "(IZ)Z"⟩, 12), (⟨"SandwichesSpeak$Family", "cutsFor", "(III)Z"⟩, 12), (⟨"SandwichesSpeak$Family", "motherCuts", "(IIZ)Z"⟩, 12), (⟨"SandwichesSpeak", "areTwo", "(II)Z"⟩, 9), (⟨"SandwichesSpeak", "firstDead", "()I"⟩, 9), (⟨"SandwichesSpeak", "firstAgain", "(I)I"⟩, 9), (⟨"SandwichesSpeak", "gladAsItIs", "(I)I"⟩, 9), (⟨"SandwichesSpeak", "moodsSo", "(LSandwichesSpeak$Sheet;IZ)I"⟩, 9), (⟨"SandwichesSpeak", "bitsSo", "(LSandwichesSpeak$Sheet;II)I"⟩, 9), (⟨"SandwichesSpeakModel", "codes", "(I)V"⟩, 41), (⟨"SandwichesSpeakModel", "isOf", "(II)Z"⟩, 41), (⟨"SandwichesSpeakModel", "isOne", "(I)Z"⟩, 41), (⟨"SandwichesSpeakModel", "get", "(II)I"⟩, 41), (⟨"SandwichesSpeakModel", "sent", "(I)I"⟩, 41)]
theorem lw_r2 : ∀ q ∈ lw_privs_2, lw_okq q := List.forall_mem_cons.mpr ⟨lw_p16, List.forall_mem_cons.mpr ⟨lw_p17, List.forall_mem_cons.mpr ⟨lw_p18, List.forall_mem_cons.mpr ⟨lw_p19, List.forall_mem_cons.mpr ⟨lw_p20, List.forall_mem_cons.mpr ⟨lw_p21, List.forall_mem_cons.mpr ⟨lw_p22, List.forall_mem_cons.mpr ⟨lw_p23, List.forall_mem_cons.mpr ⟨lw_p24, List.forall_mem_cons.mpr ⟨lw_p25, List.forall_mem_cons.mpr ⟨lw_p26, List.forall_mem_cons.mpr ⟨lw_p27, List.forall_mem_cons.mpr ⟨lw_p28, List.forall_mem_cons.mpr ⟨lw_p29, List.forall_mem_cons.mpr ⟨lw_p30, List.forall_mem_cons.mpr ⟨lw_p31, fun _ h => absurd h List.not_mem_nil⟩⟩⟩⟩⟩⟩⟩⟩⟩⟩⟩⟩⟩⟩⟩⟩
theorem lw_p32 : lw_okq (⟨"SandwichesSpeakModel", "made", "(II)I"⟩, 41) := ⟨⟨by decide +kernel, by decide +kernel⟩, List.mem_of_getElem? (i := 671) (by decide +kernel), List.mem_of_getElem? (i := 843) (by decide +kernel), List.mem_of_getElem? (i := 844) (by decide +kernel)⟩
theorem lw_p33 : lw_okq (⟨"SandwichesSpeakModel", "sends", "(II)Z"⟩, 41) := ⟨⟨by decide +kernel, by decide +kernel⟩, List.mem_of_getElem? (i := 671) (by decide +kernel), List.mem_of_getElem? (i := 847) (by decide +kernel), List.mem_of_getElem? (i := 848) (by decide +kernel)⟩
theorem lw_p34 : lw_okq (⟨"SandwichesSpeakModel", "tellsOf", "(IIIII)V"⟩, 41) := ⟨⟨by decide +kernel, by decide +kernel⟩, List.mem_of_getElem? (i := 671) (by decide +kernel), List.mem_of_getElem? (i := 851) (by decide +kernel), List.mem_of_getElem? (i := 852) (by decide +kernel)⟩
theorem lw_p35 : lw_okq (⟨"SandwichesSpeakModel", "ruled", "(I)I"⟩, 41) := ⟨⟨by decide +kernel, by decide +kernel⟩, List.mem_of_getElem? (i := 671) (by decide +kernel), List.mem_of_getElem? (i := 855) (by decide +kernel), List.mem_of_getElem? (i := 856) (by decide +kernel)⟩
theorem lw_p36 : lw_okq (⟨"SandwichesSpeakModel", "cuts", "(III)Z"⟩, 41) := ⟨⟨by decide +kernel, by decide +kernel⟩, List.mem_of_getElem? (i := 671) (by decide +kernel), List.mem_of_getElem? (i := 862) (by decide +kernel), List.mem_of_getElem? (i := 863) (by decide +kernel)⟩
theorem lw_p37 : lw_okq (⟨"SandwichesSpeakModel", "gotten", "(I)I"⟩, 41) := ⟨⟨by decide +kernel, by decide +kernel⟩, List.mem_of_getElem? (i := 671) (by decide +kernel), List.mem_of_getElem? (i := 866) (by decide +kernel), List.mem_of_getElem? (i := 867) (by decide +kernel)⟩
theorem lw_p38 : lw_okq (⟨"SandwichesSpeakModel", "felt", "(I)I"⟩, 41) := ⟨⟨by decide +kernel, by decide +kernel⟩, List.mem_of_getElem? (i := 671) (by decide +kernel), List.mem_of_getElem? (i := 873) (by decide +kernel), List.mem_of_getElem? (i := 874) (by decide +kernel)⟩
theorem lw_p39 : lw_okq (⟨"SandwichesSpeakModel", "feltBy", "(III)I"⟩, 41) := ⟨⟨by decide +kernel, by decide +kernel⟩, List.mem_of_getElem? (i := 671) (by decide +kernel), List.mem_of_getElem? (i := 877) (by decide +kernel), List.mem_of_getElem? (i := 878) (by decide +kernel)⟩
theorem lw_p40 : lw_okq (⟨"SandwichesSpeakModel", "feels", "(III)I"⟩, 41) := ⟨⟨by decide +kernel, by decide +kernel⟩, List.mem_of_getElem? (i := 671) (by decide +kernel), List.mem_of_getElem? (i := 881) (by decide +kernel), List.mem_of_getElem? (i := 882) (by decide +kernel)⟩
theorem lw_p41 : lw_okq (⟨"SandwichesSpeakModel", "next", "()V"⟩, 41) := ⟨⟨by decide +kernel, by decide +kernel⟩, List.mem_of_getElem? (i := 671) (by decide +kernel), List.mem_of_getElem? (i := 896) (by decide +kernel), List.mem_of_getElem? (i := 897) (by decide +kernel)⟩
theorem lw_p42 : lw_okq (⟨"SandwichesSpeakModel", "named", "()I"⟩, 41) := ⟨⟨by decide +kernel, by decide +kernel⟩, List.mem_of_getElem? (i := 671) (by decide +kernel), List.mem_of_getElem? (i := 903) (by decide +kernel), List.mem_of_getElem? (i := 904) (by decide +kernel)⟩
theorem lw_p43 : lw_okq (⟨"SandwichesSpeakModel", "isKey", "()Z"⟩, 41) := ⟨⟨by decide +kernel, by decide +kernel⟩, List.mem_of_getElem? (i := 671) (by decide +kernel), List.mem_of_getElem? (i := 907) (by decide +kernel), List.mem_of_getElem? (i := 908) (by decide +kernel)⟩
theorem lw_p44 : lw_okq (⟨"SandwichesSpeakModel", "part", "(II)Z"⟩, 41) := ⟨⟨by decide +kernel, by decide +kernel⟩, List.mem_of_getElem? (i := 671) (by decide +kernel), List.mem_of_getElem? (i := 918) (by decide +kernel), List.mem_of_getElem? (i := 919) (by decide +kernel)⟩
theorem lw_p45 : lw_okq (⟨"SandwichesSpeakModel", "takes", "(I)Z"⟩, 41) := ⟨⟨by decide +kernel, by decide +kernel⟩, List.mem_of_getElem? (i := 671) (by decide +kernel), List.mem_of_getElem? (i := 922) (by decide +kernel), List.mem_of_getElem? (i := 923) (by decide +kernel)⟩
theorem lw_p46 : lw_okq (⟨"SandwichesSpeakModel", "goesOn", "()Z"⟩, 41) := ⟨⟨by decide +kernel, by decide +kernel⟩, List.mem_of_getElem? (i := 671) (by decide +kernel), List.mem_of_getElem? (i := 926) (by decide +kernel), List.mem_of_getElem? (i := 927) (by decide +kernel)⟩
theorem lw_p47 : lw_okq (⟨"SandwichesSpeakModel", "one", "(Z)Z"⟩, 41) := ⟨⟨by decide +kernel, by decide +kernel⟩, List.mem_of_getElem? (i := 671) (by decide +kernel), List.mem_of_getElem? (i := 930) (by decide +kernel), List.mem_of_getElem? (i := 931) (by decide +kernel)⟩
def lw_privs_3 : List (MethodName × Nat) := [(⟨"SandwichesSpeakModel", "made", "(II)I"⟩, 41), (⟨"SandwichesSpeakModel", "sends", "(II)Z"⟩, 41), (⟨"SandwichesSpeakModel", "tellsOf", "(IIIII)V"⟩, 41), (⟨"SandwichesSpeakModel", "ruled", "(I)I"⟩, 41), (⟨"SandwichesSpeakModel", "cuts", "(III)Z"⟩, 41), (⟨"SandwichesSpeakModel", "gotten", "(I)I"⟩, 41), (⟨"SandwichesSpeakModel", "felt", "(I)I"⟩, 41), (⟨"SandwichesSpeakModel", "feltBy", "(III)I"⟩, 41), (⟨"SandwichesSpeakModel", "feels", "(III)I"⟩, 41), (⟨"SandwichesSpeakModel", "next", "()V"⟩, 41), (⟨"SandwichesSpeakModel", "named", "()I"⟩, 41), (⟨"SandwichesSpeakModel", "isKey", "()Z"⟩, 41), (⟨"SandwichesSpeakModel", "part", "(II)Z"⟩, 41), (⟨"SandwichesSpeakModel", "takes", "(I)Z"⟩, 41), (⟨"SandwichesSpeakModel", "goesOn", "()Z"⟩, 41), (⟨"SandwichesSpeakModel", "one", "(Z)Z"⟩, 41)]
theorem lw_r3 : ∀ q ∈ lw_privs_3, lw_okq q := List.forall_mem_cons.mpr ⟨lw_p32, List.forall_mem_cons.mpr ⟨lw_p33, List.forall_mem_cons.mpr ⟨lw_p34, List.forall_mem_cons.mpr ⟨lw_p35, List.forall_mem_cons.mpr ⟨lw_p36, List.forall_mem_cons.mpr ⟨lw_p37, List.forall_mem_cons.mpr ⟨lw_p38, List.forall_mem_cons.mpr ⟨lw_p39, List.forall_mem_cons.mpr ⟨lw_p40, List.forall_mem_cons.mpr ⟨lw_p41, List.forall_mem_cons.mpr ⟨lw_p42, List.forall_mem_cons.mpr ⟨lw_p43, List.forall_mem_cons.mpr ⟨lw_p44, List.forall_mem_cons.mpr ⟨lw_p45, List.forall_mem_cons.mpr ⟨lw_p46, List.forall_mem_cons.mpr ⟨lw_p47, fun _ h => absurd h List.not_mem_nil⟩⟩⟩⟩⟩⟩⟩⟩⟩⟩⟩⟩⟩⟩⟩⟩
theorem lw_p48 : lw_okq (⟨"SandwichesSpeakModel", "lays", "(I)V"⟩, 41) := ⟨⟨by decide +kernel, by decide +kernel⟩, List.mem_of_getElem? (i := 671) (by decide +kernel), List.mem_of_getElem? (i := 934) (by decide +kernel), List.mem_of_getElem? (i := 935) (by decide +kernel)⟩
theorem lw_p49 : lw_okq (⟨"SandwichesSpeakModel", "push", "(I)V"⟩, 41) := ⟨⟨by decide +kernel, by decide +kernel⟩, List.mem_of_getElem? (i := 671) (by decide +kernel), List.mem_of_getElem? (i := 941) (by decide +kernel), List.mem_of_getElem? (i := 942) (by decide +kernel)⟩
theorem lw_p50 : lw_okq (⟨"SandwichesSpeakModel", "closes", "()Z"⟩, 41) := ⟨⟨by decide +kernel, by decide +kernel⟩, List.mem_of_getElem? (i := 671) (by decide +kernel), List.mem_of_getElem? (i := 945) (by decide +kernel), List.mem_of_getElem? (i := 946) (by decide +kernel)⟩
theorem lw_p51 : lw_okq (⟨"SandwichesSpeakModel", "signed", "()I"⟩, 41) := ⟨⟨by decide +kernel, by decide +kernel⟩, List.mem_of_getElem? (i := 671) (by decide +kernel), List.mem_of_getElem? (i := 949) (by decide +kernel), List.mem_of_getElem? (i := 950) (by decide +kernel)⟩
theorem lw_p52 : lw_okq (⟨"SandwichesSpeakModel", "areTwo", "(II)Z"⟩, 41) := ⟨⟨by decide +kernel, by decide +kernel⟩, List.mem_of_getElem? (i := 671) (by decide +kernel), List.mem_of_getElem? (i := 963) (by decide +kernel), List.mem_of_getElem? (i := 964) (by decide +kernel)⟩
theorem lw_p53 : lw_okq (⟨"SandwichesSpeakModel", "passes", "()V"⟩, 41) := ⟨⟨by decide +kernel, by decide +kernel⟩, List.mem_of_getElem? (i := 671) (by decide +kernel), List.mem_of_getElem? (i := 971) (by decide +kernel), List.mem_of_getElem? (i := 972) (by decide +kernel)⟩
theorem lw_p54 : lw_okq (⟨"SandwichesSpeakModel", "glad", "()I"⟩, 41) := ⟨⟨by decide +kernel, by decide +kernel⟩, List.mem_of_getElem? (i := 671) (by decide +kernel), List.mem_of_getElem? (i := 975) (by decide +kernel), List.mem_of_getElem? (i := 976) (by decide +kernel)⟩
theorem lw_p55 : lw_okq (⟨"SandwichesSpeakModel", "runs", "(I)V"⟩, 41) := ⟨⟨by decide +kernel, by decide +kernel⟩, List.mem_of_getElem? (i := 671) (by decide +kernel), List.mem_of_getElem? (i := 983) (by decide +kernel), List.mem_of_getElem? (i := 984) (by decide +kernel)⟩
theorem lw_p56 : lw_okq (⟨"SandwichesSpeakModel", "keeps", "()V"⟩, 41) := ⟨⟨by decide +kernel, by decide +kernel⟩, List.mem_of_getElem? (i := 671) (by decide +kernel), List.mem_of_getElem? (i := 987) (by decide +kernel), List.mem_of_getElem? (i := 988) (by decide +kernel)⟩
theorem lw_p57 : lw_okq (⟨"SandwichesSpeakModel", "restores", "()V"⟩, 41) := ⟨⟨by decide +kernel, by decide +kernel⟩, List.mem_of_getElem? (i := 671) (by decide +kernel), List.mem_of_getElem? (i := 991) (by decide +kernel), List.mem_of_getElem? (i := 992) (by decide +kernel)⟩
theorem lw_p58 : lw_okq (⟨"SandwichesSpeakModel", "remembers", "()V"⟩, 41) := ⟨⟨by decide +kernel, by decide +kernel⟩, List.mem_of_getElem? (i := 671) (by decide +kernel), List.mem_of_getElem? (i := 999) (by decide +kernel), List.mem_of_getElem? (i := 1000) (by decide +kernel)⟩
theorem lw_p59 : lw_okq (⟨"SandwichesSpeakModel", "isAlike", "(II)Z"⟩, 41) := ⟨⟨by decide +kernel, by decide +kernel⟩, List.mem_of_getElem? (i := 671) (by decide +kernel), List.mem_of_getElem? (i := 1003) (by decide +kernel), List.mem_of_getElem? (i := 1004) (by decide +kernel)⟩
theorem lw_p60 : lw_okq (⟨"SandwichesSpeakModel", "lettuce", "(I)I"⟩, 41) := ⟨⟨by decide +kernel, by decide +kernel⟩, List.mem_of_getElem? (i := 671) (by decide +kernel), List.mem_of_getElem? (i := 1011) (by decide +kernel), List.mem_of_getElem? (i := 1012) (by decide +kernel)⟩
theorem lw_p61 : lw_okq (⟨"SandwichesSpeakModel", "left", "()I"⟩, 41) := ⟨⟨by decide +kernel, by decide +kernel⟩, List.mem_of_getElem? (i := 671) (by decide +kernel), List.mem_of_getElem? (i := 1015) (by decide +kernel), List.mem_of_getElem? (i := 1016) (by decide +kernel)⟩
theorem lw_p62 : lw_okq (⟨"SandwichesSpeakModel", "gladBehind", "(I)I"⟩, 41) := ⟨⟨by decide +kernel, by decide +kernel⟩, List.mem_of_getElem? (i := 671) (by decide +kernel), List.mem_of_getElem? (i := 1023) (by decide +kernel), List.mem_of_getElem? (i := 1024) (by decide +kernel)⟩
theorem lw_p63 : lw_okq (⟨"SandwichesSpeakModel", "wrong", "(II)I"⟩, 41) := ⟨⟨by decide +kernel, by decide +kernel⟩, List.mem_of_getElem? (i := 671) (by decide +kernel), List.mem_of_getElem? (i := 1046) (by decide +kernel), List.mem_of_getElem? (i := 1047) (by decide +kernel)⟩
def lw_privs_4 : List (MethodName × Nat) := [(⟨"SandwichesSpeakModel", "lays", "(I)V"⟩, 41), (⟨"SandwichesSpeakModel", "push", "(I)V"⟩, 41), (⟨"SandwichesSpeakModel", "closes", "()Z"⟩, 41), (⟨"SandwichesSpeakModel", "signed", "()I"⟩, 41), (⟨"SandwichesSpeakModel", "areTwo", "(II)Z"⟩, 41), (⟨"SandwichesSpeakModel", "passes", "()V"⟩, 41), (⟨"SandwichesSpeakModel", "glad", "()I"⟩, 41), (⟨"SandwichesSpeakModel", "runs", "(I)V"⟩, 41), (⟨"SandwichesSpeakModel", "keeps", "()V"⟩, 41), (⟨"SandwichesSpeakModel", "restores", "()V"⟩, 41), (⟨"SandwichesSpeakModel", "remembers", "()V"⟩, 41), (⟨"SandwichesSpeakModel", "isAlike", "(II)Z"⟩, 41), (⟨"SandwichesSpeakModel", "lettuce", "(I)I"⟩, 41), (⟨"SandwichesSpeakModel", "left", "()I"⟩, 41), (⟨"SandwichesSpeakModel", "gladBehind", "(I)I"⟩, 41), (⟨"SandwichesSpeakModel", "wrong", "(II)I"⟩, 41)]
theorem lw_r4 : ∀ q ∈ lw_privs_4, lw_okq q := List.forall_mem_cons.mpr ⟨lw_p48, List.forall_mem_cons.mpr ⟨lw_p49, List.forall_mem_cons.mpr ⟨lw_p50, List.forall_mem_cons.mpr ⟨lw_p51, List.forall_mem_cons.mpr ⟨lw_p52, List.forall_mem_cons.mpr ⟨lw_p53, List.forall_mem_cons.mpr ⟨lw_p54, List.forall_mem_cons.mpr ⟨lw_p55, List.forall_mem_cons.mpr ⟨lw_p56, List.forall_mem_cons.mpr ⟨lw_p57, List.forall_mem_cons.mpr ⟨lw_p58, List.forall_mem_cons.mpr ⟨lw_p59, List.forall_mem_cons.mpr ⟨lw_p60, List.forall_mem_cons.mpr ⟨lw_p61, List.forall_mem_cons.mpr ⟨lw_p62, List.forall_mem_cons.mpr ⟨lw_p63, fun _ h => absurd h List.not_mem_nil⟩⟩⟩⟩⟩⟩⟩⟩⟩⟩⟩⟩⟩⟩⟩⟩
theorem lw_p64 : lw_okq (⟨"SandwichesSpeakModel", "kindsSo", "(II)I"⟩, 41) := ⟨⟨by decide +kernel, by decide +kernel⟩, List.mem_of_getElem? (i := 671) (by decide +kernel), List.mem_of_getElem? (i := 1050) (by decide +kernel), List.mem_of_getElem? (i := 1051) (by decide +kernel)⟩
theorem lw_p65 : lw_okq (⟨"SandwichesSpeakModel", "numbersSo", "(II)I"⟩, 41) := ⟨⟨by decide +kernel, by decide +kernel⟩, List.mem_of_getElem? (i := 671) (by decide +kernel), List.mem_of_getElem? (i := 1054) (by decide +kernel), List.mem_of_getElem? (i := 1055) (by decide +kernel)⟩
theorem lw_p66 : lw_okq (⟨"SandwichesSpeakModel", "moodsSo", "(III)I"⟩, 41) := ⟨⟨by decide +kernel, by decide +kernel⟩, List.mem_of_getElem? (i := 671) (by decide +kernel), List.mem_of_getElem? (i := 1058) (by decide +kernel), List.mem_of_getElem? (i := 1059) (by decide +kernel)⟩
theorem lw_p67 : lw_okq (⟨"SandwichesSpeakModel", "textsSo", "(II)I"⟩, 41) := ⟨⟨by decide +kernel, by decide +kernel⟩, List.mem_of_getElem? (i := 671) (by decide +kernel), List.mem_of_getElem? (i := 1062) (by decide +kernel), List.mem_of_getElem? (i := 1063) (by decide +kernel)⟩
theorem lw_p68 : lw_okq (⟨"SandwichesSpeakModel", "byLot", "(I)I"⟩, 41) := ⟨⟨by decide +kernel, by decide +kernel⟩, List.mem_of_getElem? (i := 671) (by decide +kernel), List.mem_of_getElem? (i := 1078) (by decide +kernel), List.mem_of_getElem? (i := 1079) (by decide +kernel)⟩
def lw_privs_5 : List (MethodName × Nat) := [(⟨"SandwichesSpeakModel", "kindsSo", "(II)I"⟩, 41), (⟨"SandwichesSpeakModel", "numbersSo", "(II)I"⟩, 41), (⟨"SandwichesSpeakModel", "moodsSo", "(III)I"⟩, 41), (⟨"SandwichesSpeakModel", "textsSo", "(II)I"⟩, 41), (⟨"SandwichesSpeakModel", "byLot", "(I)I"⟩, 41)]
theorem lw_r5 : ∀ q ∈ lw_privs_5, lw_okq q := List.forall_mem_cons.mpr ⟨lw_p64, List.forall_mem_cons.mpr ⟨lw_p65, List.forall_mem_cons.mpr ⟨lw_p66, List.forall_mem_cons.mpr ⟨lw_p67, List.forall_mem_cons.mpr ⟨lw_p68, fun _ h => absurd h List.not_mem_nil⟩⟩⟩⟩⟩
def lw_privs : List (MethodName × Nat) := lw_privs_1 ++ (lw_privs_2 ++ (lw_privs_3 ++ (lw_privs_4 ++ (lw_privs_5))))
def lw_tbl : List Cond := k2_sels lw_privs ++ tables_1
theorem lw_privs_ok : ∀ q ∈ lw_privs, lw_okq q := by
  show ∀ q ∈ lw_privs_1 ++ (lw_privs_2 ++ (lw_privs_3 ++ (lw_privs_4 ++ (lw_privs_5)))), lw_okq q
  exact List.forall_mem_append.mpr ⟨lw_r1, List.forall_mem_append.mpr ⟨lw_r2, List.forall_mem_append.mpr ⟨lw_r3, List.forall_mem_append.mpr ⟨lw_r4, lw_r5⟩⟩⟩⟩
def RX0 : String := "SandwichesSpeak$Family"
def TX0 : u_T := fun k => match k with
  | 0 => ("SandwichesSpeak$Family", "kinds", "[I", true)
  | 1 => ("SandwichesSpeak$Family", "numbers", "[I", true)
  | 2 => ("SandwichesSpeak$Family", "moods", "[I", true)
  | 3 => ("SandwichesSpeak$Family", "felt", "[I", true)
  | 4 => ("SandwichesSpeak$Family", "size", "I", false)
  | 5 => ("SandwichesSpeak$Family", "used", "I", false)
  | 6 => ("SandwichesSpeak$Family", "sunday", "I", false)
  | 7 => ("SandwichesSpeak$Family", "rule", "I", false)
  | 8 => ("SandwichesSpeak$Family", "leftOut", "I", false)
  | 9 => ("SandwichesSpeak$Family", "texts", "[LSandwichesSpeak$Text;", true)
  | 10 => ("SandwichesSpeak$Family", "names", "[I", true)
  | _ => ("SandwichesSpeak$Family", "stack", "[I", true)
def tyX0 : Nat → FieldType := fun k => match k with
  | 0 => .array .int
  | 1 => .array .int
  | 2 => .array .int
  | 3 => .array .int
  | 4 => .int
  | 5 => .int
  | 6 => .int
  | 7 => .int
  | 8 => .int
  | 9 => .array (.object "SandwichesSpeak$Text")
  | 10 => .array .int
  | _ => .array .int
theorem nmX0 : ∀ a, a < 12 → ∀ b, b < 12 → a ≠ b → (TX0 a).2.1 ≠ (TX0 b).2.1 := by decide +kernel
theorem tyX0_ok : ∀ k, k < 12 → parseFieldDescriptor (TX0 k).2.2.1 = some (tyX0 k) := by decide +kernel
abbrev cX0_init : ByteArray := prog_2_method_1_code
def yX0_init : MethodName := ⟨RX0, "<init>", "([LSandwichesSpeak$Text;)V"⟩
abbrev cX0_becomeLike : ByteArray := prog_2_method_2_code
def yX0_becomeLike : MethodName := ⟨RX0, "becomeLike", "(LSandwichesSpeak$Family;)V"⟩
abbrev cX0_takeIn : ByteArray := prog_2_method_3_code
def yX0_takeIn : MethodName := ⟨RX0, "takeIn", "(II)I"⟩
abbrev cX0_glad : ByteArray := prog_2_method_4_code
def yX0_glad : MethodName := ⟨RX0, "glad", "()I"⟩
abbrev cX0_allMoods : ByteArray := prog_2_method_5_code
def yX0_allMoods : MethodName := ⟨RX0, "allMoods", "()I"⟩
abbrev cX0_drawMoods : ByteArray := prog_2_method_6_code
def yX0_drawMoods : MethodName := ⟨RX0, "drawMoods", "(I)V"⟩
abbrev cX0_sendsTo : ByteArray := prog_2_method_7_code
def yX0_sendsTo : MethodName := ⟨RX0, "sendsTo", "(II)Z"⟩
abbrev cX0_inlawSends : ByteArray := prog_2_method_8_code
def yX0_inlawSends : MethodName := ⟨RX0, "inlawSends", "(IZ)Z"⟩
abbrev cX0_layersOf : ByteArray := prog_2_method_9_code
def yX0_layersOf : MethodName := ⟨RX0, "layersOf", "(II)I"⟩
abbrev cX0_cutsFor : ByteArray := prog_2_method_10_code
def yX0_cutsFor : MethodName := ⟨RX0, "cutsFor", "(III)Z"⟩
abbrev cX0_motherCuts : ByteArray := prog_2_method_11_code
def yX0_motherCuts : MethodName := ⟨RX0, "motherCuts", "(IIZ)Z"⟩
abbrev cX0_inlawCuts : ByteArray := prog_2_method_12_code
def yX0_inlawCuts : MethodName := ⟨RX0, "inlawCuts", "(IZ)Z"⟩
abbrev cX0_feelsBy : ByteArray := prog_2_method_13_code
def yX0_feelsBy : MethodName := ⟨RX0, "feelsBy", "(III)I"⟩
abbrev cX0_nameAll : ByteArray := prog_2_method_14_code
def yX0_nameAll : MethodName := ⟨RX0, "nameAll", "(IIIII)V"⟩
abbrev cX0_feltFrom : ByteArray := prog_2_method_15_code
def yX0_feltFrom : MethodName := ⟨RX0, "feltFrom", "(II)I"⟩
abbrev cX0_passSunday : ByteArray := prog_2_method_16_code
def yX0_passSunday : MethodName := ⟨RX0, "passSunday", "()Z"⟩
abbrev cX0_gladBehind : ByteArray := prog_2_method_17_code
def yX0_gladBehind : MethodName := ⟨RX0, "gladBehind", "(I)I"⟩
abbrev cX0_emptyBehind : ByteArray := prog_2_method_18_code
def yX0_emptyBehind : MethodName := ⟨RX0, "emptyBehind", "(I)I"⟩
abbrev cX0_firstOtherwise : ByteArray := prog_2_method_19_code
def yX0_firstOtherwise : MethodName := ⟨RX0, "firstOtherwise", "(LSandwichesSpeak$Sheet;I)I"⟩
abbrev cX0_filledFrom : ByteArray := prog_2_method_20_code
def yX0_filledFrom : MethodName := ⟨RX0, "filledFrom", "(I)I"⟩
abbrev cX0_layersTo : ByteArray := prog_2_method_21_code
def yX0_layersTo : MethodName := ⟨RX0, "layersTo", "(I)I"⟩
abbrev cX0_lettuceCount : ByteArray := prog_2_method_22_code
def yX0_lettuceCount : MethodName := ⟨RX0, "lettuceCount", "()I"⟩
abbrev cX0_lettuceFirst : ByteArray := prog_2_method_23_code
def yX0_lettuceFirst : MethodName := ⟨RX0, "lettuceFirst", "()I"⟩
abbrev cX0_leftAlone : ByteArray := prog_2_method_24_code
def yX0_leftAlone : MethodName := ⟨RX0, "leftAlone", "()I"⟩
def RX1 : String := "SandwichesSpeak$Reader"
def TX1 : u_T := fun k => match k with
  | 0 => ("SandwichesSpeak$Reader", "size", "I", false)
  | 1 => ("SandwichesSpeak$Reader", "tape", "[I", true)
  | 2 => ("SandwichesSpeak$Reader", "into", "LSandwichesSpeak$Text;", false)
  | 3 => ("SandwichesSpeak$Reader", "place", "I", false)
  | 4 => ("SandwichesSpeak$Reader", "start", "I", false)
  | 5 => ("SandwichesSpeak$Reader", "token", "I", false)
  | 6 => ("SandwichesSpeak$Reader", "value", "I", false)
  | 7 => ("SandwichesSpeak$Reader", "open", "I", false)
  | _ => ("SandwichesSpeak$Reader", "fault", "I", false)
def tyX1 : Nat → FieldType := fun k => match k with
  | 0 => .int
  | 1 => .array .int
  | 2 => .object "SandwichesSpeak$Text"
  | 3 => .int
  | 4 => .int
  | 5 => .int
  | 6 => .int
  | 7 => .int
  | _ => .int
theorem nmX1 : ∀ a, a < 9 → ∀ b, b < 9 → a ≠ b → (TX1 a).2.1 ≠ (TX1 b).2.1 := by decide +kernel
theorem tyX1_ok : ∀ k, k < 9 → parseFieldDescriptor (TX1 k).2.2.1 = some (tyX1 k) := by decide +kernel
abbrev cX1_init : ByteArray := prog_3_method_1_code
def yX1_init : MethodName := ⟨RX1, "<init>", "()V"⟩
abbrev cX1_takeByte : ByteArray := prog_3_method_2_code
def yX1_takeByte : MethodName := ⟨RX1, "takeByte", "(I)Z"⟩
abbrev cX1_readInto : ByteArray := prog_3_method_3_code
def yX1_readInto : MethodName := ⟨RX1, "readInto", "(LSandwichesSpeak$Text;)I"⟩
abbrev cX1_pass : ByteArray := prog_3_method_4_code
def yX1_pass : MethodName := ⟨RX1, "pass", "(I)V"⟩
abbrev cX1_fail : ByteArray := prog_3_method_5_code
def yX1_fail : MethodName := ⟨RX1, "fail", "()V"⟩
abbrev cX1_readOr : ByteArray := prog_3_method_6_code
def yX1_readOr : MethodName := ⟨RX1, "readOr", "()V"⟩
abbrev cX1_readAnd : ByteArray := prog_3_method_7_code
def yX1_readAnd : MethodName := ⟨RX1, "readAnd", "()V"⟩
abbrev cX1_readNot : ByteArray := prog_3_method_8_code
def yX1_readNot : MethodName := ⟨RX1, "readNot", "()V"⟩
abbrev cX1_readCompared : ByteArray := prog_3_method_9_code
def yX1_readCompared : MethodName := ⟨RX1, "readCompared", "()V"⟩
abbrev cX1_readSum : ByteArray := prog_3_method_10_code
def yX1_readSum : MethodName := ⟨RX1, "readSum", "()V"⟩
abbrev cX1_readTerm : ByteArray := prog_3_method_11_code
def yX1_readTerm : MethodName := ⟨RX1, "readTerm", "()V"⟩
abbrev cX1_readOne : ByteArray := prog_3_method_12_code
def yX1_readOne : MethodName := ⟨RX1, "readOne", "()V"⟩
abbrev cX1_opens : ByteArray := prog_3_method_13_code
def yX1_opens : MethodName := ⟨RX1, "opens", "()Z"⟩
abbrev cX1_readToken : ByteArray := prog_3_method_14_code
def yX1_readToken : MethodName := ⟨RX1, "readToken", "()V"⟩
abbrev cX1_readNumeral : ByteArray := prog_3_method_15_code
def yX1_readNumeral : MethodName := ⟨RX1, "readNumeral", "()V"⟩
abbrev cX1_readWord : ByteArray := prog_3_method_16_code
def yX1_readWord : MethodName := ⟨RX1, "readWord", "()V"⟩
abbrev cX1_wordNumber : ByteArray := prog_3_method_17_code
def yX1_wordNumber : MethodName := ⟨RX1, "wordNumber", "()I"⟩
def RX2 : String := "SandwichesSpeak$Sheet"
def TX2 : u_T := fun k => match k with
  | 0 => ("SandwichesSpeak$Sheet", "items", "[I", true)
  | 1 => ("SandwichesSpeak$Sheet", "sort", "I", false)
  | _ => ("SandwichesSpeak$Sheet", "size", "I", false)
def tyX2 : Nat → FieldType := fun k => match k with
  | 0 => .array .int
  | 1 => .int
  | _ => .int
theorem nmX2 : ∀ a, a < 3 → ∀ b, b < 3 → a ≠ b → (TX2 a).2.1 ≠ (TX2 b).2.1 := by decide +kernel
theorem tyX2_ok : ∀ k, k < 3 → parseFieldDescriptor (TX2 k).2.2.1 = some (tyX2 k) := by decide +kernel
abbrev cX2_init : ByteArray := prog_4_method_1_code
def yX2_init : MethodName := ⟨RX2, "<init>", "()V"⟩
abbrev cX2_isMissing : ByteArray := prog_4_method_2_code
def yX2_isMissing : MethodName := ⟨RX2, "isMissing", "()Z"⟩
abbrev cX2_clear : ByteArray := prog_4_method_3_code
def yX2_clear : MethodName := ⟨RX2, "clear", "(II)V"⟩
abbrev cX2_hasItem : ByteArray := prog_4_method_4_code
def yX2_hasItem : MethodName := ⟨RX2, "hasItem", "(I)Z"⟩
abbrev cX2_hasPiece : ByteArray := prog_4_method_5_code
def yX2_hasPiece : MethodName := ⟨RX2, "hasPiece", "(II)Z"⟩
abbrev cX2_put : ByteArray := prog_4_method_6_code
def yX2_put : MethodName := ⟨RX2, "put", "(II)V"⟩
def RX3 : String := "SandwichesSpeak$Text"
def TX3 : u_T := fun k => match k with
  | 0 => ("SandwichesSpeak$Text", "steps", "[I", true)
  | 1 => ("SandwichesSpeak$Text", "begins", "[I", true)
  | _ => ("SandwichesSpeak$Text", "size", "I", false)
def tyX3 : Nat → FieldType := fun k => match k with
  | 0 => .array .int
  | 1 => .array .int
  | _ => .int
theorem nmX3 : ∀ a, a < 3 → ∀ b, b < 3 → a ≠ b → (TX3 a).2.1 ≠ (TX3 b).2.1 := by decide +kernel
theorem tyX3_ok : ∀ k, k < 3 → parseFieldDescriptor (TX3 k).2.2.1 = some (tyX3 k) := by decide +kernel
abbrev cX3_init : ByteArray := prog_5_method_1_code
def yX3_init : MethodName := ⟨RX3, "<init>", "()V"⟩
abbrev cX3_empty : ByteArray := prog_5_method_2_code
def yX3_empty : MethodName := ⟨RX3, "empty", "()V"⟩
abbrev cX3_beginPart : ByteArray := prog_5_method_3_code
def yX3_beginPart : MethodName := ⟨RX3, "beginPart", "(I)V"⟩
abbrev cX3_takeStep : ByteArray := prog_5_method_4_code
def yX3_takeStep : MethodName := ⟨RX3, "takeStep", "(I)V"⟩
abbrev cX3_valueOf : ByteArray := prog_5_method_5_code
def yX3_valueOf : MethodName := ⟨RX3, "valueOf", "(I[I[I)I"⟩
def RX4 : String := "SandwichesSpeak"
def TX4 : u_T := fun k => match k with
  | 0 => ("SandwichesSpeak", "texts", "[LSandwichesSpeak$Text;", true)
  | 1 => ("SandwichesSpeak", "sheets", "[LSandwichesSpeak$Sheet;", true)
  | 2 => ("SandwichesSpeak", "reader", "LSandwichesSpeak$Reader;", true)
  | 3 => ("SandwichesSpeak", "family", "LSandwichesSpeak$Family;", true)
  | 4 => ("SandwichesSpeak", "thought", "LSandwichesSpeak$Family;", true)
  | 5 => ("SandwichesSpeak", "kept", "LSandwichesSpeak$Family;", true)
  | 6 => ("SandwichesSpeak", "past", "[I", true)
  | 7 => ("SandwichesSpeak", "textCount", "I", false)
  | _ => ("SandwichesSpeak", "isKept", "Z", false)
def tyX4 : Nat → FieldType := fun k => match k with
  | 0 => .array (.object "SandwichesSpeak$Text")
  | 1 => .array (.object "SandwichesSpeak$Sheet")
  | 2 => .object "SandwichesSpeak$Reader"
  | 3 => .object "SandwichesSpeak$Family"
  | 4 => .object "SandwichesSpeak$Family"
  | 5 => .object "SandwichesSpeak$Family"
  | 6 => .array .int
  | 7 => .int
  | _ => .boolean
theorem nmX4 : ∀ a, a < 9 → ∀ b, b < 9 → a ≠ b → (TX4 a).2.1 ≠ (TX4 b).2.1 := by decide +kernel
theorem tyX4_ok : ∀ k, k < 9 → parseFieldDescriptor (TX4 k).2.2.1 = some (tyX4 k) := by decide +kernel
abbrev cX4_init : ByteArray := prog_1_method_1_code
def yX4_init : MethodName := ⟨RX4, "<init>", "()V"⟩
abbrev cX4_set : ByteArray := prog_1_method_2_code
def yX4_set : MethodName := ⟨RX4, "set", "(III)I"⟩
abbrev cX4_person : ByteArray := prog_1_method_3_code
def yX4_person : MethodName := ⟨RX4, "person", "(II)I"⟩
abbrev cX4_told : ByteArray := prog_1_method_4_code
def yX4_told : MethodName := ⟨RX4, "told", "(II)I"⟩
abbrev cX4_isThere : ByteArray := prog_1_method_5_code
def yX4_isThere : MethodName := ⟨RX4, "isThere", "(II)Z"⟩
abbrev cX4_fits : ByteArray := prog_1_method_6_code
def yX4_fits : MethodName := ⟨RX4, "fits", "(II)Z"⟩
abbrev cX4_plainly : ByteArray := prog_1_method_7_code
def yX4_plainly : MethodName := ⟨RX4, "plainly", "(II)I"⟩
abbrev cX4_isPerson : ByteArray := prog_1_method_8_code
def yX4_isPerson : MethodName := ⟨RX4, "isPerson", "(I)Z"⟩
abbrev cX4_areTwo : ByteArray := prog_1_method_9_code
def yX4_areTwo : MethodName := ⟨RX4, "areTwo", "(II)Z"⟩
abbrev cX4_isIn : ByteArray := prog_1_method_10_code
def yX4_isIn : MethodName := ⟨RX4, "isIn", "(III)Z"⟩
abbrev cX4_feed : ByteArray := prog_1_method_11_code
def yX4_feed : MethodName := ⟨RX4, "feed", "(I)I"⟩
abbrev cX4_text : ByteArray := prog_1_method_12_code
def yX4_text : MethodName := ⟨RX4, "text", "()I"⟩
abbrev cX4_force : ByteArray := prog_1_method_13_code
def yX4_force : MethodName := ⟨RX4, "force", "(I)I"⟩
abbrev cX4_sandwich : ByteArray := prog_1_method_14_code
def yX4_sandwich : MethodName := ⟨RX4, "sandwich", "(III)I"⟩
abbrev cX4_sunday : ByteArray := prog_1_method_15_code
def yX4_sunday : MethodName := ⟨RX4, "sunday", "()I"⟩
abbrev cX4_run : ByteArray := prog_1_method_16_code
def yX4_run : MethodName := ⟨RX4, "run", "(II)I"⟩
abbrev cX4_again : ByteArray := prog_1_method_17_code
def yX4_again : MethodName := ⟨RX4, "again", "(I)I"⟩
abbrev cX4_firstDead : ByteArray := prog_1_method_18_code
def yX4_firstDead : MethodName := ⟨RX4, "firstDead", "()I"⟩
abbrev cX4_firstAgain : ByteArray := prog_1_method_19_code
def yX4_firstAgain : MethodName := ⟨RX4, "firstAgain", "(I)I"⟩
abbrev cX4_all : ByteArray := prog_1_method_20_code
def yX4_all : MethodName := ⟨RX4, "all", "(I)I"⟩
abbrev cX4_best : ByteArray := prog_1_method_21_code
def yX4_best : MethodName := ⟨RX4, "best", "(III)I"⟩
abbrev cX4_leaveOut : ByteArray := prog_1_method_22_code
def yX4_leaveOut : MethodName := ⟨RX4, "leaveOut", "(II)I"⟩
abbrev cX4_spare : ByteArray := prog_1_method_23_code
def yX4_spare : MethodName := ⟨RX4, "spare", "(II)I"⟩
abbrev cX4_gladAsItIs : ByteArray := prog_1_method_24_code
def yX4_gladAsItIs : MethodName := ⟨RX4, "gladAsItIs", "(I)I"⟩
abbrev cX4_add : ByteArray := prog_1_method_25_code
def yX4_add : MethodName := ⟨RX4, "add", "(III)I"⟩
abbrev cX4_bounded : ByteArray := prog_1_method_26_code
def yX4_bounded : MethodName := ⟨RX4, "bounded", "(I)I"⟩
abbrev cX4_tells : ByteArray := prog_1_method_27_code
def yX4_tells : MethodName := ⟨RX4, "tells", "(III)I"⟩
abbrev cX4_bitsSo : ByteArray := prog_1_method_28_code
def yX4_bitsSo : MethodName := ⟨RX4, "bitsSo", "(LSandwichesSpeak$Sheet;II)I"⟩
abbrev cX4_moodsSo : ByteArray := prog_1_method_29_code
def yX4_moodsSo : MethodName := ⟨RX4, "moodsSo", "(LSandwichesSpeak$Sheet;IZ)I"⟩
abbrev cX4_film : ByteArray := prog_1_method_30_code
def yX4_film : MethodName := ⟨RX4, "film", "(III)I"⟩
abbrev cX4_drawn : ByteArray := prog_1_method_31_code
def yX4_drawn : MethodName := ⟨RX4, "drawn", "(I)I"⟩
abbrev cX4_chance : ByteArray := prog_1_method_32_code
def yX4_chance : MethodName := ⟨RX4, "chance", "(IIII)J"⟩
abbrev cX4_sharedDivisor : ByteArray := prog_1_method_33_code
def yX4_sharedDivisor : MethodName := ⟨RX4, "sharedDivisor", "(II)I"⟩
abbrev cX4_image : ByteArray := prog_1_method_34_code
def yX4_image : MethodName := ⟨RX4, "image", "()I"⟩
abbrev cX4_back : ByteArray := prog_1_method_35_code
def yX4_back : MethodName := ⟨RX4, "back", "()I"⟩
abbrev cX4_count : ByteArray := prog_1_method_36_code
def yX4_count : MethodName := ⟨RX4, "count", "(I)I"⟩
abbrev cX4_sheet : ByteArray := prog_1_method_37_code
def yX4_sheet : MethodName := ⟨RX4, "sheet", "(III)I"⟩
abbrev cX4_cell : ByteArray := prog_1_method_38_code
def yX4_cell : MethodName := ⟨RX4, "cell", "(III)I"⟩
abbrev cX4_copy : ByteArray := prog_1_method_39_code
def yX4_copy : MethodName := ⟨RX4, "copy", "(IIIII)I"⟩
abbrev cX4_people : ByteArray := prog_1_method_40_code
def yX4_people : MethodName := ⟨RX4, "people", "(IIII)I"⟩
abbrev cX4_taken : ByteArray := prog_1_method_41_code
def yX4_taken : MethodName := ⟨RX4, "taken", "(II)I"⟩
abbrev cX4_isSheet : ByteArray := prog_1_method_42_code
def yX4_isSheet : MethodName := ⟨RX4, "isSheet", "(I)Z"⟩
def RX5 : String := "SandwichesSpeakModel"
def TX5 : u_T := fun k => match k with
  | 0 => ("SandwichesSpeakModel", "day", "I", false)
  | 1 => ("SandwichesSpeakModel", "used", "[Z", true)
  | 2 => ("SandwichesSpeakModel", "many", "I", false)
  | 3 => ("SandwichesSpeakModel", "kind", "[I", true)
  | 4 => ("SandwichesSpeakModel", "number", "[I", true)
  | 5 => ("SandwichesSpeakModel", "mood", "[I", true)
  | 6 => ("SandwichesSpeakModel", "rule", "I", false)
  | 7 => ("SandwichesSpeakModel", "taped", "I", false)
  | 8 => ("SandwichesSpeakModel", "tape", "[I", true)
  | 9 => ("SandwichesSpeakModel", "texts", "I", false)
  | 10 => ("SandwichesSpeakModel", "begins", "[I", true)
  | 11 => ("SandwichesSpeakModel", "length", "[I", true)
  | 12 => ("SandwichesSpeakModel", "code", "[I", true)
  | 13 => ("SandwichesSpeakModel", "coded", "I", false)
  | 14 => ("SandwichesSpeakModel", "from", "I", false)
  | 15 => ("SandwichesSpeakModel", "to", "I", false)
  | 16 => ("SandwichesSpeakModel", "token", "I", false)
  | 17 => ("SandwichesSpeakModel", "value", "I", false)
  | 18 => ("SandwichesSpeakModel", "word", "I", false)
  | 19 => ("SandwichesSpeakModel", "waits", "[I", true)
  | 20 => ("SandwichesSpeakModel", "top", "I", false)
  | 21 => ("SandwichesSpeakModel", "open", "I", false)
  | 22 => ("SandwichesSpeakModel", "compared", "Z", false)
  | 23 => ("SandwichesSpeakModel", "behind", "Z", false)
  | 24 => ("SandwichesSpeakModel", "starts", "Z", false)
  | 25 => ("SandwichesSpeakModel", "stack", "[I", true)
  | 26 => ("SandwichesSpeakModel", "names", "[I", true)
  | 27 => ("SandwichesSpeakModel", "out", "I", false)
  | 28 => ("SandwichesSpeakModel", "comes", "[I", true)
  | 29 => ("SandwichesSpeakModel", "was", "[I", true)
  | 30 => ("SandwichesSpeakModel", "empty", "I", false)
  | 31 => ("SandwichesSpeakModel", "past", "[I", true)
  | 32 => ("SandwichesSpeakModel", "imaged", "Z", false)
  | 33 => ("SandwichesSpeakModel", "oldMany", "I", false)
  | 34 => ("SandwichesSpeakModel", "oldDay", "I", false)
  | 35 => ("SandwichesSpeakModel", "oldRule", "I", false)
  | 36 => ("SandwichesSpeakModel", "oldUsed", "[Z", true)
  | 37 => ("SandwichesSpeakModel", "old", "[I", true)
  | 38 => ("SandwichesSpeakModel", "sheetSort", "[I", true)
  | 39 => ("SandwichesSpeakModel", "sheetSize", "[I", true)
  | _ => ("SandwichesSpeakModel", "cells", "[I", true)
def tyX5 : Nat → FieldType := fun k => match k with
  | 0 => .int
  | 1 => .array .boolean
  | 2 => .int
  | 3 => .array .int
  | 4 => .array .int
  | 5 => .array .int
  | 6 => .int
  | 7 => .int
  | 8 => .array .int
  | 9 => .int
  | 10 => .array .int
  | 11 => .array .int
  | 12 => .array .int
  | 13 => .int
  | 14 => .int
  | 15 => .int
  | 16 => .int
  | 17 => .int
  | 18 => .int
  | 19 => .array .int
  | 20 => .int
  | 21 => .int
  | 22 => .boolean
  | 23 => .boolean
  | 24 => .boolean
  | 25 => .array .int
  | 26 => .array .int
  | 27 => .int
  | 28 => .array .int
  | 29 => .array .int
  | 30 => .int
  | 31 => .array .int
  | 32 => .boolean
  | 33 => .int
  | 34 => .int
  | 35 => .int
  | 36 => .array .boolean
  | 37 => .array .int
  | 38 => .array .int
  | 39 => .array .int
  | _ => .array .int
theorem nmX5 : ∀ a, a < 41 → ∀ b, b < 41 → a ≠ b → (TX5 a).2.1 ≠ (TX5 b).2.1 := by decide +kernel
theorem tyX5_ok : ∀ k, k < 41 → parseFieldDescriptor (TX5 k).2.2.1 = some (tyX5 k) := by decide +kernel
abbrev cX5_init : ByteArray := prog_7_method_1_code
def yX5_init : MethodName := ⟨RX5, "<init>", "()V"⟩
abbrev cX5_within : ByteArray := prog_7_method_2_code
def yX5_within : MethodName := ⟨RX5, "within", "(III)Z"⟩
abbrev cX5_bound : ByteArray := prog_7_method_3_code
def yX5_bound : MethodName := ⟨RX5, "bound", "(I)I"⟩
abbrev cX5_isOne : ByteArray := prog_7_method_4_code
def yX5_isOne : MethodName := ⟨RX5, "isOne", "(I)Z"⟩
abbrev cX5_areTwo : ByteArray := prog_7_method_5_code
def yX5_areTwo : MethodName := ⟨RX5, "areTwo", "(II)Z"⟩
abbrev cX5_isLayer : ByteArray := prog_7_method_6_code
def yX5_isLayer : MethodName := ⟨RX5, "isLayer", "(I)Z"⟩
abbrev cX5_isSheet : ByteArray := prog_7_method_7_code
def yX5_isSheet : MethodName := ⟨RX5, "isSheet", "(I)Z"⟩
abbrev cX5_bitsOf : ByteArray := prog_7_method_8_code
def yX5_bitsOf : MethodName := ⟨RX5, "bitsOf", "(I)I"⟩
abbrev cX5_isOf : ByteArray := prog_7_method_9_code
def yX5_isOf : MethodName := ⟨RX5, "isOf", "(II)Z"⟩
abbrev cX5_isFit : ByteArray := prog_7_method_10_code
def yX5_isFit : MethodName := ⟨RX5, "isFit", "(II)Z"⟩
abbrev cX5_get : ByteArray := prog_7_method_11_code
def yX5_get : MethodName := ⟨RX5, "get", "(II)I"⟩
abbrev cX5_set : ByteArray := prog_7_method_12_code
def yX5_set : MethodName := ⟨RX5, "set", "(III)I"⟩
abbrev cX5_person : ByteArray := prog_7_method_13_code
def yX5_person : MethodName := ⟨RX5, "person", "(II)I"⟩
abbrev cX5_sent : ByteArray := prog_7_method_14_code
def yX5_sent : MethodName := ⟨RX5, "sent", "(I)I"⟩
abbrev cX5_gotten : ByteArray := prog_7_method_15_code
def yX5_gotten : MethodName := ⟨RX5, "gotten", "(I)I"⟩
abbrev cX5_told : ByteArray := prog_7_method_16_code
def yX5_told : MethodName := ⟨RX5, "told", "(II)I"⟩
abbrev cX5_feed : ByteArray := prog_7_method_17_code
def yX5_feed : MethodName := ⟨RX5, "feed", "(I)I"⟩
abbrev cX5_isLetter : ByteArray := prog_7_method_18_code
def yX5_isLetter : MethodName := ⟨RX5, "isLetter", "(I)Z"⟩
abbrev cX5_isDigit : ByteArray := prog_7_method_19_code
def yX5_isDigit : MethodName := ⟨RX5, "isDigit", "(I)Z"⟩
abbrev cX5_isSign : ByteArray := prog_7_method_20_code
def yX5_isSign : MethodName := ⟨RX5, "isSign", "(I)Z"⟩
abbrev cX5_named : ByteArray := prog_7_method_21_code
def yX5_named : MethodName := ⟨RX5, "named", "()I"⟩
abbrev cX5_isKey : ByteArray := prog_7_method_22_code
def yX5_isKey : MethodName := ⟨RX5, "isKey", "()Z"⟩
abbrev cX5_next : ByteArray := prog_7_method_23_code
def yX5_next : MethodName := ⟨RX5, "next", "()V"⟩
abbrev cX5_takes : ByteArray := prog_7_method_24_code
def yX5_takes : MethodName := ⟨RX5, "takes", "(I)Z"⟩
abbrev cX5_codes : ByteArray := prog_7_method_25_code
def yX5_codes : MethodName := ⟨RX5, "codes", "(I)V"⟩
abbrev cX5_rank : ByteArray := prog_7_method_26_code
def yX5_rank : MethodName := ⟨RX5, "rank", "(I)I"⟩
abbrev cX5_lays : ByteArray := prog_7_method_27_code
def yX5_lays : MethodName := ⟨RX5, "lays", "(I)V"⟩
abbrev cX5_push : ByteArray := prog_7_method_28_code
def yX5_push : MethodName := ⟨RX5, "push", "(I)V"⟩
abbrev cX5_one : ByteArray := prog_7_method_29_code
def yX5_one : MethodName := ⟨RX5, "one", "(Z)Z"⟩
abbrev cX5_signed : ByteArray := prog_7_method_30_code
def yX5_signed : MethodName := ⟨RX5, "signed", "()I"⟩
abbrev cX5_closes : ByteArray := prog_7_method_31_code
def yX5_closes : MethodName := ⟨RX5, "closes", "()Z"⟩
abbrev cX5_goesOn : ByteArray := prog_7_method_32_code
def yX5_goesOn : MethodName := ⟨RX5, "goesOn", "()Z"⟩
abbrev cX5_part : ByteArray := prog_7_method_33_code
def yX5_part : MethodName := ⟨RX5, "part", "(II)Z"⟩
abbrev cX5_text : ByteArray := prog_7_method_34_code
def yX5_text : MethodName := ⟨RX5, "text", "()I"⟩
abbrev cX5_force : ByteArray := prog_7_method_35_code
def yX5_force : MethodName := ⟨RX5, "force", "(I)I"⟩
abbrev cX5_ruled : ByteArray := prog_7_method_36_code
def yX5_ruled : MethodName := ⟨RX5, "ruled", "(I)I"⟩
abbrev cX5_both : ByteArray := prog_7_method_37_code
def yX5_both : MethodName := ⟨RX5, "both", "(III)I"⟩
abbrev cX5_tellsOf : ByteArray := prog_7_method_38_code
def yX5_tellsOf : MethodName := ⟨RX5, "tellsOf", "(IIIII)V"⟩
abbrev cX5_cuts : ByteArray := prog_7_method_39_code
def yX5_cuts : MethodName := ⟨RX5, "cuts", "(III)Z"⟩
abbrev cX5_sends : ByteArray := prog_7_method_40_code
def yX5_sends : MethodName := ⟨RX5, "sends", "(II)Z"⟩
abbrev cX5_feels : ByteArray := prog_7_method_41_code
def yX5_feels : MethodName := ⟨RX5, "feels", "(III)I"⟩
abbrev cX5_made : ByteArray := prog_7_method_42_code
def yX5_made : MethodName := ⟨RX5, "made", "(II)I"⟩
abbrev cX5_feltBy : ByteArray := prog_7_method_43_code
def yX5_feltBy : MethodName := ⟨RX5, "feltBy", "(III)I"⟩
abbrev cX5_felt : ByteArray := prog_7_method_44_code
def yX5_felt : MethodName := ⟨RX5, "felt", "(I)I"⟩
abbrev cX5_sandwich : ByteArray := prog_7_method_45_code
def yX5_sandwich : MethodName := ⟨RX5, "sandwich", "(III)I"⟩
abbrev cX5_glad : ByteArray := prog_7_method_46_code
def yX5_glad : MethodName := ⟨RX5, "glad", "()I"⟩
abbrev cX5_passes : ByteArray := prog_7_method_47_code
def yX5_passes : MethodName := ⟨RX5, "passes", "()V"⟩
abbrev cX5_sunday : ByteArray := prog_7_method_48_code
def yX5_sunday : MethodName := ⟨RX5, "sunday", "()I"⟩
abbrev cX5_keeps : ByteArray := prog_7_method_49_code
def yX5_keeps : MethodName := ⟨RX5, "keeps", "()V"⟩
abbrev cX5_restores : ByteArray := prog_7_method_50_code
def yX5_restores : MethodName := ⟨RX5, "restores", "()V"⟩
abbrev cX5_runs : ByteArray := prog_7_method_51_code
def yX5_runs : MethodName := ⟨RX5, "runs", "(I)V"⟩
abbrev cX5_gladBehind : ByteArray := prog_7_method_52_code
def yX5_gladBehind : MethodName := ⟨RX5, "gladBehind", "(I)I"⟩
abbrev cX5_run : ByteArray := prog_7_method_53_code
def yX5_run : MethodName := ⟨RX5, "run", "(II)I"⟩
abbrev cX5_isAlike : ByteArray := prog_7_method_54_code
def yX5_isAlike : MethodName := ⟨RX5, "isAlike", "(II)Z"⟩
abbrev cX5_remembers : ByteArray := prog_7_method_55_code
def yX5_remembers : MethodName := ⟨RX5, "remembers", "()V"⟩
abbrev cX5_again : ByteArray := prog_7_method_56_code
def yX5_again : MethodName := ⟨RX5, "again", "(I)I"⟩
abbrev cX5_lettuce : ByteArray := prog_7_method_57_code
def yX5_lettuce : MethodName := ⟨RX5, "lettuce", "(I)I"⟩
abbrev cX5_left : ByteArray := prog_7_method_58_code
def yX5_left : MethodName := ⟨RX5, "left", "()I"⟩
abbrev cX5_all : ByteArray := prog_7_method_59_code
def yX5_all : MethodName := ⟨RX5, "all", "(I)I"⟩
abbrev cX5_best : ByteArray := prog_7_method_60_code
def yX5_best : MethodName := ⟨RX5, "best", "(III)I"⟩
abbrev cX5_leaveOut : ByteArray := prog_7_method_61_code
def yX5_leaveOut : MethodName := ⟨RX5, "leaveOut", "(II)I"⟩
abbrev cX5_spare : ByteArray := prog_7_method_62_code
def yX5_spare : MethodName := ⟨RX5, "spare", "(II)I"⟩
abbrev cX5_add : ByteArray := prog_7_method_63_code
def yX5_add : MethodName := ⟨RX5, "add", "(III)I"⟩
abbrev cX5_wrong : ByteArray := prog_7_method_64_code
def yX5_wrong : MethodName := ⟨RX5, "wrong", "(II)I"⟩
abbrev cX5_kindsSo : ByteArray := prog_7_method_65_code
def yX5_kindsSo : MethodName := ⟨RX5, "kindsSo", "(II)I"⟩
abbrev cX5_numbersSo : ByteArray := prog_7_method_66_code
def yX5_numbersSo : MethodName := ⟨RX5, "numbersSo", "(II)I"⟩
abbrev cX5_moodsSo : ByteArray := prog_7_method_67_code
def yX5_moodsSo : MethodName := ⟨RX5, "moodsSo", "(III)I"⟩
abbrev cX5_textsSo : ByteArray := prog_7_method_68_code
def yX5_textsSo : MethodName := ⟨RX5, "textsSo", "(II)I"⟩
abbrev cX5_tells : ByteArray := prog_7_method_69_code
def yX5_tells : MethodName := ⟨RX5, "tells", "(III)I"⟩
abbrev cX5_film : ByteArray := prog_7_method_70_code
def yX5_film : MethodName := ⟨RX5, "film", "(III)I"⟩
abbrev cX5_drawn : ByteArray := prog_7_method_71_code
def yX5_drawn : MethodName := ⟨RX5, "drawn", "(I)I"⟩
abbrev cX5_byLot : ByteArray := prog_7_method_72_code
def yX5_byLot : MethodName := ⟨RX5, "byLot", "(I)I"⟩
abbrev cX5_chance : ByteArray := prog_7_method_73_code
def yX5_chance : MethodName := ⟨RX5, "chance", "(IIII)J"⟩
abbrev cX5_image : ByteArray := prog_7_method_74_code
def yX5_image : MethodName := ⟨RX5, "image", "()I"⟩
abbrev cX5_back : ByteArray := prog_7_method_75_code
def yX5_back : MethodName := ⟨RX5, "back", "()I"⟩
abbrev cX5_count : ByteArray := prog_7_method_76_code
def yX5_count : MethodName := ⟨RX5, "count", "(I)I"⟩
abbrev cX5_sheet : ByteArray := prog_7_method_77_code
def yX5_sheet : MethodName := ⟨RX5, "sheet", "(III)I"⟩
abbrev cX5_cell : ByteArray := prog_7_method_78_code
def yX5_cell : MethodName := ⟨RX5, "cell", "(III)I"⟩
abbrev cX5_copy : ByteArray := prog_7_method_79_code
def yX5_copy : MethodName := ⟨RX5, "copy", "(IIIII)I"⟩
abbrev cX5_people : ByteArray := prog_7_method_80_code
def yX5_people : MethodName := ⟨RX5, "people", "(IIII)I"⟩
abbrev cX5_taken : ByteArray := prog_7_method_81_code
def yX5_taken : MethodName := ⟨RX5, "taken", "(II)I"⟩
def RJ11 : String := "java/lang/Character"
abbrev cJ11_isValidCodePoint_9a6ad : ByteArray := prog_8_method_11_code
def yJ11_isValidCodePoint_9a6ad : MethodName := ⟨RJ11, "isValidCodePoint", "(I)Z"⟩
abbrev cJ11_highSurrogate_5068e : ByteArray := prog_8_method_28_code
def yJ11_highSurrogate_5068e : MethodName := ⟨RJ11, "highSurrogate", "(I)C"⟩
abbrev cJ11_lowSurrogate_5068e : ByteArray := prog_8_method_29_code
def yJ11_lowSurrogate_5068e : MethodName := ⟨RJ11, "lowSurrogate", "(I)C"⟩
def RJ6 : String := "java/lang/Integer"
abbrev cJ6_bitCount_0f7a4 : ByteArray := prog_9_method_49_code
def yJ6_bitCount_0f7a4 : MethodName := ⟨RJ6, "bitCount", "(I)I"⟩
def RJ9 : String := "java/lang/Math"
abbrev cJ9_max_7cf53 : ByteArray := prog_10_method_65_code
def yJ9_max_7cf53 : MethodName := ⟨RJ9, "max", "(II)I"⟩
abbrev cJ9_min_7cf53 : ByteArray := prog_10_method_69_code
def yJ9_min_7cf53 : MethodName := ⟨RJ9, "min", "(II)I"⟩
def RJ0 : String := "java/lang/String"
abbrev cJ0_length_8abf5 : ByteArray := prog_11_method_54_code
def yJ0_length_8abf5 : MethodName := ⟨RJ0, "length", "()I"⟩
abbrev cJ0_charAt_5068e : ByteArray := prog_11_method_56_code
def yJ0_charAt_5068e : MethodName := ⟨RJ0, "charAt", "(I)C"⟩
abbrev cJ0_indexOf_0f7a4 : ByteArray := prog_11_method_79_code
def yJ0_indexOf_0f7a4 : MethodName := ⟨RJ0, "indexOf", "(I)I"⟩
abbrev cJ0_indexOf_7cf53 : ByteArray := prog_11_method_80_code
def yJ0_indexOf_7cf53 : MethodName := ⟨RJ0, "indexOf", "(II)I"⟩
abbrev cJ0_coder_7d493 : ByteArray := prog_11_method_152_code
def yJ0_coder_7d493 : MethodName := ⟨RJ0, "coder", "()B"⟩
abbrev cJ0_isLatin1_aae02 : ByteArray := prog_11_method_154_code
def yJ0_isLatin1_aae02 : MethodName := ⟨RJ0, "isLatin1", "()Z"⟩
abbrev cJ0_checkIndex_df160 : ByteArray := prog_11_method_155_code
def yJ0_checkIndex_df160 : MethodName := ⟨RJ0, "checkIndex", "(II)V"⟩
abbrev cJ0_checkBoundsBeginEnd_23922 : ByteArray := prog_11_method_158_code
def yJ0_checkBoundsBeginEnd_23922 : MethodName := ⟨RJ0, "checkBoundsBeginEnd", "(III)V"⟩
def RJ1 : String := "java/lang/StringLatin1"
abbrev cJ1_charAt_3b067 : ByteArray := prog_12_method_2_code
def yJ1_charAt_3b067 : MethodName := ⟨RJ1, "charAt", "([BI)C"⟩
abbrev cJ1_canEncode_9a6ad : ByteArray := prog_12_method_4_code
def yJ1_canEncode_9a6ad : MethodName := ⟨RJ1, "canEncode", "(I)Z"⟩
abbrev cJ1_indexOf_4cfef : ByteArray := prog_12_method_22_code
def yJ1_indexOf_4cfef : MethodName := ⟨RJ1, "indexOf", "([BIII)I"⟩
abbrev cJ1_indexOfChar_4cfef : ByteArray := prog_12_method_23_code
def yJ1_indexOfChar_4cfef : MethodName := ⟨RJ1, "indexOfChar", "([BIII)I"⟩
def RJ2 : String := "java/lang/StringUTF16"
abbrev cJ2_getChar_3b067 : ByteArray := prog_13_method_5_code
def yJ2_getChar_3b067 : MethodName := ⟨RJ2, "getChar", "([BI)C"⟩
abbrev cJ2_length_9d52b : ByteArray := prog_13_method_6_code
def yJ2_length_9d52b : MethodName := ⟨RJ2, "length", "([B)I"⟩
abbrev cJ2_indexOf_4cfef : ByteArray := prog_13_method_40_code
def yJ2_indexOf_4cfef : MethodName := ⟨RJ2, "indexOf", "([BIII)I"⟩
abbrev cJ2_indexOfChar_4cfef : ByteArray := prog_13_method_47_code
def yJ2_indexOfChar_4cfef : MethodName := ⟨RJ2, "indexOfChar", "([BIII)I"⟩
abbrev cJ2_indexOfCharUnsafe_4cfef : ByteArray := prog_13_method_48_code
def yJ2_indexOfCharUnsafe_4cfef : MethodName := ⟨RJ2, "indexOfCharUnsafe", "([BIII)I"⟩
abbrev cJ2_indexOfSupplementary_4cfef : ByteArray := prog_13_method_49_code
def yJ2_indexOfSupplementary_4cfef : MethodName := ⟨RJ2, "indexOfSupplementary", "([BIII)I"⟩
abbrev cJ2_charAt_3b067 : ByteArray := prog_13_method_83_code
def yJ2_charAt_3b067 : MethodName := ⟨RJ2, "charAt", "([BI)C"⟩
abbrev cJ2_checkIndex_2214a : ByteArray := prog_13_method_91_code
def yJ2_checkIndex_2214a : MethodName := ⟨RJ2, "checkIndex", "(I[B)V"⟩
abbrev cJ2_checkBoundsBeginEnd_d044e : ByteArray := prog_13_method_93_code
def yJ2_checkBoundsBeginEnd_d044e : MethodName := ⟨RJ2, "checkBoundsBeginEnd", "(II[B)V"⟩
def RJ10 : String := "java/lang/System"
def RJ3 : String := "jdk/internal/util/Preconditions"
abbrev cJ3_checkIndex_8e157 : ByteArray := prog_15_method_11_code
def yJ3_checkIndex_8e157 : MethodName := ⟨RJ3, "checkIndex", "(IILjava/util/function/BiFunction;)I"⟩
abbrev cJ3_checkFromToIndex_8c36e : ByteArray := prog_15_method_12_code
def yJ3_checkFromToIndex_8c36e : MethodName := ⟨RJ3, "checkFromToIndex", "(IIILjava/util/function/BiFunction;)I"⟩
def RL : String := "SandwichesSpeakLaw"
abbrev cL_law : ByteArray := code
def yL_law : MethodName := ⟨RL, "law", "([I)Z"⟩
abbrev vwCl : List vw_C := [(RX0, TX0, 12), (RX1, TX1, 9), (RX2, TX2, 3), (RX3, TX3, 3), (RX4, TX4, 9), (RX5, TX5, 41)]
def AW : List Cond := lw_tbl.filter goodWord
theorem AW_mem {w : Cond} (i : Nat) (h : lw_tbl[i]? = some w) (g : goodWord w = true) : w ∈ AW := List.mem_filter.mpr ⟨List.mem_of_getElem? h, g⟩
theorem AW_good {w : Cond} (h : w ∈ AW) : (w.onTables && w.keeps) = true ∨ ∃ ty, w = .arrayClass ty := good_of_word (List.mem_filter.mp h).2
theorem AW_in {w : Cond} (h : w ∈ AW) : w ∈ lw_tbl := (List.mem_filter.mp h).1
end
section
/-! THE FRAME: a world of fixed cells, numbered; ints in a function of (cell, slot); contracts over it; rows of instructions over it -/
abbrev Wd : Type := Nat → Nat → Int32
def wset (w : Wd) (i j : Nat) (v : Int32) : Wd := fun a b => if a = i ∧ b = j then v else w a b
def wcpy (w : Wd) (i i2 sp dp n : Nat) : Wd := fun a b => if a = i2 then va_cpy (w i) (w i2) sp dp n b else w a b
theorem wset_row (w : Wd) (i j : Nat) (v : Int32) : (wset w i j v) i = upd (w i) j v := by
  funext b
  by_cases h : b = j <;> simp [wset, upd, h]
theorem wset_off (w : Wd) (i j a : Nat) (v : Int32) (h : a ≠ i) : (wset w i j v) a = w a := by
  funext b
  simp [wset, h]
theorem wcpy_row (w : Wd) (i i2 sp dp n : Nat) : (wcpy w i i2 sp dp n) i2 = va_cpy (w i) (w i2) sp dp n := by
  funext b
  simp [wcpy]
theorem wcpy_off (w : Wd) (i i2 sp dp n a : Nat) (h : a ≠ i2) : (wcpy w i i2 sp dp n) a = w a := by
  funext b
  simp [wcpy, h]
/-- a cell's shape: an array (number of its type, length, the cells that its places name: none of ints), or an object (number of its class; a field: 0 an int, 1 a cell's number or -1, k + 2 the cell k) -/
abbrev Sh : Type := (Nat × Nat × List Nat) ⊕ (Nat × List Nat)
def gTy : Nat → FieldType
  | 0 => .int
  | 1 => .boolean
  | 2 => .object "SandwichesSpeak$Sheet"
  | _ => .object "SandwichesSpeak$Text"
def gTys (cA : Nat → ClassId) : List (ClassId × FieldType) := [(cA 0, gTy 0), (cA 1, gTy 1), (cA 2, gTy 2), (cA 3, gTy 3)]
def fvl (ad : Nat → Nat) (w : Wd) (i j : Nat) : Nat → Value
  | 0 => .int (w i j)
  | 1 => if w i j = -1 then .null else .ref (ad (w i j).toNatClampNeg)
  | k + 2 => .ref (ad k)
def flds (ad : Nat → Nat) (w : Wd) (i : Nat) : Nat → List Nat → List Value
  | _, [] => []
  | j, k :: ks => fvl ad w i j k :: flds ad w i (j + 1) ks
def rfa (rs : List Nat) (j : Nat) : Nat := rs.getD j 0
def celE (cA : Nat → ClassId) (ad : Nat → Nat) (w : Wd) (i : Nat) : Sh → va_E
  | .inl (t, n, []) => .inl (cA t, n, .inl (w i))
  | .inl (t, n, r :: rs) => .inl (cA t, n, .inr (.inr (.inr (.inr fun j => some (ad (rfa (r :: rs) j))))))
  | .inr (ci, fks) => .inr (ci, flds ad w i 0 fks)
def cels (cA : Nat → ClassId) (ad : Nat → Nat) (w : Wd) : Nat → List Sh → va_W
  | _, [] => []
  | i, s :: ss => (ad i, celE cA ad w i s) :: cels cA ad w (i + 1) ss
theorem fvl_congr {ad : Nat → Nat} {w w' : Wd} {i j : Nat} (h : w i = w' i) : ∀ k : Nat, fvl ad w i j k = fvl ad w' i j k
  | 0 => by simp [fvl, h]
  | 1 => by simp [fvl, h]
  | k + 2 => rfl
theorem flds_congr {ad : Nat → Nat} {w w' : Wd} {i : Nat} (h : w i = w' i) : ∀ (ks : List Nat) (j : Nat), flds ad w i j ks = flds ad w' i j ks
  | [], _ => rfl
  | k :: ks, j => by simp only [flds]; rw [fvl_congr h, flds_congr h ks]
theorem flds_get {ad : Nat → Nat} {w : Wd} {i fk : Nat} : ∀ (ks : List Nat) (j k : Nat), ks[k]? = some fk → (flds ad w i j ks)[k]? = some (fvl ad w i (j + k) fk)
  | [], _, _, h => by simp at h
  | a :: ks, j, 0, h => by
    simp at h
    subst h
    simp [flds]
  | a :: ks, j, k + 1, h => by
    simp only [List.getElem?_cons_succ] at h
    simp only [flds, List.getElem?_cons_succ]
    rw [flds_get ks (j + 1) k h]
    congr 2
    omega
theorem flds_len {ad : Nat → Nat} {w : Wd} {i : Nat} : ∀ (ks : List Nat) (j : Nat), (flds ad w i j ks).length = ks.length
  | [], _ => rfl
  | k :: ks, j => by simp [flds, flds_len ks]
theorem flds_set {ad : Nat → Nat} {w : Wd} {i fk : Nat} {v : Int32} (x : Value) (hx : ∀ j : Nat, fvl ad (wset w i j v) i j fk = x) : ∀ (ks : List Nat) (j k : Nat), ks[k]? = some fk → (flds ad w i j ks).set k x = flds ad (wset w i (j + k) v) i j ks
  | [], _, _, h => by simp at h
  | a :: ks, j, 0, h => by
    simp at h
    subst h
    simp only [flds, List.set_cons_zero, Nat.add_zero, hx]
    congr 1
    have key : ∀ (ks : List Nat) (j' : Nat), j < j' → flds ad w i j' ks = flds ad (wset w i j v) i j' ks := by
      intro ks
      induction ks with
      | nil => intro _ _; rfl
      | cons b ks ih =>
        intro j' h'
        simp only [flds]
        rw [ih (j' + 1) (by omega)]
        congr 1
        have e : wset w i j v i j' = w i j' := by simp [wset]; omega
        cases b with
        | zero => simp [fvl, e]
        | succ b => cases b with
          | zero => simp [fvl, e]
          | succ b => rfl
    exact key ks (j + 1) (by omega)
  | a :: ks, j, k + 1, h => by
    simp only [List.getElem?_cons_succ] at h
    simp only [flds, List.set_cons_succ]
    rw [flds_set x hx ks (j + 1) k h]
    have e0 : j + 1 + k = j + (k + 1) := by omega
    rw [e0]
    congr 1
    have e : wset w i (j + (k + 1)) v i j = w i j := by simp [wset]
    cases a with
    | zero => simp [fvl, e]
    | succ b => cases b with
      | zero => simp [fvl, e]
      | succ b => rfl
theorem celE_congr {cA : Nat → ClassId} {ad : Nat → Nat} {w w' : Wd} {i : Nat} (h : w i = w' i) (s : Sh) : celE cA ad w i s = celE cA ad w' i s := by
  rcases s with ⟨t, n, rs⟩ | ⟨ci, fks⟩
  · cases rs <;> simp [celE, h]
  · simp only [celE]; rw [flds_congr h]
theorem cels_congr {cA : Nat → ClassId} {ad : Nat → Nat} {w w' : Wd} : ∀ (ss : List Sh) (i : Nat), (∀ a, i ≤ a → w a = w' a) → cels cA ad w i ss = cels cA ad w' i ss
  | [], _, _ => rfl
  | s :: ss, i, h => by simp only [cels]; rw [celE_congr (h i (Nat.le_refl i)), cels_congr ss (i + 1) (fun a ha => h a (by omega))]
theorem cels_get {cA : Nat → ClassId} {ad : Nat → Nat} {w : Wd} {sh : Sh} : ∀ (ss : List Sh) (i k : Nat), ss[k]? = some sh → (cels cA ad w i ss)[k]? = some (ad (i + k), celE cA ad w (i + k) sh)
  | [], _, _, h => by simp at h
  | a :: ss, i, 0, h => by
    simp at h
    subst h
    simp [cels]
  | a :: ss, i, k + 1, h => by
    simp only [List.getElem?_cons_succ] at h
    simp only [cels, List.getElem?_cons_succ]
    rw [cels_get ss (i + 1) k h]
    have e : i + 1 + k = i + (k + 1) := by omega
    rw [e]
theorem cels_len {cA : Nat → ClassId} {ad : Nat → Nat} {w : Wd} : ∀ (ss : List Sh) (i : Nat), (cels cA ad w i ss).length = ss.length
  | [], _ => rfl
  | s :: ss, i => by simp [cels, cels_len ss]
theorem cels_set {cA : Nat → ClassId} {ad : Nat → Nat} {w w' : Wd} {sh : Sh} : ∀ (ss : List Sh) (i k : Nat), (∀ a, a ≠ i + k → w' a = w a) → ss[k]? = some sh → (cels cA ad w i ss).set k (ad (i + k), celE cA ad w' (i + k) sh) = cels cA ad w' i ss
  | [], _, _, _, h => by simp at h
  | a :: ss, i, 0, hw, h => by
    simp at h
    subst h
    simp only [cels, List.set_cons_zero, Nat.add_zero]
    rw [cels_congr ss (i + 1) (w := w) (w' := w') (fun b hb => (hw b (by omega)).symm)]
  | a :: ss, i, k + 1, hw, h => by
    simp only [List.getElem?_cons_succ] at h
    simp only [cels, List.set_cons_succ]
    have e : i + (k + 1) = i + 1 + k := by omega
    rw [e, cels_set ss (i + 1) k (fun b hb => hw b (by omega)) h, celE_congr (hw i (by omega)) a]
theorem cels_back {cA : Nat → ClassId} {ad : Nat → Nat} {w : Wd} (ss : List Sh) (k : Nat) (q : Nat × va_E) (h : (cels cA ad w 0 ss)[k]? = some q) : k < ss.length ∧ q.1 = ad k := by
  have hk : k < ss.length := by
    have := (List.getElem?_eq_some_iff.mp h).1
    rwa [cels_len] at this
  have h2 := cels_get (cA := cA) (ad := ad) (w := w) ss 0 k (List.getElem?_eq_getElem hk)
  rw [h] at h2
  refine ⟨hk, ?_⟩
  rw [Option.some.inj h2, Nat.zero_add]
/-- what all methods of a world share: the launch, its classes' numbers, its arrays' classes, the cells' addresses, their shapes, what is known of the rest -/
abbrev Gx : Type := Launch × va_G × (Nat → ClassId) × (Nat → Nat) × List Sh × (State → Prop)
abbrev Gl (Γ : Gx) : Launch := Γ.1
abbrev gD (Γ : Gx) : va_G := Γ.2.1
abbrev gcA (Γ : Gx) : Nat → ClassId := Γ.2.2.1
abbrev gad (Γ : Gx) : Nat → Nat := Γ.2.2.2.1
abbrev gS (Γ : Gx) : List Sh := Γ.2.2.2.2.1
abbrev gE (Γ : Gx) : State → Prop := Γ.2.2.2.2.2
def gA (Γ : Gx) : Addr → Prop := fun q => ∃ i : Nat, i < (gS Γ).length ∧ q = gad Γ i
def gW (Γ : Gx) (w : Wd) : va_W := cels (gcA Γ) (gad Γ) w 0 (gS Γ)
def GOK (Γ : Gx) : Prop := (∀ i j : Nat, i < (gS Γ).length → j < (gS Γ).length → gad Γ i = gad Γ j → i = j) ∧
  (∀ s U : State, gE Γ s → U.heap = s.heap → U.vm = s.vm → gE Γ U) ∧
  (∀ s U : State, gE Γ s → s.WarmedH U.vm → s.heap.size ≤ U.heap.size → (∀ q : Nat, q < s.heap.size → ¬ gA Γ q → U.heap[q]? = s.heap[q]?) → gE Γ U)
theorem gW_D {Γ : Gx} (h : GOK Γ) (w : Wd) : va_D (gA Γ) (gW Γ w) := by
  refine ⟨fun i j p q hi hj hpq => ?_, fun k q hk => ?_⟩
  · obtain ⟨h1, h2⟩ := cels_back _ i p hi
    obtain ⟨h3, h4⟩ := cels_back _ j q hj
    exact h.1 i j h1 h3 (by rw [← h2, ← h4]; exact hpq)
  · obtain ⟨h1, h2⟩ := cels_back _ k q hk
    exact ⟨k, h1, h2⟩
/-- the world at a state -/
def Inv (Γ : Gx) (w : Wd) (U : State) : Prop := va_P (gD Γ) vwCl (gW Γ w) U.heap ∧ va_K (gD Γ) vwCl (gTys (gcA Γ)) U ∧ gE Γ U
abbrev Mth : Type := MethodName × ByteArray × Nat × Option FieldType
def wsM (M : Mth) : List Cond := .code M.1 M.2.1 M.2.2.1 M.2.2.2 :: AW
def rmd (d : Nat) : Room := { frames := d, cells := 0, slots := 0, locals := 64 * d }
def QG (Γ : Gx) (Q : Option Value → Wd → Prop) : Array Value → State → Outcome → State → Prop := fun _ st o t =>
  (∃ (r : Option Value) (w' : Wd), o = .returned r ∧ Q r w' ∧ va_P (gD Γ) vwCl (gW Γ w') t.heap ∧ va_K (gD Γ) vwCl (gTys (gcA Γ)) t) ∧ va_F (gA Γ) st t
/-- THE CONTRACT: method M, called with 'as' in the world w, at depth d: it returns, and Q of its answer and the world behind it -/
def Con (Γ : Gx) (d : Nat) (M : Mth) (as : List Value) (w : Wd) (Q : Option Value → Wd → Prop) : Prop :=
  Met (Gl Γ) M.1 (wsM M) (rmd d) (va_Pc as (Inv Γ w)) (QG Γ Q) 0 0 (gA Γ)
theorem Con.mono {Γ : Gx} {d : Nat} {M : Mth} {as : List Value} {w : Wd} {Q Q' : Option Value → Wd → Prop} (h : Con Γ d M as w Q) (hq : ∀ r w', Q r w' → Q' r w') : Con Γ d M as w Q' := by
  unfold Con Met at h ⊢
  refine MetFree.mono h (fun _ _ h => h) (fun _ _ _ _ _ h => h) ?_
  rintro a s o t - ⟨⟨⟨r, w', h1, h2, h3⟩, h4⟩, h5⟩
  exact ⟨⟨⟨r, w', h1, hq r w' h2, h3⟩, h4⟩, h5⟩
def QI (K : Int32 → Wd → Prop) : Option Value → Wd → Prop := fun r w' => ∃ v : Int32, r = some (.int v) ∧ K v w'
def QV (K : Wd → Prop) : Option Value → Wd → Prop := fun r w' => r = none ∧ K w'
def QL (K : Int64 → Wd → Prop) : Option Value → Wd → Prop := fun r w' => ∃ v : Int64, r = some (.long v) ∧ K v w'
def CI (Γ : Gx) (d : Nat) (M : Mth) (as : List Value) (w : Wd) (K : Int32 → Wd → Prop) : Prop := Con Γ d M as w (QI K)
def CV (Γ : Gx) (d : Nat) (M : Mth) (as : List Value) (w : Wd) (K : Wd → Prop) : Prop := Con Γ d M as w (QV K)
def CL (Γ : Gx) (d : Nat) (M : Mth) (as : List Value) (w : Wd) (K : Int64 → Wd → Prop) : Prop := Con Γ d M as w (QL K)
theorem CI.mono {Γ : Gx} {d : Nat} {M : Mth} {as : List Value} {w : Wd} {K K' : Int32 → Wd → Prop} (h : CI Γ d M as w K) (hq : ∀ v w', K v w' → K' v w') : CI Γ d M as w K' :=
  Con.mono h (fun r w' ⟨v, h1, h2⟩ => ⟨v, h1, hq v w' h2⟩)
theorem CV.mono {Γ : Gx} {d : Nat} {M : Mth} {as : List Value} {w : Wd} {K K' : Wd → Prop} (h : CV Γ d M as w K) (hq : ∀ w', K w' → K' w') : CV Γ d M as w K' :=
  Con.mono h (fun r w' ⟨h1, h2⟩ => ⟨h1, hq w' h2⟩)
theorem CL.mono {Γ : Gx} {d : Nat} {M : Mth} {as : List Value} {w : Wd} {K K' : Int64 → Wd → Prop} (h : CL Γ d M as w K) (hq : ∀ v w', K v w' → K' v w') : CL Γ d M as w K' :=
  Con.mono h (fun r w' ⟨v, h1, h2⟩ => ⟨v, h1, hq v w' h2⟩)
/-- a method's run: program, environment, start, method, arguments, frames below, its code -/
abbrev Mx : Type := Program × Env × State × MethodId × Array Value × List Frame × Method × Code
abbrev xp (X : Mx) : Program := X.1
abbrev xe (X : Mx) : Env := X.2.1
abbrev xs (X : Mx) : State := X.2.2.1
abbrev xm (X : Mx) : MethodId := X.2.2.2.1
abbrev xa (X : Mx) : Array Value := X.2.2.2.2.1
abbrev xb (X : Mx) : List Frame := X.2.2.2.2.2.1
abbrev xt (X : Mx) : Method := X.2.2.2.2.2.2.1
abbrev xc (X : Mx) : Code := X.2.2.2.2.2.2.2
def OKM (Γ : Gx) (X : Mx) (own : String) (cc : ByteArray) (nL : Nat) (ret : Option FieldType) : Prop :=
  (xp X).tables.exec = Jvm.exec ∧ (xc X).code = cc ∧ (xc X).maxLocals = nL ∧ (xs X).vm.findClass own = some (xm X).cls ∧ (∀ w ∈ AW, w.before (xa X) (xs X) = true) ∧ (xt X).sig.returnType = ret ∧ (xt X).locks = false ∧
  va_K (gD Γ) vwCl (gTys (gcA Γ)) (xs X) ∧ GOK Γ ∧ gE Γ (xs X)
/-- the locals, by their places -/
def LH (ls : Array Slot) (nL : Nat) (lv : List (Option Value)) : Prop := ls.size = nL ∧ lv_wf ls ∧ ∀ (k : Nat) (v : Value), lv[k]? = some (some v) → ls[k]? = some (.val v)
/-- the run, at pc with these locals, this stack and this world, comes to its end with Q -/
def GG (Γ : Gx) (X : Mx) (d nL : Nat) (Q : Option Value → Wd → Prop) (pc : Nat) (lv : List (Option Value)) (st : List Value) (w : Wd) : Prop :=
  ∀ (ls : Array Slot) (H : Heap) (locs : List Loc), LH ls nL lv → va_P (gD Γ) vwCl (gW Γ w) H → va_S (gA Γ) (xs X).heap H locs →
    W (xp X) (Gl Γ) (xe X) (rmd d) (xs X) (xm X) (xa X) (xb X) (xt X) (xc X) H locs 0 0 (MQ (xb X) (QG Γ Q) (xa X) (xs X) 0 0 (gA Γ)) (F0 (xm X) pc ls st)
def ent (as : List Value) (n : Nat) : List (Option Value) := as.map some ++ List.replicate (n - as.length) none
theorem lv_args_in : ∀ (as : List Value) (i k : Nat) (v : Value), (∀ a ∈ as, a.category = 1) → as[k]? = some v → (i + k, v) ∈ lv_args i as
  | [], _, _, _, _, h => by simp at h
  | a :: as, i, 0, v, _, h => by
    simp at h
    subst h
    simp [lv_args]
  | a :: as, i, k + 1, v, hc, h => by
    simp only [List.getElem?_cons_succ] at h
    have ha : a.category = 1 := hc a List.mem_cons_self
    have := lv_args_in as (i + 1) k v (fun b hb => hc b (List.mem_cons_of_mem _ hb)) h
    simp only [lv_args, ha]
    refine List.mem_cons_of_mem _ ?_
    have e : i + (k + 1) = i + 1 + k := by omega
    rw [e]
    exact this
theorem lg_sl_len : ∀ (as : List Value), (∀ a ∈ as, a.category = 1) → (lg_sl as).length = as.length
  | [], _ => rfl
  | a :: as, hc => by
    have ha : a.category = 1 := hc a List.mem_cons_self
    have ih := lg_sl_len as (fun b hb => hc b (List.mem_cons_of_mem _ hb))
    simp only [lg_sl, List.flatMap_cons, ha] at *
    simp [ih]
theorem LH_entry {as : List Value} {n : Nat} {ls : Array Slot} (hc : ∀ a ∈ as, a.category = 1) (h : lv_has ls n (lv_args 0 as)) : LH ls n (ent as n) := by
  refine ⟨h.1, h.2.1, fun k v hk => ?_⟩
  have hv : as[k]? = some v := by
    unfold ent at hk
    by_cases hl : k < (as.map some).length
    · rw [List.getElem?_append_left hl, List.getElem?_map] at hk
      cases ha : as[k]? with
      | none => rw [ha] at hk; cases hk
      | some a => rw [ha] at hk; simp at hk; rw [hk]
    · rw [List.getElem?_append_right (by omega)] at hk
      have := List.mem_of_getElem? hk
      have := List.eq_of_mem_replicate this
      cases this
  have := h.2.2 _ (lv_args_in as 0 k v hc hv)
  simpa using this
set_option maxHeartbeats 4000000 in
theorem Con.of {Γ : Gx} {d : Nat} {M : Mth} {as : List Value} {w : Wd} {Q : Option Value → Wd → Prop} (own : String) (cc : ByteArray) (nL : Nat) (ret : Option FieldType) (lv : List (Option Value)) (hM : M = (M.1, cc, nL, ret)) (ho : M.1.cls = own) (hp : plainName M.1.cls = true) (hG : GOK Γ) (hc : ∀ a ∈ as, a.category = 1) (hn : as.length ≤ nL) (hlv : ent as nL = lv)
    (k : ∀ X : Mx, OKM Γ X own cc nL ret → GG Γ X d nL Q 0 lv [] w) : Con Γ d M as w Q := by
  obtain ⟨y, cc', nL', ret'⟩ := M
  obtain ⟨rfl, rfl, rfl⟩ : cc' = cc ∧ nL' = nL ∧ ret' = ret := by
    simp only [Prod.mk.injEq, true_and] at hM
    exact hM
  subst ho
  subst hlv
  refine Met.ofW (cc := cc') (maxL := nL') (ret := ret') hp rfl ?_
  intro p e s m args below meth c s₁ B hml hv
  obtain ⟨rfl, hP, hK, hE⟩ := hv
  have hown : s.vm.findClass y.cls = some m.cls := findClass_of_methodNamed B.named
  have hts := atoms_spec (ws := wsM (y, cc', nL', ret')) B.pre
  have hX : OKM Γ (p, e, s, m, as.toArray, below, meth, c) y.cls cc' nL' ret' := ⟨B.exec, B.bytes, hml, hown, fun w hw => hts w (List.mem_cons_of_mem _ hw), B.returns, B.notSynchronized, hK, hG, hE⟩
  have hl := lv_entry as (n := nL') (by rw [lg_sl_len as hc]; exact hn)
  rw [lg_entry_eq]
  exact k _ hX _ _ _ (LH_entry hc hl) hP va_S.rf
end
section
/-! ROWS of instructions over the frame -/
def okSt (lv : List (Option Value)) : Nat → Bool
  | 0 => true
  | j + 1 => match lv[j]? with
    | some (some v) => v.category == 1
    | _ => true
def prs (lv : List (Option Value)) : List (Nat × Value) := (List.range lv.length).filterMap fun k => (lv[k]?.join).map fun v => (k, v)
theorem mem_prs {lv : List (Option Value)} {k : Nat} {v : Value} : (k, v) ∈ prs lv ↔ lv[k]? = some (some v) := by
  unfold prs
  rw [List.mem_filterMap]
  constructor
  · rintro ⟨a, -, ha⟩
    cases h : lv[a]? with
    | none => rw [h] at ha; simp at ha
    | some o =>
      rw [h] at ha
      cases o with
      | none => simp at ha
      | some u =>
        simp at ha
        obtain ⟨rfl, rfl⟩ := ha
        exact h
  · intro h
    refine ⟨k, List.mem_range.mpr (List.getElem?_eq_some_iff.mp h).1, ?_⟩
    rw [h]
    rfl
theorem LH.has {ls : Array Slot} {nL : Nat} {lv : List (Option Value)} (h : LH ls nL lv) : lv_has ls nL (prs lv) :=
  ⟨h.1, h.2.1, fun q hq => h.2.2 q.1 q.2 (mem_prs.mp hq)⟩
theorem LH.put {ls : Array Slot} {nL i : Nat} {lv lv' : List (Option Value)} {v : Value} (h : lv_has ls nL ((i, v) :: (prs lv).filter (fun q => !(q.1 == i) && !(q.1 + 1 == i && q.2.category == 2)))) (hok : okSt lv i = true) (e : lv.set i (some v) = lv') : LH ls nL lv' := by
  subst e
  refine ⟨h.1, h.2.1, fun k u hk => ?_⟩
  by_cases hki : i = k
  · subst hki
    have hl := (List.getElem?_eq_some_iff.mp hk).1
    rw [List.length_set] at hl
    rw [List.getElem?_set_self hl] at hk
    cases hk
    exact h.2.2 (i, v) List.mem_cons_self
  · rw [List.getElem?_set_ne hki] at hk
    refine h.2.2 (k, u) (List.mem_cons_of_mem _ (List.mem_filter.mpr ⟨mem_prs.mpr hk, ?_⟩))
    have h1 : (k == i) = false := by simp; omega
    by_cases h2 : k + 1 = i
    · subst h2
      simp only [okSt, hk, beq_iff_eq] at hok
      simp [hok]
    · simp [h2]; omega
theorem LH.put2 {ls : Array Slot} {nL i : Nat} {lv lv' : List (Option Value)} {v : Value} (h : lv_has ls nL ((i, v) :: (prs lv).filter (fun q => !(q.1 == i) && (!(q.1 == i + 1) && !(q.1 + 1 == i && q.2.category == 2))))) (hok : okSt lv i = true) (e : (lv.set i (some v)).set (i + 1) none = lv') : LH ls nL lv' := by
  subst e
  refine ⟨h.1, h.2.1, fun k u hk => ?_⟩
  by_cases hk1 : i + 1 = k
  · subst hk1
    have hl := (List.getElem?_eq_some_iff.mp hk).1
    rw [List.length_set] at hl
    rw [List.getElem?_set_self hl] at hk
    cases hk
  rw [List.getElem?_set_ne hk1] at hk
  by_cases hki : i = k
  · subst hki
    have hl := (List.getElem?_eq_some_iff.mp hk).1
    rw [List.length_set] at hl
    rw [List.getElem?_set_self hl] at hk
    cases hk
    exact h.2.2 (i, v) List.mem_cons_self
  · rw [List.getElem?_set_ne hki] at hk
    refine h.2.2 (k, u) (List.mem_cons_of_mem _ (List.mem_filter.mpr ⟨mem_prs.mpr hk, ?_⟩))
    have h1 : (k == i) = false := by simp; omega
    have h3 : (k == i + 1) = false := by simp; omega
    by_cases h2 : k + 1 = i
    · subst h2
      simp only [okSt, hk, beq_iff_eq] at hok
      simp [hok]; omega
    · simp [h2]; omega
theorem gW_get {Γ : Gx} {w : Wd} {i : Nat} {sh : Sh} (h : (gS Γ)[i]? = some sh) : (gW Γ w)[i]? = some (gad Γ i, celE (gcA Γ) (gad Γ) w i sh) := by
  have := cels_get (cA := gcA Γ) (ad := gad Γ) (w := w) _ 0 i h
  rw [Nat.zero_add] at this
  exact this
theorem gW_set {Γ : Gx} {w w' : Wd} {i : Nat} {sh : Sh} (h : (gS Γ)[i]? = some sh) (hw : ∀ a, a ≠ i → w' a = w a) : (gW Γ w).set i (gad Γ i, celE (gcA Γ) (gad Γ) w' i sh) = gW Γ w' := by
  have := cels_set (cA := gcA Γ) (ad := gad Γ) (w := w) (w' := w') _ 0 i (fun a ha => hw a (by rw [Nat.zero_add] at ha; exact ha)) h
  rw [Nat.zero_add] at this
  exact this
/-- a call's words: of an own or another class's method, by its class's table -/
def CallD (M : Mth) (n : Nat) : Prop := Cond.initialized M.1.cls ∈ AW ∧ Cond.code M.1 M.2.1 M.2.2.1 M.2.2.2 ∈ AW ∧ (M.1.cls ≠ "java/lang/invoke/MethodHandle" ∧ M.1.cls ≠ "java/lang/invoke/VarHandle" ∧ (parseMethodDescriptor M.1.desc).map (fun d => d.parameters.length) = some n) ∧ M.2.2.1 ≤ 45
def CallV (own C : String) (idx : Nat) (M : Mth) (n : Nat) : Prop := Cond.methodLink own idx M.1 ∈ AW ∧ Cond.instanceMethod M.1 ∈ AW ∧ Cond.selects C M.1 M.1 ∈ AW ∧ CallD M n
def CallS (own : String) (idx : Nat) (M : Mth) (n : Nat) : Prop := Cond.methodLink own idx M.1 ∈ AW ∧ Cond.static M.1 ∈ AW ∧ CallD M n
def CallSN (M : Mth) (n : Nat) : Prop := Cond.static M.1 ∈ AW ∧ CallD M n
theorem wsM_good {M : Mth} (h : Cond.code M.1 M.2.1 M.2.2.1 M.2.2.2 ∈ AW) : GoodIn AW (wsM M) := by
  intro w hw
  rcases List.mem_cons.mp hw with rfl | hw
  · exact ⟨h, AW_good h⟩
  · exact ⟨hw, AW_good hw⟩
theorem Inv_blind {Γ : Gx} {w : Wd} {as : List Value} (hG : GOK Γ) : FrameBlind (va_Pc as (Inv Γ w)) := by
  intro a U g mk h
  obtain ⟨q0, qP, qK, qE⟩ := h
  exact ⟨q0, qP, va_K.moved (u := U) (U := U.calling g mk a) (Vm.Alike.refl U.vm) qK, hG.2.1 U _ qE rfl rfl⟩
section ROWS
variable {Γ : Gx} {X : Mx} {own : String} {cc : ByteArray} {nL d pc : Nat} {ret : Option FieldType} {Q : Option Value → Wd → Prop} {lv : List (Option Value)} {st rest : List Value} {w : Wd}
theorem GG.weak {lv2 : List (Option Value)} (e : ∀ (k : Nat) (v : Value), lv2[k]? = some (some v) → lv[k]? = some (some v)) (k : GG Γ X d nL Q pc lv2 st w) : GG Γ X d nL Q pc lv st w :=
  fun ls H locs hl hP hS => k ls H locs ⟨hl.1, hl.2.1, fun a v h => hl.2.2 a v (e a v h)⟩ hP hS
/-- locals that are looked at no more -/
def lvSub : List (Option Value) → List (Option Value) → Prop
  | [], _ => True
  | none :: a, _ :: b => lvSub a b
  | some u :: a, some v :: b => u = v ∧ lvSub a b
  | some _ :: _, none :: _ => False
  | none :: a, [] => lvSub a []
  | some _ :: _, [] => False
theorem lvSub_spec : ∀ (a b : List (Option Value)), lvSub a b → ∀ (k : Nat) (v : Value), a[k]? = some (some v) → b[k]? = some (some v)
  | [], _, _, k, v, h => by simp at h
  | none :: a, y :: b, hs, 0, v, h => by simp at h
  | none :: a, y :: b, hs, k + 1, v, h => by
    simp only [List.getElem?_cons_succ] at h ⊢
    exact lvSub_spec a b (by simpa [lvSub] using hs) k v h
  | some u :: a, some y :: b, hs, 0, v, h => by
    simp only [lvSub] at hs
    simp at h ⊢
    rw [← hs.1, h]
  | some u :: a, some y :: b, hs, k + 1, v, h => by
    simp only [lvSub] at hs
    simp only [List.getElem?_cons_succ] at h ⊢
    exact lvSub_spec a b hs.2 k v h
  | some u :: a, none :: b, hs, k, v, h => by simp [lvSub] at hs
  | none :: a, [], hs, 0, v, h => by simp at h
  | none :: a, [], hs, k + 1, v, h => by
    simp only [List.getElem?_cons_succ] at h
    have := lvSub_spec a [] (by simpa [lvSub] using hs) k v h
    simp at this
  | some u :: a, [], hs, k, v, h => by simp [lvSub] at hs
theorem GG.sub {lv2 : List (Option Value)} (e : lvSub lv2 lv) (k : GG Γ X d nL Q pc lv2 st w) : GG Γ X d nL Q pc lv st w := GG.weak (lvSub_spec _ _ e) k
theorem GG.atpc {pc2 : Nat} (e : pc2 = pc) (k : GG Γ X d nL Q pc2 lv st w) : GG Γ X d nL Q pc lv st w := e ▸ k
theorem G_iconst (hO : OKM Γ X own cc nL ret) {n : Int} {v : Int32} (hd : decode cc pc = .ok (.iconst n, 1)) (hv : Int32.ofInt n = v) (k : GG Γ X d nL Q (pc + 1) lv (.int v :: st) w) : GG Γ X d nL Q pc lv (st) w := fun ls H locs hl hP hS => lv_iconst hO.1 hO.2.1 hd hv (k ls H locs hl hP hS)
theorem G_bipush (hO : OKM Γ X own cc nL ret) {n : Int} {v : Int32} (hd : decode cc pc = .ok (.bipush n, 2)) (hv : (Int8.ofInt n).toInt32 = v) (k : GG Γ X d nL Q (pc + 2) lv (.int v :: st) w) : GG Γ X d nL Q pc lv (st) w := fun ls H locs hl hP hS => lv_bipush hO.1 hO.2.1 hd hv (k ls H locs hl hP hS)
theorem G_sipush (hO : OKM Γ X own cc nL ret) {n : Int} {v : Int32} (hd : decode cc pc = .ok (.sipush n, 3)) (hv : (Int16.ofInt n).toInt32 = v) (k : GG Γ X d nL Q (pc + 3) lv (.int v :: st) w) : GG Γ X d nL Q pc lv (st) w := fun ls H locs hl hP hS => lv_sipush hO.1 hO.2.1 hd hv (k ls H locs hl hP hS)
theorem G_lconst (hO : OKM Γ X own cc nL ret) {n : Fin 2} {v : Int64} (hd : decode cc pc = .ok (.lconst n, 1)) (hv : Int64.ofNat (n : Nat) = v) (k : GG Γ X d nL Q (pc + 1) lv (.long v :: st) w) : GG Γ X d nL Q pc lv (st) w := fun ls H locs hl hP hS => lv_lconst hO.1 hO.2.1 hd hv (k ls H locs hl hP hS)
theorem G_ldc (hO : OKM Γ X own cc nL ret) {idx : Nat} {v : Int32} (hd : decode cc pc = .ok (.ldc idx, 2)) (hv : Cond.constant own idx v ∈ AW) (k : GG Γ X d nL Q (pc + 2) lv (.int v :: st) w) : GG Γ X d nL Q pc lv st w := fun ls H locs hl hP hS => lv_ldc hO.1 hO.2.1 hO.2.2.2.1 (hO.2.2.2.2.1 _ hv) hd (k ls H locs hl hP hS)
theorem G_ldc_w (hO : OKM Γ X own cc nL ret) {idx : Nat} {v : Int32} (hd : decode cc pc = .ok (.ldc_w idx, 3)) (hv : Cond.constant own idx v ∈ AW) (k : GG Γ X d nL Q (pc + 3) lv (.int v :: st) w) : GG Γ X d nL Q pc lv st w := fun ls H locs hl hP hS => lv_ldcw hO.1 hO.2.1 hO.2.2.2.1 (hO.2.2.2.2.1 _ hv) hd (k ls H locs hl hP hS)
theorem G_ldc2_w (hO : OKM Γ X own cc nL ret) {idx : Nat} {v : Int64} (hd : decode cc pc = .ok (.ldc2_w idx, 3)) (hv : Cond.constantLong own idx v ∈ AW) (k : GG Γ X d nL Q (pc + 3) lv (.long v :: st) w) : GG Γ X d nL Q pc lv st w := fun ls H locs hl hP hS => lv_ldc2 hO.1 hO.2.1 hO.2.2.2.1 (hO.2.2.2.2.1 _ hv) hd (k ls H locs hl hP hS)
theorem G_iload_n (hO : OKM Γ X own cc nL ret) {q : Fin 4} {i : Nat} {x : Int32} (hd : decode cc pc = .ok (.iload_n q, 1)) (hi : (q : Nat) = i) (hx : lv[i]? = some (some (.int x))) (k : GG Γ X d nL Q (pc + 1) lv (.int x :: st) w) : GG Γ X d nL Q pc lv st w := fun ls H locs hl hP hS => lv_iload_n hO.1 hO.2.1 hd hi (hl.2.2 _ _ hx) (k ls H locs hl hP hS)
theorem G_iload (hO : OKM Γ X own cc nL ret) {i : Nat} {x : Int32} (hd : decode cc pc = .ok (.iload i, 2)) (hx : lv[i]? = some (some (.int x))) (k : GG Γ X d nL Q (pc + 2) lv (.int x :: st) w) : GG Γ X d nL Q pc lv st w := fun ls H locs hl hP hS => lv_iload hO.1 hO.2.1 hd (hl.2.2 _ _ hx) (k ls H locs hl hP hS)
theorem G_aload_n (hO : OKM Γ X own cc nL ret) {q : Fin 4} {i : Nat} {x : Nat} (hd : decode cc pc = .ok (.aload_n q, 1)) (hi : (q : Nat) = i) (hx : lv[i]? = some (some (.ref x))) (k : GG Γ X d nL Q (pc + 1) lv (.ref x :: st) w) : GG Γ X d nL Q pc lv st w := fun ls H locs hl hP hS => lv_aload_n hO.1 hO.2.1 hd hi (hl.2.2 _ _ hx) (k ls H locs hl hP hS)
theorem G_aload (hO : OKM Γ X own cc nL ret) {i : Nat} {x : Nat} (hd : decode cc pc = .ok (.aload i, 2)) (hx : lv[i]? = some (some (.ref x))) (k : GG Γ X d nL Q (pc + 2) lv (.ref x :: st) w) : GG Γ X d nL Q pc lv st w := fun ls H locs hl hP hS => lv_aload hO.1 hO.2.1 hd (hl.2.2 _ _ hx) (k ls H locs hl hP hS)
theorem G_lload_n (hO : OKM Γ X own cc nL ret) {q : Fin 4} {i : Nat} {x : Int64} (hd : decode cc pc = .ok (.lload_n q, 1)) (hi : (q : Nat) = i) (hx : lv[i]? = some (some (.long x))) (k : GG Γ X d nL Q (pc + 1) lv (.long x :: st) w) : GG Γ X d nL Q pc lv st w := fun ls H locs hl hP hS => lv_lload_n hO.1 hO.2.1 hd hi (hl.2.2 _ _ hx) (k ls H locs hl hP hS)
theorem G_lload (hO : OKM Γ X own cc nL ret) {i : Nat} {x : Int64} (hd : decode cc pc = .ok (.lload i, 2)) (hx : lv[i]? = some (some (.long x))) (k : GG Γ X d nL Q (pc + 2) lv (.long x :: st) w) : GG Γ X d nL Q pc lv st w := fun ls H locs hl hP hS => lv_lload hO.1 hO.2.1 hd (hl.2.2 _ _ hx) (k ls H locs hl hP hS)
theorem G_istore_n (hO : OKM Γ X own cc nL ret) {q : Fin 4} {i : Nat} {x : Int32} {lv2 : List (Option Value)} (hd : decode cc pc = .ok (.istore_n q, 1)) (hi : (q : Nat) = i) (hn : i < nL) (hok : okSt lv i = true) (he : lv.set i (some (.int x)) = lv2) (k : GG Γ X d nL Q (pc + 1) lv2 st w) : GG Γ X d nL Q pc lv (.int x :: st) w := fun ls H locs hl hP hS => lv_istore_n hO.1 hO.2.1 hd hi hl.has hn rfl (fun ls2 h2 => k ls2 H locs (LH.put h2 hok he) hP hS)
theorem G_istore (hO : OKM Γ X own cc nL ret) {i : Nat} {x : Int32} {lv2 : List (Option Value)} (hd : decode cc pc = .ok (.istore i, 2)) (hn : i < nL) (hok : okSt lv i = true) (he : lv.set i (some (.int x)) = lv2) (k : GG Γ X d nL Q (pc + 2) lv2 st w) : GG Γ X d nL Q pc lv (.int x :: st) w := fun ls H locs hl hP hS => lv_istore hO.1 hO.2.1 hd hl.has hn rfl (fun ls2 h2 => k ls2 H locs (LH.put h2 hok he) hP hS)
theorem G_astore_n (hO : OKM Γ X own cc nL ret) {q : Fin 4} {i : Nat} {x : Nat} {lv2 : List (Option Value)} (hd : decode cc pc = .ok (.astore_n q, 1)) (hi : (q : Nat) = i) (hn : i < nL) (hok : okSt lv i = true) (he : lv.set i (some (.ref x)) = lv2) (k : GG Γ X d nL Q (pc + 1) lv2 st w) : GG Γ X d nL Q pc lv (.ref x :: st) w := fun ls H locs hl hP hS => lv_astore_n hO.1 hO.2.1 hd hi hl.has hn rfl (fun ls2 h2 => k ls2 H locs (LH.put h2 hok he) hP hS)
theorem G_astore (hO : OKM Γ X own cc nL ret) {i : Nat} {x : Nat} {lv2 : List (Option Value)} (hd : decode cc pc = .ok (.astore i, 2)) (hn : i < nL) (hok : okSt lv i = true) (he : lv.set i (some (.ref x)) = lv2) (k : GG Γ X d nL Q (pc + 2) lv2 st w) : GG Γ X d nL Q pc lv (.ref x :: st) w := fun ls H locs hl hP hS => lv_astore hO.1 hO.2.1 hd hl.has hn rfl (fun ls2 h2 => k ls2 H locs (LH.put h2 hok he) hP hS)
theorem G_lstore (hO : OKM Γ X own cc nL ret) {i : Nat} {x : Int64} {lv2 : List (Option Value)} (hd : decode cc pc = .ok (.lstore i, 2)) (hn : i + 1 < nL) (hok : okSt lv i = true) (he : (lv.set i (some (.long x))).set (i + 1) none = lv2) (k : GG Γ X d nL Q (pc + 2) lv2 st w) : GG Γ X d nL Q pc lv (.long x :: st) w := fun ls H locs hl hP hS => lv_lstore hO.1 hO.2.1 hd hl.has hn rfl (fun ls2 h2 => k ls2 H locs (LH.put2 h2 hok he) hP hS)
theorem G_iinc (hO : OKM Γ X own cc nL ret) {i : Nat} {n : Int} {x v : Int32} {lv2 : List (Option Value)} (hd : decode cc pc = .ok (.iinc i n, 3)) (hx : lv[i]? = some (some (.int x))) (hv : x + Int32.ofInt n = v) (hn : i < nL) (hok : okSt lv i = true) (he : lv.set i (some (.int v)) = lv2) (k : GG Γ X d nL Q (pc + 3) lv2 st w) : GG Γ X d nL Q pc lv st w := fun ls H locs hl hP hS => by
  obtain ⟨q, hq⟩ := List.getElem?_of_mem (mem_prs.mpr hx)
  exact lv_iinc hO.1 hO.2.1 hd hl.has hq hv hn rfl (fun ls2 h2 => k ls2 H locs (LH.put h2 hok he) hP hS)
theorem G_iadd (hO : OKM Γ X own cc nL ret) {x y : Int32} (hd : decode cc pc = .ok (.iadd, 1)) (k : GG Γ X d nL Q (pc + 1) lv (.int (x + y) :: st) w) : GG Γ X d nL Q pc lv (.int y :: .int x :: st) w := fun ls H locs hl hP hS => lv_iadd hO.1 hO.2.1 hd  (k ls H locs hl hP hS)
theorem G_isub (hO : OKM Γ X own cc nL ret) {x y : Int32} (hd : decode cc pc = .ok (.isub, 1)) (k : GG Γ X d nL Q (pc + 1) lv (.int (x - y) :: st) w) : GG Γ X d nL Q pc lv (.int y :: .int x :: st) w := fun ls H locs hl hP hS => lv_isub hO.1 hO.2.1 hd  (k ls H locs hl hP hS)
theorem G_imul (hO : OKM Γ X own cc nL ret) {x y : Int32} (hd : decode cc pc = .ok (.imul, 1)) (k : GG Γ X d nL Q (pc + 1) lv (.int (x * y) :: st) w) : GG Γ X d nL Q pc lv (.int y :: .int x :: st) w := fun ls H locs hl hP hS => lv_imul hO.1 hO.2.1 hd  (k ls H locs hl hP hS)
theorem G_iand (hO : OKM Γ X own cc nL ret) {x y : Int32} (hd : decode cc pc = .ok (.iand, 1)) (k : GG Γ X d nL Q (pc + 1) lv (.int (x &&& y) :: st) w) : GG Γ X d nL Q pc lv (.int y :: .int x :: st) w := fun ls H locs hl hP hS => lv_iand hO.1 hO.2.1 hd  (k ls H locs hl hP hS)
theorem G_ior (hO : OKM Γ X own cc nL ret) {x y : Int32} (hd : decode cc pc = .ok (.ior, 1)) (k : GG Γ X d nL Q (pc + 1) lv (.int (x ||| y) :: st) w) : GG Γ X d nL Q pc lv (.int y :: .int x :: st) w := fun ls H locs hl hP hS => lv_ior hO.1 hO.2.1 hd  (k ls H locs hl hP hS)
theorem G_ixor (hO : OKM Γ X own cc nL ret) {x y : Int32} (hd : decode cc pc = .ok (.ixor, 1)) (k : GG Γ X d nL Q (pc + 1) lv (.int (x ^^^ y) :: st) w) : GG Γ X d nL Q pc lv (.int y :: .int x :: st) w := fun ls H locs hl hP hS => lv_ixor hO.1 hO.2.1 hd  (k ls H locs hl hP hS)
theorem G_idiv (hO : OKM Γ X own cc nL ret) {x y : Int32} (hd : decode cc pc = .ok (.idiv, 1)) (hne : ¬ y = 0) (k : GG Γ X d nL Q (pc + 1) lv (.int (x / y) :: st) w) : GG Γ X d nL Q pc lv (.int y :: .int x :: st) w := fun ls H locs hl hP hS => lv_idiv hO.1 hO.2.1 hd hne (k ls H locs hl hP hS)
theorem G_irem (hO : OKM Γ X own cc nL ret) {x y : Int32} (hd : decode cc pc = .ok (.irem, 1)) (hne : ¬ y = 0) (k : GG Γ X d nL Q (pc + 1) lv (.int (x - (x / y) * y) :: st) w) : GG Γ X d nL Q pc lv (.int y :: .int x :: st) w := fun ls H locs hl hP hS => lv_irem hO.1 hO.2.1 hd hne (k ls H locs hl hP hS)
theorem G_ineg (hO : OKM Γ X own cc nL ret) {x : Int32} (hd : decode cc pc = .ok (.ineg, 1)) (k : GG Γ X d nL Q (pc + 1) lv (.int (-x) :: st) w) : GG Γ X d nL Q pc lv (.int x :: st) w := fun ls H locs hl hP hS => lv_ineg hO.1 hO.2.1 hd  (k ls H locs hl hP hS)
theorem G_ishl (hO : OKM Γ X own cc nL ret) {x y : Int32} (hd : decode cc pc = .ok (.ishl, 1)) (k : GG Γ X d nL Q (pc + 1) lv (.int (x <<< (y &&& 31)) :: st) w) : GG Γ X d nL Q pc lv (.int y :: .int x :: st) w := fun ls H locs hl hP hS => lv_ishl hO.1 hO.2.1 hd  (k ls H locs hl hP hS)
theorem G_ishr (hO : OKM Γ X own cc nL ret) {x y : Int32} (hd : decode cc pc = .ok (.ishr, 1)) (k : GG Γ X d nL Q (pc + 1) lv (.int (x >>> (y &&& 31)) :: st) w) : GG Γ X d nL Q pc lv (.int y :: .int x :: st) w := fun ls H locs hl hP hS => lv_ishr hO.1 hO.2.1 hd  (k ls H locs hl hP hS)
theorem G_iushr (hO : OKM Γ X own cc nL ret) {x y : Int32} (hd : decode cc pc = .ok (.iushr, 1)) (k : GG Γ X d nL Q (pc + 1) lv (.int ((x.toUInt32 >>> (y.toUInt32 &&& Int32.toUInt32 31)).toInt32) :: st) w) : GG Γ X d nL Q pc lv (.int y :: .int x :: st) w := fun ls H locs hl hP hS => lv_iushr hO.1 hO.2.1 hd rfl (k ls H locs hl hP hS)
theorem G_ladd (hO : OKM Γ X own cc nL ret) {x y : Int64} (hd : decode cc pc = .ok (.ladd, 1)) (k : GG Γ X d nL Q (pc + 1) lv (.long (x + y) :: st) w) : GG Γ X d nL Q pc lv (.long y :: .long x :: st) w := fun ls H locs hl hP hS => lv_ladd hO.1 hO.2.1 hd  (k ls H locs hl hP hS)
theorem G_lsub (hO : OKM Γ X own cc nL ret) {x y : Int64} (hd : decode cc pc = .ok (.lsub, 1)) (k : GG Γ X d nL Q (pc + 1) lv (.long (x - y) :: st) w) : GG Γ X d nL Q pc lv (.long y :: .long x :: st) w := fun ls H locs hl hP hS => lv_lsub hO.1 hO.2.1 hd  (k ls H locs hl hP hS)
theorem G_lmul (hO : OKM Γ X own cc nL ret) {x y : Int64} (hd : decode cc pc = .ok (.lmul, 1)) (k : GG Γ X d nL Q (pc + 1) lv (.long (x * y) :: st) w) : GG Γ X d nL Q pc lv (.long y :: .long x :: st) w := fun ls H locs hl hP hS => lv_lmul hO.1 hO.2.1 hd  (k ls H locs hl hP hS)
theorem G_i2l (hO : OKM Γ X own cc nL ret) {x : Int32} (hd : decode cc pc = .ok (.i2l, 1)) (k : GG Γ X d nL Q (pc + 1) lv (.long x.toInt64 :: st) w) : GG Γ X d nL Q pc lv (.int x :: st) w := fun ls H locs hl hP hS => lv_i2l hO.1 hO.2.1 hd rfl (k ls H locs hl hP hS)
theorem G_l2i (hO : OKM Γ X own cc nL ret) {x : Int64} (hd : decode cc pc = .ok (.l2i, 1)) (k : GG Γ X d nL Q (pc + 1) lv (.int x.toInt32 :: st) w) : GG Γ X d nL Q pc lv (.long x :: st) w := fun ls H locs hl hP hS => lv_l2i hO.1 hO.2.1 hd rfl (k ls H locs hl hP hS)
theorem G_i2b (hO : OKM Γ X own cc nL ret) {x : Int32} (hd : decode cc pc = .ok (.i2b, 1)) (k : GG Γ X d nL Q (pc + 1) lv (.int x.toInt8.toInt32 :: st) w) : GG Γ X d nL Q pc lv (.int x :: st) w := fun ls H locs hl hP hS => lv_i2b hO.1 hO.2.1 hd rfl (k ls H locs hl hP hS)
theorem G_i2s (hO : OKM Γ X own cc nL ret) {x : Int32} (hd : decode cc pc = .ok (.i2s, 1)) (k : GG Γ X d nL Q (pc + 1) lv (.int x.toInt16.toInt32 :: st) w) : GG Γ X d nL Q pc lv (.int x :: st) w := fun ls H locs hl hP hS => lv_i2s hO.1 hO.2.1 hd rfl (k ls H locs hl hP hS)
theorem G_i2c (hO : OKM Γ X own cc nL ret) {x : Int32} (hd : decode cc pc = .ok (.i2c, 1)) (k : GG Γ X d nL Q (pc + 1) lv (.int (x.toUInt32 % 65536).toInt32 :: st) w) : GG Γ X d nL Q pc lv (.int x :: st) w := fun ls H locs hl hP hS => lv_i2c hO.1 hO.2.1 hd rfl (k ls H locs hl hP hS)
theorem G_lcmp (hO : OKM Γ X own cc nL ret) {x y : Int64} (hd : decode cc pc = .ok (.lcmp, 1)) (k : GG Γ X d nL Q (pc + 1) lv (.int (lg_cmp x y) :: st) w) : GG Γ X d nL Q pc lv (.long y :: .long x :: st) w := fun ls H locs hl hP hS => W.lcmp hO.1 hO.2.1 hd  (k ls H locs hl hP hS)
theorem G_dup (hO : OKM Γ X own cc nL ret) {va : Value} (hd : decode cc pc = .ok (.dup, 1)) (hva : va.category = 1) (k : GG Γ X d nL Q (pc + 1) lv (va :: va :: st) w) : GG Γ X d nL Q pc lv (va :: st) w := fun ls H locs hl hP hS => lv_dup hO.1 hO.2.1 hd hva (k ls H locs hl hP hS)
theorem G_pop (hO : OKM Γ X own cc nL ret) {va : Value} (hd : decode cc pc = .ok (.pop, 1)) (hva : va.category = 1) (k : GG Γ X d nL Q (pc + 1) lv (st) w) : GG Γ X d nL Q pc lv (va :: st) w := fun ls H locs hl hP hS => lv_pop hO.1 hO.2.1 hd hva (k ls H locs hl hP hS)
theorem G_dup_x1 (hO : OKM Γ X own cc nL ret) {va vb : Value} (hd : decode cc pc = .ok (.dup_x1, 1)) (hva : va.category = 1) (hvb : vb.category = 1) (k : GG Γ X d nL Q (pc + 1) lv (va :: vb :: va :: st) w) : GG Γ X d nL Q pc lv (va :: vb :: st) w := fun ls H locs hl hP hS => lv_dup_x1 hO.1 hO.2.1 hd hva hvb (k ls H locs hl hP hS)
theorem G_dup2 (hO : OKM Γ X own cc nL ret) {va vb : Value} (hd : decode cc pc = .ok (.dup2, 1)) (hva : va.category = 1) (hvb : vb.category = 1) (k : GG Γ X d nL Q (pc + 1) lv (va :: vb :: va :: vb :: st) w) : GG Γ X d nL Q pc lv (va :: vb :: st) w := fun ls H locs hl hP hS => lv_dup2_11 hO.1 hO.2.1 hd hva hvb (k ls H locs hl hP hS)
theorem G_if_eq (hO : OKM Γ X own cc nL ret) {x : Int32} {off : Int} {tgt : Nat} (hd : decode cc pc = .ok (.ifCond .eq off, 3)) (ht : (pc : Int) + off = (tgt : Int)) (kt : x = 0 → GG Γ X d nL Q tgt lv st w) (kf : ¬ x = 0 → GG Γ X d nL Q (pc + 3) lv st w) : GG Γ X d nL Q pc lv (.int x :: st) w := fun ls H locs hl hP hS => lv_if_eq hO.1 hO.2.1 hd ht (fun h => kt h ls H locs hl hP hS) (fun h => kf h ls H locs hl hP hS)
theorem G_icmp_eq (hO : OKM Γ X own cc nL ret) {x y : Int32} {off : Int} {tgt : Nat} (hd : decode cc pc = .ok (.if_icmp .eq off, 3)) (ht : (pc : Int) + off = (tgt : Int)) (kt : x = y → GG Γ X d nL Q tgt lv st w) (kf : ¬ x = y → GG Γ X d nL Q (pc + 3) lv st w) : GG Γ X d nL Q pc lv (.int y :: .int x :: st) w := fun ls H locs hl hP hS => lv_icmp_eq hO.1 hO.2.1 hd ht (fun h => kt h ls H locs hl hP hS) (fun h => kf h ls H locs hl hP hS)
theorem G_if_ne (hO : OKM Γ X own cc nL ret) {x : Int32} {off : Int} {tgt : Nat} (hd : decode cc pc = .ok (.ifCond .ne off, 3)) (ht : (pc : Int) + off = (tgt : Int)) (kt : ¬ x = 0 → GG Γ X d nL Q tgt lv st w) (kf : x = 0 → GG Γ X d nL Q (pc + 3) lv st w) : GG Γ X d nL Q pc lv (.int x :: st) w := fun ls H locs hl hP hS => lv_if_ne hO.1 hO.2.1 hd ht (fun h => kt h ls H locs hl hP hS) (fun h => kf h ls H locs hl hP hS)
theorem G_icmp_ne (hO : OKM Γ X own cc nL ret) {x y : Int32} {off : Int} {tgt : Nat} (hd : decode cc pc = .ok (.if_icmp .ne off, 3)) (ht : (pc : Int) + off = (tgt : Int)) (kt : ¬ x = y → GG Γ X d nL Q tgt lv st w) (kf : x = y → GG Γ X d nL Q (pc + 3) lv st w) : GG Γ X d nL Q pc lv (.int y :: .int x :: st) w := fun ls H locs hl hP hS => lv_icmp_ne hO.1 hO.2.1 hd ht (fun h => kt h ls H locs hl hP hS) (fun h => kf h ls H locs hl hP hS)
theorem G_if_lt (hO : OKM Γ X own cc nL ret) {x : Int32} {off : Int} {tgt : Nat} (hd : decode cc pc = .ok (.ifCond .lt off, 3)) (ht : (pc : Int) + off = (tgt : Int)) (kt : x < 0 → GG Γ X d nL Q tgt lv st w) (kf : ¬ x < 0 → GG Γ X d nL Q (pc + 3) lv st w) : GG Γ X d nL Q pc lv (.int x :: st) w := fun ls H locs hl hP hS => lv_if_lt hO.1 hO.2.1 hd ht (fun h => kt h ls H locs hl hP hS) (fun h => kf h ls H locs hl hP hS)
theorem G_icmp_lt (hO : OKM Γ X own cc nL ret) {x y : Int32} {off : Int} {tgt : Nat} (hd : decode cc pc = .ok (.if_icmp .lt off, 3)) (ht : (pc : Int) + off = (tgt : Int)) (kt : x < y → GG Γ X d nL Q tgt lv st w) (kf : ¬ x < y → GG Γ X d nL Q (pc + 3) lv st w) : GG Γ X d nL Q pc lv (.int y :: .int x :: st) w := fun ls H locs hl hP hS => lv_icmp_lt hO.1 hO.2.1 hd ht (fun h => kt h ls H locs hl hP hS) (fun h => kf h ls H locs hl hP hS)
theorem G_if_ge (hO : OKM Γ X own cc nL ret) {x : Int32} {off : Int} {tgt : Nat} (hd : decode cc pc = .ok (.ifCond .ge off, 3)) (ht : (pc : Int) + off = (tgt : Int)) (kt : 0 ≤ x → GG Γ X d nL Q tgt lv st w) (kf : ¬ 0 ≤ x → GG Γ X d nL Q (pc + 3) lv st w) : GG Γ X d nL Q pc lv (.int x :: st) w := fun ls H locs hl hP hS => lv_if_ge hO.1 hO.2.1 hd ht (fun h => kt h ls H locs hl hP hS) (fun h => kf h ls H locs hl hP hS)
theorem G_icmp_ge (hO : OKM Γ X own cc nL ret) {x y : Int32} {off : Int} {tgt : Nat} (hd : decode cc pc = .ok (.if_icmp .ge off, 3)) (ht : (pc : Int) + off = (tgt : Int)) (kt : y ≤ x → GG Γ X d nL Q tgt lv st w) (kf : ¬ y ≤ x → GG Γ X d nL Q (pc + 3) lv st w) : GG Γ X d nL Q pc lv (.int y :: .int x :: st) w := fun ls H locs hl hP hS => lv_icmp_ge hO.1 hO.2.1 hd ht (fun h => kt h ls H locs hl hP hS) (fun h => kf h ls H locs hl hP hS)
theorem G_if_gt (hO : OKM Γ X own cc nL ret) {x : Int32} {off : Int} {tgt : Nat} (hd : decode cc pc = .ok (.ifCond .gt off, 3)) (ht : (pc : Int) + off = (tgt : Int)) (kt : 0 < x → GG Γ X d nL Q tgt lv st w) (kf : ¬ 0 < x → GG Γ X d nL Q (pc + 3) lv st w) : GG Γ X d nL Q pc lv (.int x :: st) w := fun ls H locs hl hP hS => lv_if_gt hO.1 hO.2.1 hd ht (fun h => kt h ls H locs hl hP hS) (fun h => kf h ls H locs hl hP hS)
theorem G_icmp_gt (hO : OKM Γ X own cc nL ret) {x y : Int32} {off : Int} {tgt : Nat} (hd : decode cc pc = .ok (.if_icmp .gt off, 3)) (ht : (pc : Int) + off = (tgt : Int)) (kt : y < x → GG Γ X d nL Q tgt lv st w) (kf : ¬ y < x → GG Γ X d nL Q (pc + 3) lv st w) : GG Γ X d nL Q pc lv (.int y :: .int x :: st) w := fun ls H locs hl hP hS => lv_icmp_gt hO.1 hO.2.1 hd ht (fun h => kt h ls H locs hl hP hS) (fun h => kf h ls H locs hl hP hS)
theorem G_if_le (hO : OKM Γ X own cc nL ret) {x : Int32} {off : Int} {tgt : Nat} (hd : decode cc pc = .ok (.ifCond .le off, 3)) (ht : (pc : Int) + off = (tgt : Int)) (kt : x ≤ 0 → GG Γ X d nL Q tgt lv st w) (kf : ¬ x ≤ 0 → GG Γ X d nL Q (pc + 3) lv st w) : GG Γ X d nL Q pc lv (.int x :: st) w := fun ls H locs hl hP hS => lv_if_le hO.1 hO.2.1 hd ht (fun h => kt h ls H locs hl hP hS) (fun h => kf h ls H locs hl hP hS)
theorem G_icmp_le (hO : OKM Γ X own cc nL ret) {x y : Int32} {off : Int} {tgt : Nat} (hd : decode cc pc = .ok (.if_icmp .le off, 3)) (ht : (pc : Int) + off = (tgt : Int)) (kt : x ≤ y → GG Γ X d nL Q tgt lv st w) (kf : ¬ x ≤ y → GG Γ X d nL Q (pc + 3) lv st w) : GG Γ X d nL Q pc lv (.int y :: .int x :: st) w := fun ls H locs hl hP hS => lv_icmp_le hO.1 hO.2.1 hd ht (fun h => kt h ls H locs hl hP hS) (fun h => kf h ls H locs hl hP hS)
theorem G_goto (hO : OKM Γ X own cc nL ret) {off : Int} {tgt : Nat} (hd : decode cc pc = .ok (.goto off, 3)) (ht : (pc : Int) + off = (tgt : Int)) (k : GG Γ X d nL Q tgt lv st w) : GG Γ X d nL Q pc lv st w := fun ls H locs hl hP hS => lv_goto hO.1 hO.2.1 hd ht (k ls H locs hl hP hS)
theorem G_table (hO : OKM Γ X own cc nL ret) {dflt lo hi : Int} {offs : Array Int} {len tgt : Nat} {x : Int32} (hd : decode cc pc = .ok (.tableswitch dflt lo hi offs, len)) (hsz : hi - lo + 1 = (offs.size : Int)) (ht : (pc : Int) + dflt = (tgt : Int))
    (kin : ∀ (j : Nat) (off : Int), offs[j]? = some off → x.toInt = lo + j → ∀ t : Nat, (pc : Int) + off = (t : Int) → GG Γ X d nL Q t lv st w) (kpos : ∀ (j : Nat) (off : Int), offs[j]? = some off → 0 ≤ (pc : Int) + off) (kout : (x.toInt < lo ∨ hi < x.toInt) → GG Γ X d nL Q tgt lv st w) : GG Γ X d nL Q pc lv (.int x :: st) w := fun ls H locs hl hP hS => by
  by_cases h : x.toInt < lo ∨ hi < x.toInt
  · exact lv_tableOut hO.1 hO.2.1 hd h ht (kout h ls H locs hl hP hS)
  · have h1 : ¬ x.toInt < lo := fun q => h (Or.inl q)
    have h2 : ¬ hi < x.toInt := fun q => h (Or.inr q)
    have hj : (x.toInt - lo).toNat < offs.size := by omega
    have ho := Array.getElem?_eq_getElem hj
    have hp := kpos _ _ ho
    exact lv_tableIn hO.1 hO.2.1 hd h1 h2 ho (tgt := ((pc : Int) + offs[(x.toInt - lo).toNat]).toNat) (by omega) (kin _ _ ho (by omega) _ (by omega) ls H locs hl hP hS)
theorem offset_in {x : Int} {dflt : Int} : ∀ (ps : List (Int × Int)), (∃ q ∈ ps, x = q.1 ∧ Op.lookupswitch.offset ps dflt x = q.2) ∨ ((∀ q ∈ ps, ¬ x = q.1) ∧ Op.lookupswitch.offset ps dflt x = dflt)
  | [] => Or.inr ⟨fun q h => by simp at h, by simp [Op.lookupswitch.offset]⟩
  | (a, o) :: r => by
    rw [Op.lookupswitch.offset_cons]
    by_cases h : a = x
    · exact Or.inl ⟨(a, o), List.mem_cons_self, h.symm, by rw [if_pos h]⟩
    · rw [if_neg h]
      rcases offset_in r with ⟨q, h1, h2, h3⟩ | ⟨h1, h2⟩
      · exact Or.inl ⟨q, List.mem_cons_of_mem _ h1, h2, h3⟩
      · refine Or.inr ⟨fun q hq => ?_, h2⟩
        rcases List.mem_cons.mp hq with rfl | hq
        · exact fun e => h e.symm
        · exact h1 q hq
theorem G_lookup (hO : OKM Γ X own cc nL ret) {dflt : Int} {ps : Array (Int × Int)} {len tgt : Nat} {x : Int32} (hd : decode cc pc = .ok (.lookupswitch dflt ps, len)) (hp : (ps.toList.zip (ps.toList.drop 1)).all (fun (a, next) => a.1 < next.1) = true) (ht : (pc : Int) + dflt = (tgt : Int))
    (kin : ∀ q ∈ ps.toList, x.toInt = q.1 → ∀ t : Nat, (pc : Int) + q.2 = (t : Int) → GG Γ X d nL Q t lv st w) (kpos : ∀ q ∈ ps.toList, 0 ≤ (pc : Int) + q.2) (kout : (∀ q ∈ ps.toList, ¬ x.toInt = q.1) → GG Γ X d nL Q tgt lv st w) : GG Γ X d nL Q pc lv (.int x :: st) w := fun ls H locs hl hP hS => by
  rcases offset_in (x := x.toInt) (dflt := dflt) ps.toList with ⟨q, h1, h2, h3⟩ | ⟨h1, h2⟩
  · have := kpos q h1
    exact lv_lookup hO.1 hO.2.1 hd hp h3 (tgt := ((pc : Int) + q.2).toNat) (by omega) (kin q h1 h2 _ (by omega) ls H locs hl hP hS)
  · exact lv_lookup hO.1 hO.2.1 hd hp h2 ht (kout h1 ls H locs hl hP hS)
theorem G_iaload (hO : OKM Γ X own cc nL ret) {i n : Nat} {j : Int32} (hd : decode cc pc = .ok (.iaload, 1)) (hs : (gS Γ)[i]? = some (.inl (0, n, []))) (hin : vp_in j n) (k : GG Γ X d nL Q (pc + 1) lv (.int (w i j.toNatClampNeg) :: st) w) : GG Γ X d nL Q pc lv (.int j :: .ref (gad Γ i) :: st) w := fun ls H locs hl hP hS =>
  va_iald hO.1 hO.2.1 hO.2.2.2.2.2.2.2.1 hP i 0 (f := w i) (gW_get hs) rfl hin hd (k ls H locs hl hP hS)
theorem G_baload (hO : OKM Γ X own cc nL ret) {i n : Nat} {j : Int32} (hd : decode cc pc = .ok (.baload, 1)) (hs : (gS Γ)[i]? = some (.inl (1, n, []))) (hin : vp_in j n) (k : GG Γ X d nL Q (pc + 1) lv (.int (w i j.toNatClampNeg) :: st) w) : GG Γ X d nL Q pc lv (.int j :: .ref (gad Γ i) :: st) w := fun ls H locs hl hP hS =>
  va_zald hO.1 hO.2.1 hO.2.2.2.2.2.2.2.1 hP i 1 (f := w i) (gW_get hs) rfl hin hd (k ls H locs hl hP hS)
theorem G_iastore (hO : OKM Γ X own cc nL ret) {i n : Nat} {j x : Int32} (hd : decode cc pc = .ok (.iastore, 1)) (hs : (gS Γ)[i]? = some (.inl (0, n, []))) (hin : vp_in j n) (k : GG Γ X d nL Q (pc + 1) lv st (wset w i j.toNatClampNeg x)) : GG Γ X d nL Q pc lv (.int x :: .int j :: .ref (gad Γ i) :: st) w := fun ls H locs hl hP hS =>
  va_iast hO.1 hO.2.1 hO.2.2.2.2.2.2.2.1 hP (gW_D hO.2.2.2.2.2.2.2.2.1 w) hS i 0 (f := w i) (gW_get hs) rfl hin hd (fun H1 locs1 hP1 _ hS1 => k ls H1 locs1 hl (by
    have e := gW_set (w := w) (w' := wset w i j.toNatClampNeg x) hs (fun a ha => wset_off w i _ a x ha)
    rw [← e]
    simp only [celE, wset_row]
    exact hP1) hS1)
theorem G_bastore (hO : OKM Γ X own cc nL ret) {i n : Nat} {j x : Int32} (hd : decode cc pc = .ok (.bastore, 1)) (hs : (gS Γ)[i]? = some (.inl (1, n, []))) (hin : vp_in j n) (hb : x &&& 1 = x) (k : GG Γ X d nL Q (pc + 1) lv st (wset w i j.toNatClampNeg x)) : GG Γ X d nL Q pc lv (.int x :: .int j :: .ref (gad Γ i) :: st) w := fun ls H locs hl hP hS =>
  va_zast hO.1 hO.2.1 hO.2.2.2.2.2.2.2.1 hP (gW_D hO.2.2.2.2.2.2.2.2.1 w) hS i 1 (f := w i) (gW_get hs) rfl hin hd (fun H1 locs1 hP1 _ hS1 => k ls H1 locs1 hl (by
    have e := gW_set (w := w) (w' := wset w i j.toNatClampNeg x) hs (fun a ha => wset_off w i _ a x ha)
    rw [← e]
    simp only [celE, wset_row]
    have en : vp_nar .boolean x = x := by simp [vp_nar, narrow, hb]
    rw [en] at hP1
    exact hP1) hS1)
theorem G_aaload (hO : OKM Γ X own cc nL ret) {i t n r : Nat} {rs : List Nat} {j : Int32} {C : String} (hd : decode cc pc = .ok (.aaload, 1)) (hs : (gS Γ)[i]? = some (.inl (t, n, r :: rs))) (hC : (gTys (gcA Γ))[t]? = some (gcA Γ t, .object C)) (hin : vp_in j n) (k : GG Γ X d nL Q (pc + 1) lv (.ref (gad Γ (rfa (r :: rs) j.toNatClampNeg)) :: st) w) : GG Γ X d nL Q pc lv (.int j :: .ref (gad Γ i) :: st) w := fun ls H locs hl hP hS =>
  va_aldq hO.1 hO.2.1 hO.2.2.2.2.2.2.2.1 hP i t (gW_get hs) hC hin hd (k ls H locs hl hP hS)
theorem G_alen (hO : OKM Γ X own cc nL ret) {i t n : Nat} {ty : FieldType} {v : Int32} (hd : decode cc pc = .ok (.arraylength, 1)) (hs : (gS Γ)[i]? = some (.inl (t, n, []))) (hC : (gTys (gcA Γ))[t]? = some (gcA Γ t, ty)) (hv : Int32.ofNat n = v) (k : GG Γ X d nL Q (pc + 1) lv (.int v :: st) w) : GG Γ X d nL Q pc lv (.ref (gad Γ i) :: st) w := fun ls H locs hl hP hS =>
  va_alen hO.1 hO.2.1 hO.2.2.2.2.2.2.2.1 hP i t (gW_get hs) hC hv hd (k ls H locs hl hP hS)
theorem G_alenr (hO : OKM Γ X own cc nL ret) {i t n r : Nat} {rs : List Nat} {ty : FieldType} {v : Int32} (hd : decode cc pc = .ok (.arraylength, 1)) (hs : (gS Γ)[i]? = some (.inl (t, n, r :: rs))) (hC : (gTys (gcA Γ))[t]? = some (gcA Γ t, ty)) (hv : Int32.ofNat n = v) (k : GG Γ X d nL Q (pc + 1) lv (.int v :: st) w) : GG Γ X d nL Q pc lv (.ref (gad Γ i) :: st) w := fun ls H locs hl hP hS =>
  va_alen hO.1 hO.2.1 hO.2.2.2.2.2.2.2.1 hP i t (gW_get hs) hC hv hd (k ls H locs hl hP hS)
theorem G_get (hO : OKM Γ X own cc nL ret) {i ci N idx fk : Nat} {fks : List Nat} {C : String} {T : u_T} {v : Value} (hd : decode cc pc = .ok (.getfield idx, 3)) (kk : Nat) (hs : (gS Γ)[i]? = some (.inr (ci, fks))) (hc : vwCl[ci]? = some (C, T, N)) (hin : ∀ w ∈ u_ws C T N, w ∈ AW) (hk : kk < N) (hlk : Cond.fieldLink own idx (T kk).1 (T kk).2.1 (T kk).2.2.1 ∈ AW) (hf : fks[kk]? = some fk) (hv : fvl (gad Γ) w i kk fk = v) (k : GG Γ X d nL Q (pc + 3) lv (v :: st) w) : GG Γ X d nL Q pc lv (.ref (gad Γ i) :: st) w := fun ls H locs hl hP hS =>
  va_get hO.1 hO.2.1 hO.2.2.2.2.1 hin hO.2.2.2.1 hO.2.2.2.2.2.2.2.1 hP i (gW_get hs) hc kk hk (hO.2.2.2.2.1 _ hlk) (fun _ h => h) (by rw [flds_get fks 0 kk hf, Nat.zero_add, hv]) hd (k ls H locs hl hP hS)
theorem G_put (hO : OKM Γ X own cc nL ret) {i ci N idx fk : Nat} {fks : List Nat} {C : String} {T : u_T} {x : Int32} {v : Value} {ty : FieldType} (hd : decode cc pc = .ok (.putfield idx, 3)) (ty0 : Nat → FieldType) (kk : Nat) (hs : (gS Γ)[i]? = some (.inr (ci, fks))) (hc : vwCl[ci]? = some (C, T, N)) (hin : ∀ w ∈ u_ws C T N, w ∈ AW) (hty : ∀ k, k < N → parseFieldDescriptor (T k).2.2.1 = some (ty0 k)) (hnm : ∀ a, a < N → ∀ b, b < N → a ≠ b → (T a).2.1 ≠ (T b).2.1) (hk : kk < N) (hlk : Cond.fieldLink own idx (T kk).1 (T kk).2.1 (T kk).2.2.1 ∈ AW) (hfin : (T kk).2.2.2 = false) (he : ty0 kk = ty) (hn : narrow ty v = v) (hfit : fits ty v = true) (hf : fks[kk]? = some fk) (hv : ∀ j : Nat, fvl (gad Γ) (wset w i j x) i j fk = v) (k : GG Γ X d nL Q (pc + 3) lv st (wset w i kk x)) : GG Γ X d nL Q pc lv (v :: .ref (gad Γ i) :: st) w := fun ls H locs hl hP hS => by
  have hlen : kk < (flds (gad Γ) w i 0 fks).length := by rw [flds_len]; exact (List.getElem?_eq_some_iff.mp hf).1
  refine va_put hO.1 hO.2.1 hO.2.2.2.2.1 hin ty0 hty hnm hO.2.2.2.1 hO.2.2.2.2.2.2.2.1 hP (gW_D hO.2.2.2.2.2.2.2.2.1 w) hS i (gW_get hs) hc kk hk (hO.2.2.2.2.1 _ hlk) (fun _ h => h) hfin (hd := by rw [hty kk hk, he]) hn hfit hlen hd (fun H1 locs1 hP1 _ hS1 => k ls H1 locs1 hl ?_ hS1)
  have e := gW_set (w := w) (w' := wset w i kk x) hs (fun a ha => wset_off w i _ a x ha)
  rw [← e]
  have e2 := flds_set (ad := gad Γ) (w := w) (i := i) (v := x) v hv fks 0 kk hf
  rw [Nat.zero_add] at e2
  simp only [celE, ← e2]
  exact hP1
theorem run_go {H : Heap} {ls : Array Slot} {locs : List Loc} {st0 : List Value} {a : Array Value} {Q' : Option Value → Wd → Prop} (hO : OKM Γ X own cc nL ret) (hr : va_Run (xp X) (Gl Γ) (xe X) (rmd d) (xs X) (xm X) (xa X) (xb X) (xt X) (xc X) H locs 0 0 0 0 (F0 (xm X) pc ls st0) rest (QG Γ Q' a) (gA Γ))
    (hl : LH ls nL lv) (hS : va_S (gA Γ) (xs X).heap H locs) (k : ∀ r w', Q' r w' → GG Γ X d nL Q (pc + 3) lv (r.toList ++ rest) w') : W (xp X) (Gl Γ) (xe X) (rmd d) (xs X) (xm X) (xa X) (xb X) (xt X) (xc X) H locs 0 0 (MQ (xb X) (QG Γ Q) (xa X) (xs X) 0 0 (gA Γ)) (F0 (xm X) pc ls st0) := by
  intro T hT Y
  obtain ⟨v, st₀, t, T', L, h0, X', hL, e1, e2, ⟨⟨r, w', hv, hq, hP', -⟩, hz, hk⟩, stp⟩ := hr T hT Y
  cases hv
  rw [h0] at hz hk
  obtain ⟨t2, a1, b1⟩ := k v w' hq ls T'.heap (locs ++ L) hl (by rw [e1]; exact hP')
    ⟨Nat.le_trans hS.1 (by rw [e1]; exact hz), fun q h1 h2 => by rw [e1, hk q (Nat.lt_of_lt_of_le h1 hS.1) h2]; exact hS.2.1 q h1 h2, fun q hq => by
      rcases List.mem_append.mp hq with h | h
      · exact hS.2.2 q h
      · exact hL q h⟩ T' rfl X'
  exact ⟨t2, stp t2 a1, b1⟩
theorem Inv_here {H : Heap} {locs : List Loc} (hO : OKM Γ X own cc nL ret) (hP : va_P (gD Γ) vwCl (gW Γ w) H) (hS : va_S (gA Γ) (xs X).heap H locs) {U : State} (hU : U.heap = H) (hW : (xs X).WarmedH U.vm) : Inv Γ w U := by
  obtain ⟨-, -, -, -, -, -, -, hK, hG, hE⟩ := hO
  exact ⟨by rw [hU]; exact hP, va_K.moved hW.alike hK, hG.2.2 (xs X) U hE hW (by rw [hU]; exact hS.1) (by rw [hU]; exact hS.2.1)⟩
theorem callD_B {M : Mth} {n idx : Nat} (hO : OKM Γ X own cc nL ret) (hw : CallD M n) (hl : Cond.methodLink own idx M.1 ∈ AW) : CallB (rmd (d + 1)) (xs X) (xa X) own idx M.1 M.2.1 M.2.2.1 M.2.2.2 (wsM M) (rmd d) 0 0 n := by
  obtain ⟨h1, h2, h3, h4⟩ := hw
  refine callB_of n hO.2.2.2.2.1 (wsM_good h2) rfl rfl rfl (hO.2.2.2.2.1 _ h1) (hO.2.2.2.2.1 _ hl) h3 ⟨Nat.le_refl _, ?_⟩
  show 8 + (M.2.2.1 + 11) + 64 * d ≤ 64 * (d + 1)
  omega
theorem G_callV (hO : OKM Γ X own cc nL ret) {M : Mth} {idx n i ci N : Nat} {fks : List Nat} {C : String} {T : u_T} {As : List Value} {K : Option Value → Wd → Prop} (hd : decode cc pc = .ok (.invokevirtual idx, 3)) (h : Con Γ d M (.ref (gad Γ i) :: As) w K) (hw : CallV own C idx M n) (hs : (gS Γ)[i]? = some (.inr (ci, fks))) (hc : vwCl[ci]? = some (C, T, N)) (hn : As.length = n) (hr : (rest.map fun v => v.category).sum ≤ 8) (k : ∀ r w', K r w' → GG Γ X (d + 1) nL Q (pc + 3) lv (r.toList ++ rest) w') (hst : st = As.reverse ++ .ref (gad Γ i) :: rest) : GG Γ X (d + 1) nL Q pc lv st w := fun ls H locs hl hP hS => by
  obtain ⟨h1, h2, h3, h4⟩ := hw
  exact run_go hO (va_runV (As := As) (rest := rest) ⟨hO.1, hO.2.1, hO.2.2.1, hO.2.2.2.1, hO.2.2.2.2.1⟩ h ⟨callD_B hO h4 h1, hO.2.2.2.2.1 _ h2, hO.2.2.2.2.1 _ h3⟩ ⟨Inv_blind hO.2.2.2.2.2.2.2.2.1, va_recv hO.2.2.2.2.2.2.2.1 hP hc (gW_get hs), fun U hU hW => ⟨rfl, Inv_here hO hP hS hU hW⟩⟩ rfl hn hl.1 hst (lv_room hr) hd ⟨Nat.le_refl _, Nat.le_refl _⟩) hl hS k
theorem G_callS (hO : OKM Γ X own cc nL ret) {M : Mth} {idx n : Nat} {As : List Value} {K : Option Value → Wd → Prop} (hd : decode cc pc = .ok (.invokestatic idx, 3)) (h : Con Γ d M As w K) (hw : CallS own idx M n) (hn : As.length = n) (hr : (rest.map fun v => v.category).sum ≤ 8) (k : ∀ r w', K r w' → GG Γ X (d + 1) nL Q (pc + 3) lv (r.toList ++ rest) w') (hst : st = As.reverse ++ rest) : GG Γ X (d + 1) nL Q pc lv st w := fun ls H locs hl hP hS => by
  obtain ⟨h1, h2, h4⟩ := hw
  exact run_go hO (va_runS (As := As) (rest := rest) ⟨hO.1, hO.2.1, hO.2.2.1, hO.2.2.2.1, hO.2.2.2.2.1⟩ h ⟨callD_B hO h4 h1, hO.2.2.2.2.1 _ h2⟩ ⟨Inv_blind hO.2.2.2.2.2.2.2.2.1, fun U hU hW => ⟨rfl, Inv_here hO hP hS hU hW⟩⟩ rfl hn hl.1 hst (lv_room hr) hd ⟨Nat.le_refl _, Nat.le_refl _⟩) hl hS k
theorem G_callSN (hO : OKM Γ X own cc nL ret) {M : Mth} {idx n : Nat} {host : String} {As : List Value} {K : Option Value → Wd → Prop} (hd : decode cc pc = .ok (.invokestatic idx, 3)) (h : Con Γ d M As w K) (hl1 : va_Nw (.methodLinkNest own idx M.1 host) (xs X)) (hw : CallSN M n) (hn : As.length = n) (hr : (rest.map fun v => v.category).sum ≤ 8) (k : ∀ r w', K r w' → GG Γ X (d + 1) nL Q (pc + 3) lv (r.toList ++ rest) w') (hst : st = As.reverse ++ rest) : GG Γ X (d + 1) nL Q pc lv st w := fun ls H locs hl hP hS => by
  obtain ⟨h2, g1, g2, g3, g4⟩ := hw
  refine run_go hO (va_runSN (As := As) (rest := rest) ⟨hO.1, hO.2.1, hO.2.2.1, hO.2.2.2.1, hO.2.2.2.2.1⟩ h ⟨va_cnB n hO.2.2.2.2.1 (wsM_good g2) rfl rfl rfl hl1 (hO.2.2.2.2.1 _ g1) g3 ⟨Nat.le_refl _, ?_⟩, hO.2.2.2.2.1 _ h2, trivial⟩ ⟨Inv_blind hO.2.2.2.2.2.2.2.2.1, fun U hU hW => ⟨rfl, Inv_here hO hP hS hU hW⟩⟩ rfl hn hl.1 hst (lv_room hr) hd ⟨Nat.le_refl _, Nat.le_refl _⟩) hl hS k
  show 8 + (M.2.2.1 + 11) + 64 * d ≤ 64 * (d + 1)
  omega
theorem G_callVi (hO : OKM Γ X own cc nL ret) {M : Mth} {idx n i ci N : Nat} {fks : List Nat} {C : String} {T : u_T} {As : List Value} {K : Int32 → Wd → Prop} (hd : decode cc pc = .ok (.invokevirtual idx, 3)) (h : CI Γ d M (.ref (gad Γ i) :: As) w K) (hw : CallV own C idx M n) (hs : (gS Γ)[i]? = some (.inr (ci, fks))) (hc : vwCl[ci]? = some (C, T, N)) (hn : As.length = n) (hr : (rest.map fun v => v.category).sum ≤ 8) (k : ∀ v w', K v w' → GG Γ X (d + 1) nL Q (pc + 3) lv (.int v :: rest) w') (hst : st = As.reverse ++ .ref (gad Γ i) :: rest) : GG Γ X (d + 1) nL Q pc lv st w := G_callV hO hd h hw hs hc hn hr (fun r w' ⟨v, e, hk⟩ => by subst e; exact k v w' hk) hst
theorem G_callVv (hO : OKM Γ X own cc nL ret) {M : Mth} {idx n i ci N : Nat} {fks : List Nat} {C : String} {T : u_T} {As : List Value} {K : Wd → Prop} (hd : decode cc pc = .ok (.invokevirtual idx, 3)) (h : CV Γ d M (.ref (gad Γ i) :: As) w K) (hw : CallV own C idx M n) (hs : (gS Γ)[i]? = some (.inr (ci, fks))) (hc : vwCl[ci]? = some (C, T, N)) (hn : As.length = n) (hr : (rest.map fun v => v.category).sum ≤ 8) (k : ∀ w', K w' → GG Γ X (d + 1) nL Q (pc + 3) lv rest w') (hst : st = As.reverse ++ .ref (gad Γ i) :: rest) : GG Γ X (d + 1) nL Q pc lv st w := G_callV hO hd h hw hs hc hn hr (fun r w' ⟨e, hk⟩ => by subst e; exact k w' hk) hst
theorem G_callVl (hO : OKM Γ X own cc nL ret) {M : Mth} {idx n i ci N : Nat} {fks : List Nat} {C : String} {T : u_T} {As : List Value} {K : Int64 → Wd → Prop} (hd : decode cc pc = .ok (.invokevirtual idx, 3)) (h : CL Γ d M (.ref (gad Γ i) :: As) w K) (hw : CallV own C idx M n) (hs : (gS Γ)[i]? = some (.inr (ci, fks))) (hc : vwCl[ci]? = some (C, T, N)) (hn : As.length = n) (hr : (rest.map fun v => v.category).sum ≤ 8) (k : ∀ v w', K v w' → GG Γ X (d + 1) nL Q (pc + 3) lv (.long v :: rest) w') (hst : st = As.reverse ++ .ref (gad Γ i) :: rest) : GG Γ X (d + 1) nL Q pc lv st w := G_callV hO hd h hw hs hc hn hr (fun r w' ⟨v, e, hk⟩ => by subst e; exact k v w' hk) hst
theorem G_callSi (hO : OKM Γ X own cc nL ret) {M : Mth} {idx n : Nat} {As : List Value} {K : Int32 → Wd → Prop} (hd : decode cc pc = .ok (.invokestatic idx, 3)) (h : CI Γ d M As w K) (hw : CallS own idx M n) (hn : As.length = n) (hr : (rest.map fun v => v.category).sum ≤ 8) (k : ∀ v w', K v w' → GG Γ X (d + 1) nL Q (pc + 3) lv (.int v :: rest) w') (hst : st = As.reverse ++ rest) : GG Γ X (d + 1) nL Q pc lv st w := G_callS hO hd h hw hn hr (fun r w' ⟨v, e, hk⟩ => by subst e; exact k v w' hk) hst
theorem G_callSv (hO : OKM Γ X own cc nL ret) {M : Mth} {idx n : Nat} {As : List Value} {K : Wd → Prop} (hd : decode cc pc = .ok (.invokestatic idx, 3)) (h : CV Γ d M As w K) (hw : CallS own idx M n) (hn : As.length = n) (hr : (rest.map fun v => v.category).sum ≤ 8) (k : ∀ w', K w' → GG Γ X (d + 1) nL Q (pc + 3) lv rest w') (hst : st = As.reverse ++ rest) : GG Γ X (d + 1) nL Q pc lv st w := G_callS hO hd h hw hn hr (fun r w' ⟨e, hk⟩ => by subst e; exact k w' hk) hst
theorem G_callSl (hO : OKM Γ X own cc nL ret) {M : Mth} {idx n : Nat} {As : List Value} {K : Int64 → Wd → Prop} (hd : decode cc pc = .ok (.invokestatic idx, 3)) (h : CL Γ d M As w K) (hw : CallS own idx M n) (hn : As.length = n) (hr : (rest.map fun v => v.category).sum ≤ 8) (k : ∀ v w', K v w' → GG Γ X (d + 1) nL Q (pc + 3) lv (.long v :: rest) w') (hst : st = As.reverse ++ rest) : GG Γ X (d + 1) nL Q pc lv st w := G_callS hO hd h hw hn hr (fun r w' ⟨v, e, hk⟩ => by subst e; exact k v w' hk) hst
theorem G_callSNi (hO : OKM Γ X own cc nL ret) {M : Mth} {idx n : Nat} {host : String} {As : List Value} {K : Int32 → Wd → Prop} (hd : decode cc pc = .ok (.invokestatic idx, 3)) (h : CI Γ d M As w K) (hl1 : va_Nw (.methodLinkNest own idx M.1 host) (xs X)) (hw : CallSN M n) (hn : As.length = n) (hr : (rest.map fun v => v.category).sum ≤ 8) (k : ∀ v w', K v w' → GG Γ X (d + 1) nL Q (pc + 3) lv (.int v :: rest) w') (hst : st = As.reverse ++ rest) : GG Γ X (d + 1) nL Q pc lv st w := G_callSN hO hd h hl1 hw hn hr (fun r w' ⟨v, e, hk⟩ => by subst e; exact k v w' hk) hst
theorem G_callSNv (hO : OKM Γ X own cc nL ret) {M : Mth} {idx n : Nat} {host : String} {As : List Value} {K : Wd → Prop} (hd : decode cc pc = .ok (.invokestatic idx, 3)) (h : CV Γ d M As w K) (hl1 : va_Nw (.methodLinkNest own idx M.1 host) (xs X)) (hw : CallSN M n) (hn : As.length = n) (hr : (rest.map fun v => v.category).sum ≤ 8) (k : ∀ w', K w' → GG Γ X (d + 1) nL Q (pc + 3) lv rest w') (hst : st = As.reverse ++ rest) : GG Γ X (d + 1) nL Q pc lv st w := G_callSN hO hd h hl1 hw hn hr (fun r w' ⟨e, hk⟩ => by subst e; exact k w' hk) hst
theorem G_callSNl (hO : OKM Γ X own cc nL ret) {M : Mth} {idx n : Nat} {host : String} {As : List Value} {K : Int64 → Wd → Prop} (hd : decode cc pc = .ok (.invokestatic idx, 3)) (h : CL Γ d M As w K) (hl1 : va_Nw (.methodLinkNest own idx M.1 host) (xs X)) (hw : CallSN M n) (hn : As.length = n) (hr : (rest.map fun v => v.category).sum ≤ 8) (k : ∀ v w', K v w' → GG Γ X (d + 1) nL Q (pc + 3) lv (.long v :: rest) w') (hst : st = As.reverse ++ rest) : GG Γ X (d + 1) nL Q pc lv st w := G_callSN hO hd h hl1 hw hn hr (fun r w' ⟨v, e, hk⟩ => by subst e; exact k v w' hk) hst
theorem G_iret (hO : OKM Γ X own cc nL ret) {ty : FieldType} {v : Int32} (hd : decode cc pc = .ok (.ireturn, 1)) (hr : ret = some ty) (hn : narrow ty (.int v) = .int v) (h : Q (some (.int v)) w) : GG Γ X d nL Q pc lv [.int v] w := fun ls H locs hl hP hS =>
  W.zret (Qc := QG Γ Q) (free := gA Γ) hO.1 hO.2.1 (hO.2.2.2.2.2.1.trans hr) hn (fun t ht hW => ⟨⟨_, w, rfl, h, by rw [ht]; exact hP, va_K.moved hW.alike hO.2.2.2.2.2.2.2.1⟩, hS.F ht⟩) hS.2.2 hd hO.2.2.2.2.2.2.1
theorem G_lret (hO : OKM Γ X own cc nL ret) {v : Int64} (hd : decode cc pc = .ok (.lreturn, 1)) (hr : ret = some .long) (h : Q (some (.long v)) w) : GG Γ X d nL Q pc lv [.long v] w := fun ls H locs hl hP hS =>
  W.lret (Qc := QG Γ Q) (free := gA Γ) hO.1 hO.2.1 (hO.2.2.2.2.2.1.trans hr) (fun t ht hW => ⟨⟨_, w, rfl, h, by rw [ht]; exact hP, va_K.moved hW.alike hO.2.2.2.2.2.2.2.1⟩, hS.F ht⟩) hS.2.2 hd hO.2.2.2.2.2.2.1
theorem G_vret (hO : OKM Γ X own cc nL ret) (hd : decode cc pc = .ok (.return_, 1)) (hr : ret = none) (h : Q none w) : GG Γ X d nL Q pc lv [] w := fun ls H locs hl hP hS =>
  W.vret (Qc := QG Γ Q) (free := gA Γ) hO.1 hO.2.1 (hO.2.2.2.2.2.1.trans hr) (fun t ht hW => ⟨⟨_, w, rfl, h, by rw [ht]; exact hP, va_K.moved hW.alike hO.2.2.2.2.2.2.2.1⟩, hS.F ht⟩) hS.2.2 hd hO.2.2.2.2.2.2.1
theorem G_copy (hO : OKM Γ X own cc nL ret) {idx i i2 n0 n1 : Nat} {sp dp n : Int32} (hlk : Cond.methodLink own idx arraycopyName ∈ AW) (hna : Cond.native arraycopyName ∈ AW) (hst : Cond.static arraycopyName ∈ AW) (hini : Cond.initialized "java/lang/System" ∈ AW)
    (hs : (gS Γ)[i]? = some (.inl (0, n0, []))) (hs2 : (gS Γ)[i2]? = some (.inl (0, n1, []))) (h1 : ¬ sp < 0) (h2 : ¬ dp < 0) (h3 : ¬ n < 0) (h4 : sp.toNatClampNeg + n.toNatClampNeg ≤ n0) (h5 : dp.toNatClampNeg + n.toNatClampNeg ≤ n1) (hr : (rest.map fun v => v.category).sum ≤ 8) (hd : decode cc pc = .ok (.invokestatic idx, 3))
    (k : GG Γ X (d + 1) nL Q (pc + 3) lv rest (wcpy w i i2 sp.toNatClampNeg dp.toNatClampNeg n.toNatClampNeg)) : GG Γ X (d + 1) nL Q pc lv (.int n :: .int dp :: .ref (gad Γ i2) :: .int sp :: .ref (gad Γ i) :: rest) w := fun ls H locs hl hP hS => by
  refine va_copyi hO.1 hO.2.1 (hO.2.2.1.trans hl.1.symm) hO.2.2.2.1 (hO.2.2.2.2.1 _ hlk) (hO.2.2.2.2.1 _ hna) (hO.2.2.2.2.1 _ hst) (hO.2.2.2.2.1 _ hini) hO.2.2.2.2.2.2.2.1 hP (gW_D hO.2.2.2.2.2.2.2.2.1 w) hS i i2 0 0 (f := w i) (g := w i2) (gW_get hs) (gW_get hs2) rfl rfl rfl h1 h2 h3 h4 h5 (fun _ _ => rfl) ?_ ?_ hd (fun H1 locs1 hP1 _ hS1 => k ls H1 locs1 hl ?_ hS1)
  · show 1 ≤ d + 1
    omega
  · show _ + _ ≤ 64 * (d + 1)
    have : nativeFrameWords "java/lang/System" "arraycopy" 5 + 11 ≤ 56 := by decide +kernel
    omega
  · have e := gW_set (w := w) (w' := wcpy w i i2 sp.toNatClampNeg dp.toNatClampNeg n.toNatClampNeg) hs2 (fun a ha => wcpy_off w i i2 _ _ _ a ha)
    rw [← e]
    simp only [celE, wcpy_row]
    exact hP1
end ROWS
end
section
/-! words, shapes, fields and calls (written by program out of the tables) -/
theorem AW_all {ws : List Cond} (ps : List Nat) (h : ws = ps.filterMap (fun i => lw_tbl[i]?)) (g : ws.all goodWord = true) : ∀ w ∈ ws, w ∈ AW := by
  intro w hw
  have h1 := List.all_eq_true.mp g w hw
  rw [h] at hw
  obtain ⟨i, -, hi⟩ := List.mem_filterMap.mp hw
  exact AW_mem i hi h1
theorem inX0 : ∀ w ∈ u_ws RX0 TX0 12, w ∈ AW := AW_all [194, 196, 198, 200, 202, 204, 206, 208, 210, 212, 214, 216] (by decide +kernel) (by decide +kernel)
theorem inX1 : ∀ w ∈ u_ws RX1 TX1 9, w ∈ AW := AW_all [112, 114, 116, 118, 120, 122, 124, 126, 128] (by decide +kernel) (by decide +kernel)
theorem inX2 : ∀ w ∈ u_ws RX2 TX2 3, w ∈ AW := AW_all [160, 162, 164] (by decide +kernel) (by decide +kernel)
theorem inX3 : ∀ w ∈ u_ws RX3 TX3 3, w ∈ AW := AW_all [140, 142, 144] (by decide +kernel) (by decide +kernel)
theorem inX4 : ∀ w ∈ u_ws RX4 TX4 9, w ∈ AW := AW_all [419, 421, 423, 425, 427, 429, 431, 433, 435] (by decide +kernel) (by decide +kernel)
theorem inX5 : ∀ w ∈ u_ws RX5 TX5 41, w ∈ AW := AW_all [790, 792, 794, 796, 798, 800, 802, 804, 806, 808, 810, 812, 814, 816, 818, 820, 822, 824, 826, 828, 830, 832, 834, 836, 838, 840, 842, 844, 846, 848, 850, 852, 854, 856, 858, 860, 862, 864, 866, 868, 870] (by decide +kernel) (by decide +kernel)
def M_J0_length_8abf5 : Mth := (yJ0_length_8abf5, cJ0_length_8abf5, 1, (some .int))
def M_J0_coder_7d493 : Mth := (yJ0_coder_7d493, cJ0_coder_7d493, 1, (some .byte))
def M_J0_charAt_5068e : Mth := (yJ0_charAt_5068e, cJ0_charAt_5068e, 2, (some .char))
def M_J0_isLatin1_aae02 : Mth := (yJ0_isLatin1_aae02, cJ0_isLatin1_aae02, 1, (some .boolean))
def M_J1_charAt_3b067 : Mth := (yJ1_charAt_3b067, cJ1_charAt_3b067, 2, (some .char))
def M_J0_checkIndex_df160 : Mth := (yJ0_checkIndex_df160, cJ0_checkIndex_df160, 2, none)
def M_J3_checkIndex_8e157 : Mth := (yJ3_checkIndex_8e157, cJ3_checkIndex_8e157, 3, (some .int))
def M_X1_takeByte : Mth := (yX1_takeByte, cX1_takeByte, 2, (some .boolean))
def M_X1_readInto : Mth := (yX1_readInto, cX1_readInto, 3, (some .int))
def M_X3_empty : Mth := (yX3_empty, cX3_empty, 1, none)
def M_X1_readToken : Mth := (yX1_readToken, cX1_readToken, 1, none)
def M_X4_isIn : Mth := (yX4_isIn, cX4_isIn, 3, (some .boolean))
def M_X1_readWord : Mth := (yX1_readWord, cX1_readWord, 1, none)
def M_X1_wordNumber : Mth := (yX1_wordNumber, cX1_wordNumber, 6, (some .int))
def M_X1_readNumeral : Mth := (yX1_readNumeral, cX1_readNumeral, 1, none)
def M_J0_indexOf_0f7a4 : Mth := (yJ0_indexOf_0f7a4, cJ0_indexOf_0f7a4, 2, (some .int))
def M_J0_indexOf_7cf53 : Mth := (yJ0_indexOf_7cf53, cJ0_indexOf_7cf53, 3, (some .int))
def M_J1_indexOf_4cfef : Mth := (yJ1_indexOf_4cfef, cJ1_indexOf_4cfef, 4, (some .int))
def M_J1_canEncode_9a6ad : Mth := (yJ1_canEncode_9a6ad, cJ1_canEncode_9a6ad, 1, (some .boolean))
def M_J9_max_7cf53 : Mth := (yJ9_max_7cf53, cJ9_max_7cf53, 2, (some .int))
def M_J9_min_7cf53 : Mth := (yJ9_min_7cf53, cJ9_min_7cf53, 2, (some .int))
def M_J1_indexOfChar_4cfef : Mth := (yJ1_indexOfChar_4cfef, cJ1_indexOfChar_4cfef, 6, (some .int))
def M_J0_checkBoundsBeginEnd_23922 : Mth := (yJ0_checkBoundsBeginEnd_23922, cJ0_checkBoundsBeginEnd_23922, 3, none)
def M_J3_checkFromToIndex_8c36e : Mth := (yJ3_checkFromToIndex_8c36e, cJ3_checkFromToIndex_8c36e, 4, (some .int))
def M_X3_beginPart : Mth := (yX3_beginPart, cX3_beginPart, 2, none)
def M_X1_pass : Mth := (yX1_pass, cX1_pass, 2, none)
def M_X1_fail : Mth := (yX1_fail, cX1_fail, 1, none)
def M_X1_readOr : Mth := (yX1_readOr, cX1_readOr, 2, none)
def M_X1_readAnd : Mth := (yX1_readAnd, cX1_readAnd, 2, none)
def M_X1_readNot : Mth := (yX1_readNot, cX1_readNot, 1, none)
def M_X1_readCompared : Mth := (yX1_readCompared, cX1_readCompared, 2, none)
def M_X1_readSum : Mth := (yX1_readSum, cX1_readSum, 3, none)
def M_X1_readTerm : Mth := (yX1_readTerm, cX1_readTerm, 2, none)
def M_X1_readOne : Mth := (yX1_readOne, cX1_readOne, 1, none)
def M_X3_takeStep : Mth := (yX3_takeStep, cX3_takeStep, 2, none)
def M_X1_opens : Mth := (yX1_opens, cX1_opens, 1, (some .boolean))
def M_X4_set : Mth := (yX4_set, cX4_set, 5, (some .int))
def M_X4_isThere : Mth := (yX4_isThere, cX4_isThere, 3, (some .boolean))
def M_X4_isPerson : Mth := (yX4_isPerson, cX4_isPerson, 2, (some .boolean))
def M_X4_fits : Mth := (yX4_fits, cX4_fits, 2, (some .boolean))
def M_X4_plainly : Mth := (yX4_plainly, cX4_plainly, 3, (some .int))
def M_X4_person : Mth := (yX4_person, cX4_person, 3, (some .int))
def M_X0_takeIn : Mth := (yX0_takeIn, cX0_takeIn, 3, (some .int))
def M_X4_told : Mth := (yX4_told, cX4_told, 3, (some .int))
def M_X0_filledFrom : Mth := (yX0_filledFrom, cX0_filledFrom, 4, (some .int))
def M_X0_layersOf : Mth := (yX0_layersOf, cX0_layersOf, 6, (some .int))
def M_X0_sendsTo : Mth := (yX0_sendsTo, cX0_sendsTo, 4, (some .boolean))
def M_X0_nameAll : Mth := (yX0_nameAll, cX0_nameAll, 6, none)
def M_X3_valueOf : Mth := (yX3_valueOf, cX3_valueOf, 9, (some .int))
def M_X0_inlawSends : Mth := (yX0_inlawSends, cX0_inlawSends, 3, (some .boolean))
def M_X0_cutsFor : Mth := (yX0_cutsFor, cX0_cutsFor, 5, (some .boolean))
def M_X0_motherCuts : Mth := (yX0_motherCuts, cX0_motherCuts, 4, (some .boolean))
def M_X0_inlawCuts : Mth := (yX0_inlawCuts, cX0_inlawCuts, 2, (some .boolean))
def M_X0_layersTo : Mth := (yX0_layersTo, cX0_layersTo, 4, (some .int))
def M_J6_bitCount_0f7a4 : Mth := (yJ6_bitCount_0f7a4, cJ6_bitCount_0f7a4, 1, (some .int))
def M_X0_becomeLike : Mth := (yX0_becomeLike, cX0_becomeLike, 3, none)
def M_X0_passSunday : Mth := (yX0_passSunday, cX0_passSunday, 4, (some .boolean))
def M_X0_feltFrom : Mth := (yX0_feltFrom, cX0_feltFrom, 6, (some .int))
def M_X0_feelsBy : Mth := (yX0_feelsBy, cX0_feelsBy, 5, (some .int))
def M_X4_bounded : Mth := (yX4_bounded, cX4_bounded, 1, (some .int))
def M_X4_feed : Mth := (yX4_feed, cX4_feed, 2, (some .int))
def M_X4_text : Mth := (yX4_text, cX4_text, 2, (some .int))
def M_X4_force : Mth := (yX4_force, cX4_force, 3, (some .int))
def M_X4_sandwich : Mth := (yX4_sandwich, cX4_sandwich, 4, (some .int))
def M_X4_areTwo : Mth := (yX4_areTwo, cX4_areTwo, 3, (some .boolean))
def M_X4_sunday : Mth := (yX4_sunday, cX4_sunday, 1, (some .int))
def M_X0_glad : Mth := (yX0_glad, cX0_glad, 3, (some .int))
def M_X4_run : Mth := (yX4_run, cX4_run, 5, (some .int))
def M_X0_emptyBehind : Mth := (yX0_emptyBehind, cX0_emptyBehind, 5, (some .int))
def M_X0_gladBehind : Mth := (yX0_gladBehind, cX0_gladBehind, 4, (some .int))
def M_X4_again : Mth := (yX4_again, cX4_again, 3, (some .int))
def M_X0_allMoods : Mth := (yX0_allMoods, cX0_allMoods, 3, (some .int))
def M_X4_firstDead : Mth := (yX4_firstDead, cX4_firstDead, 2, (some .int))
def M_X4_firstAgain : Mth := (yX4_firstAgain, cX4_firstAgain, 4, (some .int))
def M_X4_all : Mth := (yX4_all, cX4_all, 2, (some .int))
def M_X0_lettuceCount : Mth := (yX0_lettuceCount, cX0_lettuceCount, 4, (some .int))
def M_X0_lettuceFirst : Mth := (yX0_lettuceFirst, cX0_lettuceFirst, 3, (some .int))
def M_X0_leftAlone : Mth := (yX0_leftAlone, cX0_leftAlone, 3, (some .int))
def M_X4_best : Mth := (yX4_best, cX4_best, 8, (some .int))
def M_X4_leaveOut : Mth := (yX4_leaveOut, cX4_leaveOut, 7, (some .int))
def M_X4_gladAsItIs : Mth := (yX4_gladAsItIs, cX4_gladAsItIs, 2, (some .int))
def M_X4_spare : Mth := (yX4_spare, cX4_spare, 7, (some .int))
def M_X4_add : Mth := (yX4_add, cX4_add, 10, (some .int))
def M_X4_tells : Mth := (yX4_tells, cX4_tells, 5, (some .int))
def M_X4_isSheet : Mth := (yX4_isSheet, cX4_isSheet, 1, (some .boolean))
def M_X2_isMissing : Mth := (yX2_isMissing, cX2_isMissing, 1, (some .boolean))
def M_X0_firstOtherwise : Mth := (yX0_firstOtherwise, cX0_firstOtherwise, 4, (some .int))
def M_X4_moodsSo : Mth := (yX4_moodsSo, cX4_moodsSo, 7, (some .int))
def M_X4_bitsSo : Mth := (yX4_bitsSo, cX4_bitsSo, 7, (some .int))
def M_X4_film : Mth := (yX4_film, cX4_film, 6, (some .int))
def M_X2_clear : Mth := (yX2_clear, cX2_clear, 4, none)
def M_X2_put : Mth := (yX2_put, cX2_put, 3, none)
def M_X4_drawn : Mth := (yX4_drawn, cX4_drawn, 2, (some .int))
def M_X0_drawMoods : Mth := (yX0_drawMoods, cX0_drawMoods, 4, none)
def M_X4_chance : Mth := (yX4_chance, cX4_chance, 7, (some .long))
def M_X4_sharedDivisor : Mth := (yX4_sharedDivisor, cX4_sharedDivisor, 3, (some .int))
def M_X4_image : Mth := (yX4_image, cX4_image, 1, (some .int))
def M_X4_back : Mth := (yX4_back, cX4_back, 1, (some .int))
def M_X4_count : Mth := (yX4_count, cX4_count, 2, (some .int))
def M_X4_sheet : Mth := (yX4_sheet, cX4_sheet, 4, (some .int))
def M_X4_cell : Mth := (yX4_cell, cX4_cell, 5, (some .int))
def M_X2_hasItem : Mth := (yX2_hasItem, cX2_hasItem, 2, (some .boolean))
def M_X4_copy : Mth := (yX4_copy, cX4_copy, 8, (some .int))
def M_X2_hasPiece : Mth := (yX2_hasPiece, cX2_hasPiece, 3, (some .boolean))
def M_X4_people : Mth := (yX4_people, cX4_people, 9, (some .int))
def M_X4_taken : Mth := (yX4_taken, cX4_taken, 5, (some .int))
def M_X5_codes : Mth := (yX5_codes, cX5_codes, 2, none)
def M_X5_set : Mth := (yX5_set, cX5_set, 5, (some .int))
def M_X5_isOf : Mth := (yX5_isOf, cX5_isOf, 3, (some .boolean))
def M_X5_isLayer : Mth := (yX5_isLayer, cX5_isLayer, 1, (some .boolean))
def M_X5_within : Mth := (yX5_within, cX5_within, 3, (some .boolean))
def M_X5_isOne : Mth := (yX5_isOne, cX5_isOne, 2, (some .boolean))
def M_X5_isFit : Mth := (yX5_isFit, cX5_isFit, 2, (some .boolean))
def M_X5_get : Mth := (yX5_get, cX5_get, 3, (some .int))
def M_X5_person : Mth := (yX5_person, cX5_person, 3, (some .int))
def M_X5_told : Mth := (yX5_told, cX5_told, 3, (some .int))
def M_X5_sent : Mth := (yX5_sent, cX5_sent, 4, (some .int))
def M_X5_made : Mth := (yX5_made, cX5_made, 5, (some .int))
def M_X5_sends : Mth := (yX5_sends, cX5_sends, 4, (some .boolean))
def M_X5_tellsOf : Mth := (yX5_tellsOf, cX5_tellsOf, 6, none)
def M_X5_ruled : Mth := (yX5_ruled, cX5_ruled, 6, (some .int))
def M_X5_both : Mth := (yX5_both, cX5_both, 3, (some .int))
def M_X5_cuts : Mth := (yX5_cuts, cX5_cuts, 7, (some .boolean))
def M_X5_gotten : Mth := (yX5_gotten, cX5_gotten, 4, (some .int))
def M_X5_bitsOf : Mth := (yX5_bitsOf, cX5_bitsOf, 3, (some .int))
def M_X5_felt : Mth := (yX5_felt, cX5_felt, 4, (some .int))
def M_X5_feltBy : Mth := (yX5_feltBy, cX5_feltBy, 6, (some .int))
def M_X5_feels : Mth := (yX5_feels, cX5_feels, 6, (some .int))
def M_X5_bound : Mth := (yX5_bound, cX5_bound, 1, (some .int))
def M_X5_feed : Mth := (yX5_feed, cX5_feed, 2, (some .int))
def M_X5_text : Mth := (yX5_text, cX5_text, 3, (some .int))
def M_X5_next : Mth := (yX5_next, cX5_next, 2, none)
def M_X5_isLetter : Mth := (yX5_isLetter, cX5_isLetter, 1, (some .boolean))
def M_X5_named : Mth := (yX5_named, cX5_named, 1, (some .int))
def M_X5_isKey : Mth := (yX5_isKey, cX5_isKey, 1, (some .boolean))
def M_X5_isDigit : Mth := (yX5_isDigit, cX5_isDigit, 1, (some .boolean))
def M_X5_isSign : Mth := (yX5_isSign, cX5_isSign, 1, (some .boolean))
def M_X5_part : Mth := (yX5_part, cX5_part, 3, (some .boolean))
def M_X5_takes : Mth := (yX5_takes, cX5_takes, 2, (some .boolean))
def M_X5_goesOn : Mth := (yX5_goesOn, cX5_goesOn, 2, (some .boolean))
def M_X5_one : Mth := (yX5_one, cX5_one, 4, (some .boolean))
def M_X5_lays : Mth := (yX5_lays, cX5_lays, 2, none)
def M_X5_rank : Mth := (yX5_rank, cX5_rank, 1, (some .int))
def M_X5_push : Mth := (yX5_push, cX5_push, 2, none)
def M_X5_closes : Mth := (yX5_closes, cX5_closes, 1, (some .boolean))
def M_X5_signed : Mth := (yX5_signed, cX5_signed, 1, (some .int))
def M_X5_force : Mth := (yX5_force, cX5_force, 3, (some .int))
def M_X5_sandwich : Mth := (yX5_sandwich, cX5_sandwich, 5, (some .int))
def M_X5_areTwo : Mth := (yX5_areTwo, cX5_areTwo, 3, (some .boolean))
def M_X5_sunday : Mth := (yX5_sunday, cX5_sunday, 1, (some .int))
def M_X5_passes : Mth := (yX5_passes, cX5_passes, 3, none)
def M_X5_glad : Mth := (yX5_glad, cX5_glad, 3, (some .int))
def M_X5_run : Mth := (yX5_run, cX5_run, 4, (some .int))
def M_X5_runs : Mth := (yX5_runs, cX5_runs, 3, none)
def M_X5_keeps : Mth := (yX5_keeps, cX5_keeps, 2, none)
def M_X5_restores : Mth := (yX5_restores, cX5_restores, 2, none)
def M_X5_again : Mth := (yX5_again, cX5_again, 4, (some .int))
def M_X5_remembers : Mth := (yX5_remembers, cX5_remembers, 3, none)
def M_X5_isAlike : Mth := (yX5_isAlike, cX5_isAlike, 4, (some .boolean))
def M_X5_all : Mth := (yX5_all, cX5_all, 2, (some .int))
def M_X5_lettuce : Mth := (yX5_lettuce, cX5_lettuce, 6, (some .int))
def M_X5_left : Mth := (yX5_left, cX5_left, 3, (some .int))
def M_X5_best : Mth := (yX5_best, cX5_best, 9, (some .int))
def M_X5_gladBehind : Mth := (yX5_gladBehind, cX5_gladBehind, 3, (some .int))
def M_X5_leaveOut : Mth := (yX5_leaveOut, cX5_leaveOut, 7, (some .int))
def M_X5_spare : Mth := (yX5_spare, cX5_spare, 7, (some .int))
def M_X5_add : Mth := (yX5_add, cX5_add, 10, (some .int))
def M_X5_tells : Mth := (yX5_tells, cX5_tells, 4, (some .int))
def M_X5_isSheet : Mth := (yX5_isSheet, cX5_isSheet, 1, (some .boolean))
def M_X5_wrong : Mth := (yX5_wrong, cX5_wrong, 5, (some .int))
def M_X5_kindsSo : Mth := (yX5_kindsSo, cX5_kindsSo, 6, (some .int))
def M_X5_numbersSo : Mth := (yX5_numbersSo, cX5_numbersSo, 6, (some .int))
def M_X5_moodsSo : Mth := (yX5_moodsSo, cX5_moodsSo, 8, (some .int))
def M_X5_textsSo : Mth := (yX5_textsSo, cX5_textsSo, 6, (some .int))
def M_X5_film : Mth := (yX5_film, cX5_film, 5, (some .int))
def M_X5_sheet : Mth := (yX5_sheet, cX5_sheet, 5, (some .int))
def M_X5_drawn : Mth := (yX5_drawn, cX5_drawn, 2, (some .int))
def M_X5_byLot : Mth := (yX5_byLot, cX5_byLot, 5, (some .int))
def M_X5_chance : Mth := (yX5_chance, cX5_chance, 9, (some .long))
def M_X5_image : Mth := (yX5_image, cX5_image, 2, (some .int))
def M_X5_back : Mth := (yX5_back, cX5_back, 2, (some .int))
def M_X5_count : Mth := (yX5_count, cX5_count, 4, (some .int))
def M_X5_cell : Mth := (yX5_cell, cX5_cell, 4, (some .int))
def M_X5_copy : Mth := (yX5_copy, cX5_copy, 7, (some .int))
def M_X5_people : Mth := (yX5_people, cX5_people, 10, (some .int))
def M_X5_taken : Mth := (yX5_taken, cX5_taken, 4, (some .int))
theorem cd_J0_length_8abf5 : CallD M_J0_length_8abf5 0 := ⟨AW_mem 75 (by decide +kernel) (by decide +kernel), AW_mem 223 (by decide +kernel) (by decide +kernel), by decide +kernel, by decide +kernel⟩
theorem cd_J0_coder_7d493 : CallD M_J0_coder_7d493 0 := ⟨AW_mem 75 (by decide +kernel) (by decide +kernel), AW_mem 227 (by decide +kernel) (by decide +kernel), by decide +kernel, by decide +kernel⟩
theorem cd_J0_charAt_5068e : CallD M_J0_charAt_5068e 1 := ⟨AW_mem 75 (by decide +kernel) (by decide +kernel), AW_mem 233 (by decide +kernel) (by decide +kernel), by decide +kernel, by decide +kernel⟩
theorem cd_J0_isLatin1_aae02 : CallD M_J0_isLatin1_aae02 0 := ⟨AW_mem 75 (by decide +kernel) (by decide +kernel), AW_mem 237 (by decide +kernel) (by decide +kernel), by decide +kernel, by decide +kernel⟩
theorem cd_J1_charAt_3b067 : CallD M_J1_charAt_3b067 2 := ⟨AW_mem 76 (by decide +kernel) (by decide +kernel), AW_mem 240 (by decide +kernel) (by decide +kernel), by decide +kernel, by decide +kernel⟩
theorem cd_J0_checkIndex_df160 : CallD M_J0_checkIndex_df160 2 := ⟨AW_mem 75 (by decide +kernel) (by decide +kernel), AW_mem 243 (by decide +kernel) (by decide +kernel), by decide +kernel, by decide +kernel⟩
theorem cd_J3_checkIndex_8e157 : CallD M_J3_checkIndex_8e157 3 := ⟨AW_mem 77 (by decide +kernel) (by decide +kernel), AW_mem 248 (by decide +kernel) (by decide +kernel), by decide +kernel, by decide +kernel⟩
theorem cd_X1_takeByte : CallD M_X1_takeByte 1 := ⟨AW_mem 71 (by decide +kernel) (by decide +kernel), AW_mem 271 (by decide +kernel) (by decide +kernel), by decide +kernel, by decide +kernel⟩
theorem cd_X1_readInto : CallD M_X1_readInto 1 := ⟨AW_mem 71 (by decide +kernel) (by decide +kernel), AW_mem 275 (by decide +kernel) (by decide +kernel), by decide +kernel, by decide +kernel⟩
theorem cd_X3_empty : CallD M_X3_empty 0 := ⟨AW_mem 72 (by decide +kernel) (by decide +kernel), AW_mem 279 (by decide +kernel) (by decide +kernel), by decide +kernel, by decide +kernel⟩
theorem cd_X1_readToken : CallD M_X1_readToken 0 := ⟨AW_mem 71 (by decide +kernel) (by decide +kernel), AW_mem 283 (by decide +kernel) (by decide +kernel), by decide +kernel, by decide +kernel⟩
theorem cd_X4_isIn : CallD M_X4_isIn 3 := ⟨AW_mem 70 (by decide +kernel) (by decide +kernel), AW_mem 286 (by decide +kernel) (by decide +kernel), by decide +kernel, by decide +kernel⟩
theorem cd_X1_readWord : CallD M_X1_readWord 0 := ⟨AW_mem 71 (by decide +kernel) (by decide +kernel), AW_mem 290 (by decide +kernel) (by decide +kernel), by decide +kernel, by decide +kernel⟩
theorem cd_X1_wordNumber : CallD M_X1_wordNumber 0 := ⟨AW_mem 71 (by decide +kernel) (by decide +kernel), AW_mem 294 (by decide +kernel) (by decide +kernel), by decide +kernel, by decide +kernel⟩
theorem cd_X1_readNumeral : CallD M_X1_readNumeral 0 := ⟨AW_mem 71 (by decide +kernel) (by decide +kernel), AW_mem 301 (by decide +kernel) (by decide +kernel), by decide +kernel, by decide +kernel⟩
theorem cd_J0_indexOf_0f7a4 : CallD M_J0_indexOf_0f7a4 1 := ⟨AW_mem 75 (by decide +kernel) (by decide +kernel), AW_mem 306 (by decide +kernel) (by decide +kernel), by decide +kernel, by decide +kernel⟩
theorem cd_J0_indexOf_7cf53 : CallD M_J0_indexOf_7cf53 2 := ⟨AW_mem 75 (by decide +kernel) (by decide +kernel), AW_mem 310 (by decide +kernel) (by decide +kernel), by decide +kernel, by decide +kernel⟩
theorem cd_J1_indexOf_4cfef : CallD M_J1_indexOf_4cfef 4 := ⟨AW_mem 76 (by decide +kernel) (by decide +kernel), AW_mem 314 (by decide +kernel) (by decide +kernel), by decide +kernel, by decide +kernel⟩
theorem cd_J1_canEncode_9a6ad : CallD M_J1_canEncode_9a6ad 1 := ⟨AW_mem 76 (by decide +kernel) (by decide +kernel), AW_mem 317 (by decide +kernel) (by decide +kernel), by decide +kernel, by decide +kernel⟩
theorem cd_J9_max_7cf53 : CallD M_J9_max_7cf53 2 := ⟨AW_mem 79 (by decide +kernel) (by decide +kernel), AW_mem 320 (by decide +kernel) (by decide +kernel), by decide +kernel, by decide +kernel⟩
theorem cd_J9_min_7cf53 : CallD M_J9_min_7cf53 2 := ⟨AW_mem 79 (by decide +kernel) (by decide +kernel), AW_mem 323 (by decide +kernel) (by decide +kernel), by decide +kernel, by decide +kernel⟩
theorem cd_J1_indexOfChar_4cfef : CallD M_J1_indexOfChar_4cfef 4 := ⟨AW_mem 76 (by decide +kernel) (by decide +kernel), AW_mem 326 (by decide +kernel) (by decide +kernel), by decide +kernel, by decide +kernel⟩
theorem cd_J0_checkBoundsBeginEnd_23922 : CallD M_J0_checkBoundsBeginEnd_23922 3 := ⟨AW_mem 75 (by decide +kernel) (by decide +kernel), AW_mem 341 (by decide +kernel) (by decide +kernel), by decide +kernel, by decide +kernel⟩
theorem cd_J3_checkFromToIndex_8c36e : CallD M_J3_checkFromToIndex_8c36e 4 := ⟨AW_mem 77 (by decide +kernel) (by decide +kernel), AW_mem 344 (by decide +kernel) (by decide +kernel), by decide +kernel, by decide +kernel⟩
theorem cd_X3_beginPart : CallD M_X3_beginPart 1 := ⟨AW_mem 72 (by decide +kernel) (by decide +kernel), AW_mem 365 (by decide +kernel) (by decide +kernel), by decide +kernel, by decide +kernel⟩
theorem cd_X1_pass : CallD M_X1_pass 1 := ⟨AW_mem 71 (by decide +kernel) (by decide +kernel), AW_mem 369 (by decide +kernel) (by decide +kernel), by decide +kernel, by decide +kernel⟩
theorem cd_X1_fail : CallD M_X1_fail 0 := ⟨AW_mem 71 (by decide +kernel) (by decide +kernel), AW_mem 373 (by decide +kernel) (by decide +kernel), by decide +kernel, by decide +kernel⟩
theorem cd_X1_readOr : CallD M_X1_readOr 0 := ⟨AW_mem 71 (by decide +kernel) (by decide +kernel), AW_mem 377 (by decide +kernel) (by decide +kernel), by decide +kernel, by decide +kernel⟩
theorem cd_X1_readAnd : CallD M_X1_readAnd 0 := ⟨AW_mem 71 (by decide +kernel) (by decide +kernel), AW_mem 381 (by decide +kernel) (by decide +kernel), by decide +kernel, by decide +kernel⟩
theorem cd_X1_readNot : CallD M_X1_readNot 0 := ⟨AW_mem 71 (by decide +kernel) (by decide +kernel), AW_mem 385 (by decide +kernel) (by decide +kernel), by decide +kernel, by decide +kernel⟩
theorem cd_X1_readCompared : CallD M_X1_readCompared 0 := ⟨AW_mem 71 (by decide +kernel) (by decide +kernel), AW_mem 389 (by decide +kernel) (by decide +kernel), by decide +kernel, by decide +kernel⟩
theorem cd_X1_readSum : CallD M_X1_readSum 0 := ⟨AW_mem 71 (by decide +kernel) (by decide +kernel), AW_mem 393 (by decide +kernel) (by decide +kernel), by decide +kernel, by decide +kernel⟩
theorem cd_X1_readTerm : CallD M_X1_readTerm 0 := ⟨AW_mem 71 (by decide +kernel) (by decide +kernel), AW_mem 397 (by decide +kernel) (by decide +kernel), by decide +kernel, by decide +kernel⟩
theorem cd_X1_readOne : CallD M_X1_readOne 0 := ⟨AW_mem 71 (by decide +kernel) (by decide +kernel), AW_mem 401 (by decide +kernel) (by decide +kernel), by decide +kernel, by decide +kernel⟩
theorem cd_X3_takeStep : CallD M_X3_takeStep 1 := ⟨AW_mem 72 (by decide +kernel) (by decide +kernel), AW_mem 405 (by decide +kernel) (by decide +kernel), by decide +kernel, by decide +kernel⟩
theorem cd_X1_opens : CallD M_X1_opens 0 := ⟨AW_mem 71 (by decide +kernel) (by decide +kernel), AW_mem 409 (by decide +kernel) (by decide +kernel), by decide +kernel, by decide +kernel⟩
theorem cd_X4_set : CallD M_X4_set 3 := ⟨AW_mem 70 (by decide +kernel) (by decide +kernel), AW_mem 442 (by decide +kernel) (by decide +kernel), by decide +kernel, by decide +kernel⟩
theorem cd_X4_isThere : CallD M_X4_isThere 2 := ⟨AW_mem 70 (by decide +kernel) (by decide +kernel), AW_mem 447 (by decide +kernel) (by decide +kernel), by decide +kernel, by decide +kernel⟩
theorem cd_X4_isPerson : CallD M_X4_isPerson 1 := ⟨AW_mem 70 (by decide +kernel) (by decide +kernel), AW_mem 451 (by decide +kernel) (by decide +kernel), by decide +kernel, by decide +kernel⟩
theorem cd_X4_fits : CallD M_X4_fits 2 := ⟨AW_mem 70 (by decide +kernel) (by decide +kernel), AW_mem 454 (by decide +kernel) (by decide +kernel), by decide +kernel, by decide +kernel⟩
theorem cd_X4_plainly : CallD M_X4_plainly 2 := ⟨AW_mem 70 (by decide +kernel) (by decide +kernel), AW_mem 458 (by decide +kernel) (by decide +kernel), by decide +kernel, by decide +kernel⟩
theorem cd_X4_person : CallD M_X4_person 2 := ⟨AW_mem 70 (by decide +kernel) (by decide +kernel), AW_mem 462 (by decide +kernel) (by decide +kernel), by decide +kernel, by decide +kernel⟩
theorem cd_X0_takeIn : CallD M_X0_takeIn 2 := ⟨AW_mem 74 (by decide +kernel) (by decide +kernel), AW_mem 466 (by decide +kernel) (by decide +kernel), by decide +kernel, by decide +kernel⟩
theorem cd_X4_told : CallD M_X4_told 2 := ⟨AW_mem 70 (by decide +kernel) (by decide +kernel), AW_mem 470 (by decide +kernel) (by decide +kernel), by decide +kernel, by decide +kernel⟩
theorem cd_X0_filledFrom : CallD M_X0_filledFrom 1 := ⟨AW_mem 74 (by decide +kernel) (by decide +kernel), AW_mem 474 (by decide +kernel) (by decide +kernel), by decide +kernel, by decide +kernel⟩
theorem cd_X0_layersOf : CallD M_X0_layersOf 2 := ⟨AW_mem 74 (by decide +kernel) (by decide +kernel), AW_mem 478 (by decide +kernel) (by decide +kernel), by decide +kernel, by decide +kernel⟩
theorem cd_X0_sendsTo : CallD M_X0_sendsTo 2 := ⟨AW_mem 74 (by decide +kernel) (by decide +kernel), AW_mem 482 (by decide +kernel) (by decide +kernel), by decide +kernel, by decide +kernel⟩
theorem cd_X0_nameAll : CallD M_X0_nameAll 5 := ⟨AW_mem 74 (by decide +kernel) (by decide +kernel), AW_mem 486 (by decide +kernel) (by decide +kernel), by decide +kernel, by decide +kernel⟩
theorem cd_X3_valueOf : CallD M_X3_valueOf 3 := ⟨AW_mem 72 (by decide +kernel) (by decide +kernel), AW_mem 490 (by decide +kernel) (by decide +kernel), by decide +kernel, by decide +kernel⟩
theorem cd_X0_inlawSends : CallD M_X0_inlawSends 2 := ⟨AW_mem 74 (by decide +kernel) (by decide +kernel), AW_mem 494 (by decide +kernel) (by decide +kernel), by decide +kernel, by decide +kernel⟩
theorem cd_X0_cutsFor : CallD M_X0_cutsFor 3 := ⟨AW_mem 74 (by decide +kernel) (by decide +kernel), AW_mem 498 (by decide +kernel) (by decide +kernel), by decide +kernel, by decide +kernel⟩
theorem cd_X0_motherCuts : CallD M_X0_motherCuts 3 := ⟨AW_mem 74 (by decide +kernel) (by decide +kernel), AW_mem 502 (by decide +kernel) (by decide +kernel), by decide +kernel, by decide +kernel⟩
theorem cd_X0_inlawCuts : CallD M_X0_inlawCuts 2 := ⟨AW_mem 74 (by decide +kernel) (by decide +kernel), AW_mem 505 (by decide +kernel) (by decide +kernel), by decide +kernel, by decide +kernel⟩
theorem cd_X0_layersTo : CallD M_X0_layersTo 1 := ⟨AW_mem 74 (by decide +kernel) (by decide +kernel), AW_mem 509 (by decide +kernel) (by decide +kernel), by decide +kernel, by decide +kernel⟩
theorem cd_J6_bitCount_0f7a4 : CallD M_J6_bitCount_0f7a4 1 := ⟨AW_mem 82 (by decide +kernel) (by decide +kernel), AW_mem 512 (by decide +kernel) (by decide +kernel), by decide +kernel, by decide +kernel⟩
theorem cd_X0_becomeLike : CallD M_X0_becomeLike 1 := ⟨AW_mem 74 (by decide +kernel) (by decide +kernel), AW_mem 519 (by decide +kernel) (by decide +kernel), by decide +kernel, by decide +kernel⟩
theorem cd_X0_passSunday : CallD M_X0_passSunday 0 := ⟨AW_mem 74 (by decide +kernel) (by decide +kernel), AW_mem 523 (by decide +kernel) (by decide +kernel), by decide +kernel, by decide +kernel⟩
theorem cd_X0_feltFrom : CallD M_X0_feltFrom 2 := ⟨AW_mem 74 (by decide +kernel) (by decide +kernel), AW_mem 527 (by decide +kernel) (by decide +kernel), by decide +kernel, by decide +kernel⟩
theorem cd_X0_feelsBy : CallD M_X0_feelsBy 3 := ⟨AW_mem 74 (by decide +kernel) (by decide +kernel), AW_mem 531 (by decide +kernel) (by decide +kernel), by decide +kernel, by decide +kernel⟩
theorem cd_X4_bounded : CallD M_X4_bounded 1 := ⟨AW_mem 70 (by decide +kernel) (by decide +kernel), AW_mem 534 (by decide +kernel) (by decide +kernel), by decide +kernel, by decide +kernel⟩
theorem cd_X4_feed : CallD M_X4_feed 1 := ⟨AW_mem 70 (by decide +kernel) (by decide +kernel), AW_mem 541 (by decide +kernel) (by decide +kernel), by decide +kernel, by decide +kernel⟩
theorem cd_X4_text : CallD M_X4_text 0 := ⟨AW_mem 70 (by decide +kernel) (by decide +kernel), AW_mem 545 (by decide +kernel) (by decide +kernel), by decide +kernel, by decide +kernel⟩
theorem cd_X4_force : CallD M_X4_force 1 := ⟨AW_mem 70 (by decide +kernel) (by decide +kernel), AW_mem 549 (by decide +kernel) (by decide +kernel), by decide +kernel, by decide +kernel⟩
theorem cd_X4_sandwich : CallD M_X4_sandwich 3 := ⟨AW_mem 70 (by decide +kernel) (by decide +kernel), AW_mem 553 (by decide +kernel) (by decide +kernel), by decide +kernel, by decide +kernel⟩
theorem cd_X4_areTwo : CallD M_X4_areTwo 2 := ⟨AW_mem 70 (by decide +kernel) (by decide +kernel), AW_mem 557 (by decide +kernel) (by decide +kernel), by decide +kernel, by decide +kernel⟩
theorem cd_X4_sunday : CallD M_X4_sunday 0 := ⟨AW_mem 70 (by decide +kernel) (by decide +kernel), AW_mem 566 (by decide +kernel) (by decide +kernel), by decide +kernel, by decide +kernel⟩
theorem cd_X0_glad : CallD M_X0_glad 0 := ⟨AW_mem 74 (by decide +kernel) (by decide +kernel), AW_mem 570 (by decide +kernel) (by decide +kernel), by decide +kernel, by decide +kernel⟩
theorem cd_X4_run : CallD M_X4_run 2 := ⟨AW_mem 70 (by decide +kernel) (by decide +kernel), AW_mem 574 (by decide +kernel) (by decide +kernel), by decide +kernel, by decide +kernel⟩
theorem cd_X0_emptyBehind : CallD M_X0_emptyBehind 1 := ⟨AW_mem 74 (by decide +kernel) (by decide +kernel), AW_mem 578 (by decide +kernel) (by decide +kernel), by decide +kernel, by decide +kernel⟩
theorem cd_X0_gladBehind : CallD M_X0_gladBehind 1 := ⟨AW_mem 74 (by decide +kernel) (by decide +kernel), AW_mem 584 (by decide +kernel) (by decide +kernel), by decide +kernel, by decide +kernel⟩
theorem cd_X4_again : CallD M_X4_again 1 := ⟨AW_mem 70 (by decide +kernel) (by decide +kernel), AW_mem 589 (by decide +kernel) (by decide +kernel), by decide +kernel, by decide +kernel⟩
theorem cd_X0_allMoods : CallD M_X0_allMoods 0 := ⟨AW_mem 74 (by decide +kernel) (by decide +kernel), AW_mem 593 (by decide +kernel) (by decide +kernel), by decide +kernel, by decide +kernel⟩
theorem cd_X4_firstDead : CallD M_X4_firstDead 0 := ⟨AW_mem 70 (by decide +kernel) (by decide +kernel), AW_mem 597 (by decide +kernel) (by decide +kernel), by decide +kernel, by decide +kernel⟩
theorem cd_X4_firstAgain : CallD M_X4_firstAgain 1 := ⟨AW_mem 70 (by decide +kernel) (by decide +kernel), AW_mem 601 (by decide +kernel) (by decide +kernel), by decide +kernel, by decide +kernel⟩
theorem cd_X4_all : CallD M_X4_all 1 := ⟨AW_mem 70 (by decide +kernel) (by decide +kernel), AW_mem 605 (by decide +kernel) (by decide +kernel), by decide +kernel, by decide +kernel⟩
theorem cd_X0_lettuceCount : CallD M_X0_lettuceCount 0 := ⟨AW_mem 74 (by decide +kernel) (by decide +kernel), AW_mem 609 (by decide +kernel) (by decide +kernel), by decide +kernel, by decide +kernel⟩
theorem cd_X0_lettuceFirst : CallD M_X0_lettuceFirst 0 := ⟨AW_mem 74 (by decide +kernel) (by decide +kernel), AW_mem 613 (by decide +kernel) (by decide +kernel), by decide +kernel, by decide +kernel⟩
theorem cd_X0_leftAlone : CallD M_X0_leftAlone 0 := ⟨AW_mem 74 (by decide +kernel) (by decide +kernel), AW_mem 617 (by decide +kernel) (by decide +kernel), by decide +kernel, by decide +kernel⟩
theorem cd_X4_best : CallD M_X4_best 3 := ⟨AW_mem 70 (by decide +kernel) (by decide +kernel), AW_mem 622 (by decide +kernel) (by decide +kernel), by decide +kernel, by decide +kernel⟩
theorem cd_X4_leaveOut : CallD M_X4_leaveOut 2 := ⟨AW_mem 70 (by decide +kernel) (by decide +kernel), AW_mem 627 (by decide +kernel) (by decide +kernel), by decide +kernel, by decide +kernel⟩
theorem cd_X4_gladAsItIs : CallD M_X4_gladAsItIs 1 := ⟨AW_mem 70 (by decide +kernel) (by decide +kernel), AW_mem 631 (by decide +kernel) (by decide +kernel), by decide +kernel, by decide +kernel⟩
theorem cd_X4_spare : CallD M_X4_spare 2 := ⟨AW_mem 70 (by decide +kernel) (by decide +kernel), AW_mem 635 (by decide +kernel) (by decide +kernel), by decide +kernel, by decide +kernel⟩
theorem cd_X4_add : CallD M_X4_add 3 := ⟨AW_mem 70 (by decide +kernel) (by decide +kernel), AW_mem 639 (by decide +kernel) (by decide +kernel), by decide +kernel, by decide +kernel⟩
theorem cd_X4_tells : CallD M_X4_tells 3 := ⟨AW_mem 70 (by decide +kernel) (by decide +kernel), AW_mem 644 (by decide +kernel) (by decide +kernel), by decide +kernel, by decide +kernel⟩
theorem cd_X4_isSheet : CallD M_X4_isSheet 1 := ⟨AW_mem 70 (by decide +kernel) (by decide +kernel), AW_mem 647 (by decide +kernel) (by decide +kernel), by decide +kernel, by decide +kernel⟩
theorem cd_X2_isMissing : CallD M_X2_isMissing 0 := ⟨AW_mem 73 (by decide +kernel) (by decide +kernel), AW_mem 651 (by decide +kernel) (by decide +kernel), by decide +kernel, by decide +kernel⟩
theorem cd_X0_firstOtherwise : CallD M_X0_firstOtherwise 2 := ⟨AW_mem 74 (by decide +kernel) (by decide +kernel), AW_mem 655 (by decide +kernel) (by decide +kernel), by decide +kernel, by decide +kernel⟩
theorem cd_X4_moodsSo : CallD M_X4_moodsSo 3 := ⟨AW_mem 70 (by decide +kernel) (by decide +kernel), AW_mem 659 (by decide +kernel) (by decide +kernel), by decide +kernel, by decide +kernel⟩
theorem cd_X4_bitsSo : CallD M_X4_bitsSo 3 := ⟨AW_mem 70 (by decide +kernel) (by decide +kernel), AW_mem 663 (by decide +kernel) (by decide +kernel), by decide +kernel, by decide +kernel⟩
theorem cd_X4_film : CallD M_X4_film 3 := ⟨AW_mem 70 (by decide +kernel) (by decide +kernel), AW_mem 667 (by decide +kernel) (by decide +kernel), by decide +kernel, by decide +kernel⟩
theorem cd_X2_clear : CallD M_X2_clear 2 := ⟨AW_mem 73 (by decide +kernel) (by decide +kernel), AW_mem 671 (by decide +kernel) (by decide +kernel), by decide +kernel, by decide +kernel⟩
theorem cd_X2_put : CallD M_X2_put 2 := ⟨AW_mem 73 (by decide +kernel) (by decide +kernel), AW_mem 675 (by decide +kernel) (by decide +kernel), by decide +kernel, by decide +kernel⟩
theorem cd_X4_drawn : CallD M_X4_drawn 1 := ⟨AW_mem 70 (by decide +kernel) (by decide +kernel), AW_mem 679 (by decide +kernel) (by decide +kernel), by decide +kernel, by decide +kernel⟩
theorem cd_X0_drawMoods : CallD M_X0_drawMoods 1 := ⟨AW_mem 74 (by decide +kernel) (by decide +kernel), AW_mem 683 (by decide +kernel) (by decide +kernel), by decide +kernel, by decide +kernel⟩
theorem cd_X4_chance : CallD M_X4_chance 4 := ⟨AW_mem 70 (by decide +kernel) (by decide +kernel), AW_mem 688 (by decide +kernel) (by decide +kernel), by decide +kernel, by decide +kernel⟩
theorem cd_X4_sharedDivisor : CallD M_X4_sharedDivisor 2 := ⟨AW_mem 70 (by decide +kernel) (by decide +kernel), AW_mem 692 (by decide +kernel) (by decide +kernel), by decide +kernel, by decide +kernel⟩
theorem cd_X4_image : CallD M_X4_image 0 := ⟨AW_mem 70 (by decide +kernel) (by decide +kernel), AW_mem 696 (by decide +kernel) (by decide +kernel), by decide +kernel, by decide +kernel⟩
theorem cd_X4_back : CallD M_X4_back 0 := ⟨AW_mem 70 (by decide +kernel) (by decide +kernel), AW_mem 700 (by decide +kernel) (by decide +kernel), by decide +kernel, by decide +kernel⟩
theorem cd_X4_count : CallD M_X4_count 1 := ⟨AW_mem 70 (by decide +kernel) (by decide +kernel), AW_mem 704 (by decide +kernel) (by decide +kernel), by decide +kernel, by decide +kernel⟩
theorem cd_X4_sheet : CallD M_X4_sheet 3 := ⟨AW_mem 70 (by decide +kernel) (by decide +kernel), AW_mem 708 (by decide +kernel) (by decide +kernel), by decide +kernel, by decide +kernel⟩
theorem cd_X4_cell : CallD M_X4_cell 3 := ⟨AW_mem 70 (by decide +kernel) (by decide +kernel), AW_mem 712 (by decide +kernel) (by decide +kernel), by decide +kernel, by decide +kernel⟩
theorem cd_X2_hasItem : CallD M_X2_hasItem 1 := ⟨AW_mem 73 (by decide +kernel) (by decide +kernel), AW_mem 716 (by decide +kernel) (by decide +kernel), by decide +kernel, by decide +kernel⟩
theorem cd_X4_copy : CallD M_X4_copy 5 := ⟨AW_mem 70 (by decide +kernel) (by decide +kernel), AW_mem 720 (by decide +kernel) (by decide +kernel), by decide +kernel, by decide +kernel⟩
theorem cd_X2_hasPiece : CallD M_X2_hasPiece 2 := ⟨AW_mem 73 (by decide +kernel) (by decide +kernel), AW_mem 724 (by decide +kernel) (by decide +kernel), by decide +kernel, by decide +kernel⟩
theorem cd_X4_people : CallD M_X4_people 4 := ⟨AW_mem 70 (by decide +kernel) (by decide +kernel), AW_mem 731 (by decide +kernel) (by decide +kernel), by decide +kernel, by decide +kernel⟩
theorem cd_X4_taken : CallD M_X4_taken 2 := ⟨AW_mem 70 (by decide +kernel) (by decide +kernel), AW_mem 736 (by decide +kernel) (by decide +kernel), by decide +kernel, by decide +kernel⟩
theorem cd_X5_codes : CallD M_X5_codes 1 := ⟨AW_mem 81 (by decide +kernel) (by decide +kernel), AW_mem 748 (by decide +kernel) (by decide +kernel), by decide +kernel, by decide +kernel⟩
theorem cd_X5_set : CallD M_X5_set 3 := ⟨AW_mem 81 (by decide +kernel) (by decide +kernel), AW_mem 877 (by decide +kernel) (by decide +kernel), by decide +kernel, by decide +kernel⟩
theorem cd_X5_isOf : CallD M_X5_isOf 2 := ⟨AW_mem 81 (by decide +kernel) (by decide +kernel), AW_mem 881 (by decide +kernel) (by decide +kernel), by decide +kernel, by decide +kernel⟩
theorem cd_X5_isLayer : CallD M_X5_isLayer 1 := ⟨AW_mem 81 (by decide +kernel) (by decide +kernel), AW_mem 884 (by decide +kernel) (by decide +kernel), by decide +kernel, by decide +kernel⟩
theorem cd_X5_within : CallD M_X5_within 3 := ⟨AW_mem 81 (by decide +kernel) (by decide +kernel), AW_mem 887 (by decide +kernel) (by decide +kernel), by decide +kernel, by decide +kernel⟩
theorem cd_X5_isOne : CallD M_X5_isOne 1 := ⟨AW_mem 81 (by decide +kernel) (by decide +kernel), AW_mem 891 (by decide +kernel) (by decide +kernel), by decide +kernel, by decide +kernel⟩
theorem cd_X5_isFit : CallD M_X5_isFit 2 := ⟨AW_mem 81 (by decide +kernel) (by decide +kernel), AW_mem 894 (by decide +kernel) (by decide +kernel), by decide +kernel, by decide +kernel⟩
theorem cd_X5_get : CallD M_X5_get 2 := ⟨AW_mem 81 (by decide +kernel) (by decide +kernel), AW_mem 898 (by decide +kernel) (by decide +kernel), by decide +kernel, by decide +kernel⟩
theorem cd_X5_person : CallD M_X5_person 2 := ⟨AW_mem 81 (by decide +kernel) (by decide +kernel), AW_mem 902 (by decide +kernel) (by decide +kernel), by decide +kernel, by decide +kernel⟩
theorem cd_X5_told : CallD M_X5_told 2 := ⟨AW_mem 81 (by decide +kernel) (by decide +kernel), AW_mem 906 (by decide +kernel) (by decide +kernel), by decide +kernel, by decide +kernel⟩
theorem cd_X5_sent : CallD M_X5_sent 1 := ⟨AW_mem 81 (by decide +kernel) (by decide +kernel), AW_mem 910 (by decide +kernel) (by decide +kernel), by decide +kernel, by decide +kernel⟩
theorem cd_X5_made : CallD M_X5_made 2 := ⟨AW_mem 81 (by decide +kernel) (by decide +kernel), AW_mem 914 (by decide +kernel) (by decide +kernel), by decide +kernel, by decide +kernel⟩
theorem cd_X5_sends : CallD M_X5_sends 2 := ⟨AW_mem 81 (by decide +kernel) (by decide +kernel), AW_mem 918 (by decide +kernel) (by decide +kernel), by decide +kernel, by decide +kernel⟩
theorem cd_X5_tellsOf : CallD M_X5_tellsOf 5 := ⟨AW_mem 81 (by decide +kernel) (by decide +kernel), AW_mem 922 (by decide +kernel) (by decide +kernel), by decide +kernel, by decide +kernel⟩
theorem cd_X5_ruled : CallD M_X5_ruled 1 := ⟨AW_mem 81 (by decide +kernel) (by decide +kernel), AW_mem 926 (by decide +kernel) (by decide +kernel), by decide +kernel, by decide +kernel⟩
theorem cd_X5_both : CallD M_X5_both 3 := ⟨AW_mem 81 (by decide +kernel) (by decide +kernel), AW_mem 929 (by decide +kernel) (by decide +kernel), by decide +kernel, by decide +kernel⟩
theorem cd_X5_cuts : CallD M_X5_cuts 3 := ⟨AW_mem 81 (by decide +kernel) (by decide +kernel), AW_mem 933 (by decide +kernel) (by decide +kernel), by decide +kernel, by decide +kernel⟩
theorem cd_X5_gotten : CallD M_X5_gotten 1 := ⟨AW_mem 81 (by decide +kernel) (by decide +kernel), AW_mem 937 (by decide +kernel) (by decide +kernel), by decide +kernel, by decide +kernel⟩
theorem cd_X5_bitsOf : CallD M_X5_bitsOf 1 := ⟨AW_mem 81 (by decide +kernel) (by decide +kernel), AW_mem 940 (by decide +kernel) (by decide +kernel), by decide +kernel, by decide +kernel⟩
theorem cd_X5_felt : CallD M_X5_felt 1 := ⟨AW_mem 81 (by decide +kernel) (by decide +kernel), AW_mem 944 (by decide +kernel) (by decide +kernel), by decide +kernel, by decide +kernel⟩
theorem cd_X5_feltBy : CallD M_X5_feltBy 3 := ⟨AW_mem 81 (by decide +kernel) (by decide +kernel), AW_mem 948 (by decide +kernel) (by decide +kernel), by decide +kernel, by decide +kernel⟩
theorem cd_X5_feels : CallD M_X5_feels 3 := ⟨AW_mem 81 (by decide +kernel) (by decide +kernel), AW_mem 952 (by decide +kernel) (by decide +kernel), by decide +kernel, by decide +kernel⟩
theorem cd_X5_bound : CallD M_X5_bound 1 := ⟨AW_mem 81 (by decide +kernel) (by decide +kernel), AW_mem 955 (by decide +kernel) (by decide +kernel), by decide +kernel, by decide +kernel⟩
theorem cd_X5_feed : CallD M_X5_feed 1 := ⟨AW_mem 81 (by decide +kernel) (by decide +kernel), AW_mem 959 (by decide +kernel) (by decide +kernel), by decide +kernel, by decide +kernel⟩
theorem cd_X5_text : CallD M_X5_text 0 := ⟨AW_mem 81 (by decide +kernel) (by decide +kernel), AW_mem 963 (by decide +kernel) (by decide +kernel), by decide +kernel, by decide +kernel⟩
theorem cd_X5_next : CallD M_X5_next 0 := ⟨AW_mem 81 (by decide +kernel) (by decide +kernel), AW_mem 967 (by decide +kernel) (by decide +kernel), by decide +kernel, by decide +kernel⟩
theorem cd_X5_isLetter : CallD M_X5_isLetter 1 := ⟨AW_mem 81 (by decide +kernel) (by decide +kernel), AW_mem 970 (by decide +kernel) (by decide +kernel), by decide +kernel, by decide +kernel⟩
theorem cd_X5_named : CallD M_X5_named 0 := ⟨AW_mem 81 (by decide +kernel) (by decide +kernel), AW_mem 974 (by decide +kernel) (by decide +kernel), by decide +kernel, by decide +kernel⟩
theorem cd_X5_isKey : CallD M_X5_isKey 0 := ⟨AW_mem 81 (by decide +kernel) (by decide +kernel), AW_mem 978 (by decide +kernel) (by decide +kernel), by decide +kernel, by decide +kernel⟩
theorem cd_X5_isDigit : CallD M_X5_isDigit 1 := ⟨AW_mem 81 (by decide +kernel) (by decide +kernel), AW_mem 981 (by decide +kernel) (by decide +kernel), by decide +kernel, by decide +kernel⟩
theorem cd_X5_isSign : CallD M_X5_isSign 1 := ⟨AW_mem 81 (by decide +kernel) (by decide +kernel), AW_mem 984 (by decide +kernel) (by decide +kernel), by decide +kernel, by decide +kernel⟩
theorem cd_X5_part : CallD M_X5_part 2 := ⟨AW_mem 81 (by decide +kernel) (by decide +kernel), AW_mem 989 (by decide +kernel) (by decide +kernel), by decide +kernel, by decide +kernel⟩
theorem cd_X5_takes : CallD M_X5_takes 1 := ⟨AW_mem 81 (by decide +kernel) (by decide +kernel), AW_mem 993 (by decide +kernel) (by decide +kernel), by decide +kernel, by decide +kernel⟩
theorem cd_X5_goesOn : CallD M_X5_goesOn 0 := ⟨AW_mem 81 (by decide +kernel) (by decide +kernel), AW_mem 997 (by decide +kernel) (by decide +kernel), by decide +kernel, by decide +kernel⟩
theorem cd_X5_one : CallD M_X5_one 1 := ⟨AW_mem 81 (by decide +kernel) (by decide +kernel), AW_mem 1001 (by decide +kernel) (by decide +kernel), by decide +kernel, by decide +kernel⟩
theorem cd_X5_lays : CallD M_X5_lays 1 := ⟨AW_mem 81 (by decide +kernel) (by decide +kernel), AW_mem 1005 (by decide +kernel) (by decide +kernel), by decide +kernel, by decide +kernel⟩
theorem cd_X5_rank : CallD M_X5_rank 1 := ⟨AW_mem 81 (by decide +kernel) (by decide +kernel), AW_mem 1008 (by decide +kernel) (by decide +kernel), by decide +kernel, by decide +kernel⟩
theorem cd_X5_push : CallD M_X5_push 1 := ⟨AW_mem 81 (by decide +kernel) (by decide +kernel), AW_mem 1012 (by decide +kernel) (by decide +kernel), by decide +kernel, by decide +kernel⟩
theorem cd_X5_closes : CallD M_X5_closes 0 := ⟨AW_mem 81 (by decide +kernel) (by decide +kernel), AW_mem 1016 (by decide +kernel) (by decide +kernel), by decide +kernel, by decide +kernel⟩
theorem cd_X5_signed : CallD M_X5_signed 0 := ⟨AW_mem 81 (by decide +kernel) (by decide +kernel), AW_mem 1020 (by decide +kernel) (by decide +kernel), by decide +kernel, by decide +kernel⟩
theorem cd_X5_force : CallD M_X5_force 1 := ⟨AW_mem 81 (by decide +kernel) (by decide +kernel), AW_mem 1026 (by decide +kernel) (by decide +kernel), by decide +kernel, by decide +kernel⟩
theorem cd_X5_sandwich : CallD M_X5_sandwich 3 := ⟨AW_mem 81 (by decide +kernel) (by decide +kernel), AW_mem 1030 (by decide +kernel) (by decide +kernel), by decide +kernel, by decide +kernel⟩
theorem cd_X5_areTwo : CallD M_X5_areTwo 2 := ⟨AW_mem 81 (by decide +kernel) (by decide +kernel), AW_mem 1034 (by decide +kernel) (by decide +kernel), by decide +kernel, by decide +kernel⟩
theorem cd_X5_sunday : CallD M_X5_sunday 0 := ⟨AW_mem 81 (by decide +kernel) (by decide +kernel), AW_mem 1038 (by decide +kernel) (by decide +kernel), by decide +kernel, by decide +kernel⟩
theorem cd_X5_passes : CallD M_X5_passes 0 := ⟨AW_mem 81 (by decide +kernel) (by decide +kernel), AW_mem 1042 (by decide +kernel) (by decide +kernel), by decide +kernel, by decide +kernel⟩
theorem cd_X5_glad : CallD M_X5_glad 0 := ⟨AW_mem 81 (by decide +kernel) (by decide +kernel), AW_mem 1046 (by decide +kernel) (by decide +kernel), by decide +kernel, by decide +kernel⟩
theorem cd_X5_run : CallD M_X5_run 2 := ⟨AW_mem 81 (by decide +kernel) (by decide +kernel), AW_mem 1050 (by decide +kernel) (by decide +kernel), by decide +kernel, by decide +kernel⟩
theorem cd_X5_runs : CallD M_X5_runs 1 := ⟨AW_mem 81 (by decide +kernel) (by decide +kernel), AW_mem 1054 (by decide +kernel) (by decide +kernel), by decide +kernel, by decide +kernel⟩
theorem cd_X5_keeps : CallD M_X5_keeps 0 := ⟨AW_mem 81 (by decide +kernel) (by decide +kernel), AW_mem 1058 (by decide +kernel) (by decide +kernel), by decide +kernel, by decide +kernel⟩
theorem cd_X5_restores : CallD M_X5_restores 0 := ⟨AW_mem 81 (by decide +kernel) (by decide +kernel), AW_mem 1062 (by decide +kernel) (by decide +kernel), by decide +kernel, by decide +kernel⟩
theorem cd_X5_again : CallD M_X5_again 1 := ⟨AW_mem 81 (by decide +kernel) (by decide +kernel), AW_mem 1066 (by decide +kernel) (by decide +kernel), by decide +kernel, by decide +kernel⟩
theorem cd_X5_remembers : CallD M_X5_remembers 0 := ⟨AW_mem 81 (by decide +kernel) (by decide +kernel), AW_mem 1070 (by decide +kernel) (by decide +kernel), by decide +kernel, by decide +kernel⟩
theorem cd_X5_isAlike : CallD M_X5_isAlike 2 := ⟨AW_mem 81 (by decide +kernel) (by decide +kernel), AW_mem 1074 (by decide +kernel) (by decide +kernel), by decide +kernel, by decide +kernel⟩
theorem cd_X5_all : CallD M_X5_all 1 := ⟨AW_mem 81 (by decide +kernel) (by decide +kernel), AW_mem 1078 (by decide +kernel) (by decide +kernel), by decide +kernel, by decide +kernel⟩
theorem cd_X5_lettuce : CallD M_X5_lettuce 1 := ⟨AW_mem 81 (by decide +kernel) (by decide +kernel), AW_mem 1082 (by decide +kernel) (by decide +kernel), by decide +kernel, by decide +kernel⟩
theorem cd_X5_left : CallD M_X5_left 0 := ⟨AW_mem 81 (by decide +kernel) (by decide +kernel), AW_mem 1086 (by decide +kernel) (by decide +kernel), by decide +kernel, by decide +kernel⟩
theorem cd_X5_best : CallD M_X5_best 3 := ⟨AW_mem 81 (by decide +kernel) (by decide +kernel), AW_mem 1090 (by decide +kernel) (by decide +kernel), by decide +kernel, by decide +kernel⟩
theorem cd_X5_gladBehind : CallD M_X5_gladBehind 1 := ⟨AW_mem 81 (by decide +kernel) (by decide +kernel), AW_mem 1094 (by decide +kernel) (by decide +kernel), by decide +kernel, by decide +kernel⟩
theorem cd_X5_leaveOut : CallD M_X5_leaveOut 2 := ⟨AW_mem 81 (by decide +kernel) (by decide +kernel), AW_mem 1098 (by decide +kernel) (by decide +kernel), by decide +kernel, by decide +kernel⟩
theorem cd_X5_spare : CallD M_X5_spare 2 := ⟨AW_mem 81 (by decide +kernel) (by decide +kernel), AW_mem 1102 (by decide +kernel) (by decide +kernel), by decide +kernel, by decide +kernel⟩
theorem cd_X5_add : CallD M_X5_add 3 := ⟨AW_mem 81 (by decide +kernel) (by decide +kernel), AW_mem 1106 (by decide +kernel) (by decide +kernel), by decide +kernel, by decide +kernel⟩
theorem cd_X5_tells : CallD M_X5_tells 3 := ⟨AW_mem 81 (by decide +kernel) (by decide +kernel), AW_mem 1110 (by decide +kernel) (by decide +kernel), by decide +kernel, by decide +kernel⟩
theorem cd_X5_isSheet : CallD M_X5_isSheet 1 := ⟨AW_mem 81 (by decide +kernel) (by decide +kernel), AW_mem 1113 (by decide +kernel) (by decide +kernel), by decide +kernel, by decide +kernel⟩
theorem cd_X5_wrong : CallD M_X5_wrong 2 := ⟨AW_mem 81 (by decide +kernel) (by decide +kernel), AW_mem 1117 (by decide +kernel) (by decide +kernel), by decide +kernel, by decide +kernel⟩
theorem cd_X5_kindsSo : CallD M_X5_kindsSo 2 := ⟨AW_mem 81 (by decide +kernel) (by decide +kernel), AW_mem 1121 (by decide +kernel) (by decide +kernel), by decide +kernel, by decide +kernel⟩
theorem cd_X5_numbersSo : CallD M_X5_numbersSo 2 := ⟨AW_mem 81 (by decide +kernel) (by decide +kernel), AW_mem 1125 (by decide +kernel) (by decide +kernel), by decide +kernel, by decide +kernel⟩
theorem cd_X5_moodsSo : CallD M_X5_moodsSo 3 := ⟨AW_mem 81 (by decide +kernel) (by decide +kernel), AW_mem 1129 (by decide +kernel) (by decide +kernel), by decide +kernel, by decide +kernel⟩
theorem cd_X5_textsSo : CallD M_X5_textsSo 2 := ⟨AW_mem 81 (by decide +kernel) (by decide +kernel), AW_mem 1133 (by decide +kernel) (by decide +kernel), by decide +kernel, by decide +kernel⟩
theorem cd_X5_film : CallD M_X5_film 3 := ⟨AW_mem 81 (by decide +kernel) (by decide +kernel), AW_mem 1137 (by decide +kernel) (by decide +kernel), by decide +kernel, by decide +kernel⟩
theorem cd_X5_sheet : CallD M_X5_sheet 3 := ⟨AW_mem 81 (by decide +kernel) (by decide +kernel), AW_mem 1141 (by decide +kernel) (by decide +kernel), by decide +kernel, by decide +kernel⟩
theorem cd_X5_drawn : CallD M_X5_drawn 1 := ⟨AW_mem 81 (by decide +kernel) (by decide +kernel), AW_mem 1145 (by decide +kernel) (by decide +kernel), by decide +kernel, by decide +kernel⟩
theorem cd_X5_byLot : CallD M_X5_byLot 1 := ⟨AW_mem 81 (by decide +kernel) (by decide +kernel), AW_mem 1149 (by decide +kernel) (by decide +kernel), by decide +kernel, by decide +kernel⟩
theorem cd_X5_chance : CallD M_X5_chance 4 := ⟨AW_mem 81 (by decide +kernel) (by decide +kernel), AW_mem 1154 (by decide +kernel) (by decide +kernel), by decide +kernel, by decide +kernel⟩
theorem cd_X5_image : CallD M_X5_image 0 := ⟨AW_mem 81 (by decide +kernel) (by decide +kernel), AW_mem 1159 (by decide +kernel) (by decide +kernel), by decide +kernel, by decide +kernel⟩
theorem cd_X5_back : CallD M_X5_back 0 := ⟨AW_mem 81 (by decide +kernel) (by decide +kernel), AW_mem 1163 (by decide +kernel) (by decide +kernel), by decide +kernel, by decide +kernel⟩
theorem cd_X5_count : CallD M_X5_count 1 := ⟨AW_mem 81 (by decide +kernel) (by decide +kernel), AW_mem 1167 (by decide +kernel) (by decide +kernel), by decide +kernel, by decide +kernel⟩
theorem cd_X5_cell : CallD M_X5_cell 3 := ⟨AW_mem 81 (by decide +kernel) (by decide +kernel), AW_mem 1172 (by decide +kernel) (by decide +kernel), by decide +kernel, by decide +kernel⟩
theorem cd_X5_copy : CallD M_X5_copy 5 := ⟨AW_mem 81 (by decide +kernel) (by decide +kernel), AW_mem 1176 (by decide +kernel) (by decide +kernel), by decide +kernel, by decide +kernel⟩
theorem cd_X5_people : CallD M_X5_people 4 := ⟨AW_mem 81 (by decide +kernel) (by decide +kernel), AW_mem 1180 (by decide +kernel) (by decide +kernel), by decide +kernel, by decide +kernel⟩
theorem cd_X5_taken : CallD M_X5_taken 2 := ⟨AW_mem 81 (by decide +kernel) (by decide +kernel), AW_mem 1186 (by decide +kernel) (by decide +kernel), by decide +kernel, by decide +kernel⟩
theorem cl_X4_51 : CallV RX4 RJ0 51 M_J0_length_8abf5 0 := ⟨AW_mem 220 (by decide +kernel) (by decide +kernel), AW_mem 221 (by decide +kernel) (by decide +kernel), AW_mem 222 (by decide +kernel) (by decide +kernel), cd_J0_length_8abf5⟩
theorem cl_J0_335 : CallV RJ0 RJ0 335 M_J0_coder_7d493 0 := ⟨AW_mem 224 (by decide +kernel) (by decide +kernel), AW_mem 225 (by decide +kernel) (by decide +kernel), AW_mem 226 (by decide +kernel) (by decide +kernel), cd_J0_coder_7d493⟩
theorem cl_X4_57 : CallV RX4 RJ0 57 M_J0_charAt_5068e 1 := ⟨AW_mem 230 (by decide +kernel) (by decide +kernel), AW_mem 231 (by decide +kernel) (by decide +kernel), AW_mem 232 (by decide +kernel) (by decide +kernel), cd_J0_charAt_5068e⟩
theorem cl_J0_492 : CallV RJ0 RJ0 492 M_J0_isLatin1_aae02 0 := ⟨AW_mem 234 (by decide +kernel) (by decide +kernel), AW_mem 235 (by decide +kernel) (by decide +kernel), AW_mem 236 (by decide +kernel) (by decide +kernel), cd_J0_isLatin1_aae02⟩
theorem cl_J0_495 : CallS RJ0 495 M_J1_charAt_3b067 2 := ⟨AW_mem 238 (by decide +kernel) (by decide +kernel), AW_mem 239 (by decide +kernel) (by decide +kernel), cd_J1_charAt_3b067⟩
theorem cl_J1_9 : CallS RJ1 9 M_J0_checkIndex_df160 2 := ⟨AW_mem 241 (by decide +kernel) (by decide +kernel), AW_mem 242 (by decide +kernel) (by decide +kernel), cd_J0_checkIndex_df160⟩
theorem cl_J0_1059 : CallS RJ0 1059 M_J3_checkIndex_8e157 3 := ⟨AW_mem 246 (by decide +kernel) (by decide +kernel), AW_mem 247 (by decide +kernel) (by decide +kernel), cd_J3_checkIndex_8e157⟩
theorem cl_X4_61 : CallV RX4 RX1 61 M_X1_takeByte 1 := ⟨AW_mem 268 (by decide +kernel) (by decide +kernel), AW_mem 269 (by decide +kernel) (by decide +kernel), AW_mem 270 (by decide +kernel) (by decide +kernel), cd_X1_takeByte⟩
theorem cl_X4_65 : CallV RX4 RX1 65 M_X1_readInto 1 := ⟨AW_mem 272 (by decide +kernel) (by decide +kernel), AW_mem 273 (by decide +kernel) (by decide +kernel), AW_mem 274 (by decide +kernel) (by decide +kernel), cd_X1_readInto⟩
theorem cl_X1_23 : CallV RX1 RX3 23 M_X3_empty 0 := ⟨AW_mem 276 (by decide +kernel) (by decide +kernel), AW_mem 277 (by decide +kernel) (by decide +kernel), AW_mem 278 (by decide +kernel) (by decide +kernel), cd_X3_empty⟩
theorem cl_X1_37 : CallV RX1 RX1 37 M_X1_readToken 0 := ⟨AW_mem 280 (by decide +kernel) (by decide +kernel), AW_mem 282 (by decide +kernel) (by decide +kernel), AW_mem 0 (by decide +kernel) (by decide +kernel), cd_X1_readToken⟩
theorem cl_X1_87 : CallSN M_X4_isIn 3 := ⟨AW_mem 285 (by decide +kernel) (by decide +kernel), cd_X4_isIn⟩
theorem cl_X1_91 : CallV RX1 RX1 91 M_X1_readWord 0 := ⟨AW_mem 287 (by decide +kernel) (by decide +kernel), AW_mem 289 (by decide +kernel) (by decide +kernel), AW_mem 1 (by decide +kernel) (by decide +kernel), cd_X1_readWord⟩
theorem cl_X1_105 : CallV RX1 RX1 105 M_X1_wordNumber 0 := ⟨AW_mem 291 (by decide +kernel) (by decide +kernel), AW_mem 293 (by decide +kernel) (by decide +kernel), AW_mem 2 (by decide +kernel) (by decide +kernel), cd_X1_wordNumber⟩
theorem cl_X1_111 : CallV RX1 RJ0 111 M_J0_length_8abf5 0 := ⟨AW_mem 296 (by decide +kernel) (by decide +kernel), AW_mem 221 (by decide +kernel) (by decide +kernel), AW_mem 222 (by decide +kernel) (by decide +kernel), cd_J0_length_8abf5⟩
theorem cl_X1_114 : CallV RX1 RJ0 114 M_J0_charAt_5068e 1 := ⟨AW_mem 297 (by decide +kernel) (by decide +kernel), AW_mem 231 (by decide +kernel) (by decide +kernel), AW_mem 232 (by decide +kernel) (by decide +kernel), cd_J0_charAt_5068e⟩
theorem cl_X1_94 : CallV RX1 RX1 94 M_X1_readNumeral 0 := ⟨AW_mem 298 (by decide +kernel) (by decide +kernel), AW_mem 300 (by decide +kernel) (by decide +kernel), AW_mem 3 (by decide +kernel) (by decide +kernel), cd_X1_readNumeral⟩
theorem cl_X1_99 : CallV RX1 RJ0 99 M_J0_indexOf_0f7a4 1 := ⟨AW_mem 303 (by decide +kernel) (by decide +kernel), AW_mem 304 (by decide +kernel) (by decide +kernel), AW_mem 305 (by decide +kernel) (by decide +kernel), cd_J0_indexOf_0f7a4⟩
theorem cl_J0_633 : CallV RJ0 RJ0 633 M_J0_indexOf_7cf53 2 := ⟨AW_mem 307 (by decide +kernel) (by decide +kernel), AW_mem 308 (by decide +kernel) (by decide +kernel), AW_mem 309 (by decide +kernel) (by decide +kernel), cd_J0_indexOf_7cf53⟩
theorem cl_J0_505 : CallV RJ0 RJ0 505 M_J0_length_8abf5 0 := ⟨AW_mem 311 (by decide +kernel) (by decide +kernel), AW_mem 221 (by decide +kernel) (by decide +kernel), AW_mem 222 (by decide +kernel) (by decide +kernel), cd_J0_length_8abf5⟩
theorem cl_J0_637 : CallS RJ0 637 M_J1_indexOf_4cfef 4 := ⟨AW_mem 312 (by decide +kernel) (by decide +kernel), AW_mem 313 (by decide +kernel) (by decide +kernel), cd_J1_indexOf_4cfef⟩
theorem cl_J1_88 : CallS RJ1 88 M_J1_canEncode_9a6ad 1 := ⟨AW_mem 315 (by decide +kernel) (by decide +kernel), AW_mem 316 (by decide +kernel) (by decide +kernel), cd_J1_canEncode_9a6ad⟩
theorem cl_J1_92 : CallS RJ1 92 M_J9_max_7cf53 2 := ⟨AW_mem 318 (by decide +kernel) (by decide +kernel), AW_mem 319 (by decide +kernel) (by decide +kernel), cd_J9_max_7cf53⟩
theorem cl_J1_38 : CallS RJ1 38 M_J9_min_7cf53 2 := ⟨AW_mem 321 (by decide +kernel) (by decide +kernel), AW_mem 322 (by decide +kernel) (by decide +kernel), cd_J9_min_7cf53⟩
theorem cl_J1_95 : CallS RJ1 95 M_J1_indexOfChar_4cfef 4 := ⟨AW_mem 324 (by decide +kernel) (by decide +kernel), AW_mem 325 (by decide +kernel) (by decide +kernel), cd_J1_indexOfChar_4cfef⟩
theorem cl_J0_1062 : CallS RJ0 1062 M_J3_checkFromToIndex_8c36e 4 := ⟨AW_mem 342 (by decide +kernel) (by decide +kernel), AW_mem 343 (by decide +kernel) (by decide +kernel), cd_J3_checkFromToIndex_8c36e⟩
theorem cl_X1_40 : CallV RX1 RX3 40 M_X3_beginPart 1 := ⟨AW_mem 362 (by decide +kernel) (by decide +kernel), AW_mem 363 (by decide +kernel) (by decide +kernel), AW_mem 364 (by decide +kernel) (by decide +kernel), cd_X3_beginPart⟩
theorem cl_X1_44 : CallV RX1 RX1 44 M_X1_pass 1 := ⟨AW_mem 366 (by decide +kernel) (by decide +kernel), AW_mem 368 (by decide +kernel) (by decide +kernel), AW_mem 4 (by decide +kernel) (by decide +kernel), cd_X1_pass⟩
theorem cl_X1_53 : CallV RX1 RX1 53 M_X1_fail 0 := ⟨AW_mem 370 (by decide +kernel) (by decide +kernel), AW_mem 372 (by decide +kernel) (by decide +kernel), AW_mem 5 (by decide +kernel) (by decide +kernel), cd_X1_fail⟩
theorem cl_X1_47 : CallV RX1 RX1 47 M_X1_readOr 0 := ⟨AW_mem 374 (by decide +kernel) (by decide +kernel), AW_mem 376 (by decide +kernel) (by decide +kernel), AW_mem 6 (by decide +kernel) (by decide +kernel), cd_X1_readOr⟩
theorem cl_X1_59 : CallV RX1 RX1 59 M_X1_readAnd 0 := ⟨AW_mem 378 (by decide +kernel) (by decide +kernel), AW_mem 380 (by decide +kernel) (by decide +kernel), AW_mem 7 (by decide +kernel) (by decide +kernel), cd_X1_readAnd⟩
theorem cl_X1_65 : CallV RX1 RX1 65 M_X1_readNot 0 := ⟨AW_mem 382 (by decide +kernel) (by decide +kernel), AW_mem 384 (by decide +kernel) (by decide +kernel), AW_mem 8 (by decide +kernel) (by decide +kernel), cd_X1_readNot⟩
theorem cl_X1_68 : CallV RX1 RX1 68 M_X1_readCompared 0 := ⟨AW_mem 386 (by decide +kernel) (by decide +kernel), AW_mem 388 (by decide +kernel) (by decide +kernel), AW_mem 9 (by decide +kernel) (by decide +kernel), cd_X1_readCompared⟩
theorem cl_X1_75 : CallV RX1 RX1 75 M_X1_readSum 0 := ⟨AW_mem 390 (by decide +kernel) (by decide +kernel), AW_mem 392 (by decide +kernel) (by decide +kernel), AW_mem 10 (by decide +kernel) (by decide +kernel), cd_X1_readSum⟩
theorem cl_X1_78 : CallV RX1 RX1 78 M_X1_readTerm 0 := ⟨AW_mem 394 (by decide +kernel) (by decide +kernel), AW_mem 396 (by decide +kernel) (by decide +kernel), AW_mem 11 (by decide +kernel) (by decide +kernel), cd_X1_readTerm⟩
theorem cl_X1_81 : CallV RX1 RX1 81 M_X1_readOne 0 := ⟨AW_mem 398 (by decide +kernel) (by decide +kernel), AW_mem 400 (by decide +kernel) (by decide +kernel), AW_mem 12 (by decide +kernel) (by decide +kernel), cd_X1_readOne⟩
theorem cl_X1_62 : CallV RX1 RX3 62 M_X3_takeStep 1 := ⟨AW_mem 402 (by decide +kernel) (by decide +kernel), AW_mem 403 (by decide +kernel) (by decide +kernel), AW_mem 404 (by decide +kernel) (by decide +kernel), cd_X3_takeStep⟩
theorem cl_X1_71 : CallV RX1 RX1 71 M_X1_opens 0 := ⟨AW_mem 406 (by decide +kernel) (by decide +kernel), AW_mem 408 (by decide +kernel) (by decide +kernel), AW_mem 13 (by decide +kernel) (by decide +kernel), cd_X1_opens⟩
theorem cl_X4_76 : CallS RX4 76 M_X4_isIn 3 := ⟨AW_mem 443 (by decide +kernel) (by decide +kernel), AW_mem 285 (by decide +kernel) (by decide +kernel), cd_X4_isIn⟩
theorem cl_X4_80 : CallV RX4 RX4 80 M_X4_isThere 2 := ⟨AW_mem 444 (by decide +kernel) (by decide +kernel), AW_mem 446 (by decide +kernel) (by decide +kernel), AW_mem 14 (by decide +kernel) (by decide +kernel), cd_X4_isThere⟩
theorem cl_X4_124 : CallV RX4 RX4 124 M_X4_isPerson 1 := ⟨AW_mem 448 (by decide +kernel) (by decide +kernel), AW_mem 450 (by decide +kernel) (by decide +kernel), AW_mem 15 (by decide +kernel) (by decide +kernel), cd_X4_isPerson⟩
theorem cl_X4_84 : CallS RX4 84 M_X4_fits 2 := ⟨AW_mem 452 (by decide +kernel) (by decide +kernel), AW_mem 453 (by decide +kernel) (by decide +kernel), cd_X4_fits⟩
theorem cl_X4_87 : CallV RX4 RX4 87 M_X4_plainly 2 := ⟨AW_mem 455 (by decide +kernel) (by decide +kernel), AW_mem 457 (by decide +kernel) (by decide +kernel), AW_mem 16 (by decide +kernel) (by decide +kernel), cd_X4_plainly⟩
theorem cl_X4_103 : CallV RX4 RX0 103 M_X0_takeIn 2 := ⟨AW_mem 463 (by decide +kernel) (by decide +kernel), AW_mem 464 (by decide +kernel) (by decide +kernel), AW_mem 465 (by decide +kernel) (by decide +kernel), cd_X0_takeIn⟩
theorem cl_X4_109 : CallV RX4 RX0 109 M_X0_filledFrom 1 := ⟨AW_mem 471 (by decide +kernel) (by decide +kernel), AW_mem 472 (by decide +kernel) (by decide +kernel), AW_mem 473 (by decide +kernel) (by decide +kernel), cd_X0_filledFrom⟩
theorem cl_X0_90 : CallV RX0 RX0 90 M_X0_layersOf 2 := ⟨AW_mem 475 (by decide +kernel) (by decide +kernel), AW_mem 476 (by decide +kernel) (by decide +kernel), AW_mem 477 (by decide +kernel) (by decide +kernel), cd_X0_layersOf⟩
theorem cl_X0_65 : CallV RX0 RX0 65 M_X0_sendsTo 2 := ⟨AW_mem 479 (by decide +kernel) (by decide +kernel), AW_mem 480 (by decide +kernel) (by decide +kernel), AW_mem 481 (by decide +kernel) (by decide +kernel), cd_X0_sendsTo⟩
theorem cl_X0_51 : CallV RX0 RX0 51 M_X0_nameAll 5 := ⟨AW_mem 483 (by decide +kernel) (by decide +kernel), AW_mem 485 (by decide +kernel) (by decide +kernel), AW_mem 17 (by decide +kernel) (by decide +kernel), cd_X0_nameAll⟩
theorem cl_X0_55 : CallV RX0 RX3 55 M_X3_valueOf 3 := ⟨AW_mem 487 (by decide +kernel) (by decide +kernel), AW_mem 488 (by decide +kernel) (by decide +kernel), AW_mem 489 (by decide +kernel) (by decide +kernel), cd_X3_valueOf⟩
theorem cl_X0_61 : CallV RX0 RX0 61 M_X0_inlawSends 2 := ⟨AW_mem 491 (by decide +kernel) (by decide +kernel), AW_mem 493 (by decide +kernel) (by decide +kernel), AW_mem 18 (by decide +kernel) (by decide +kernel), cd_X0_inlawSends⟩
theorem cl_X0_69 : CallV RX0 RX0 69 M_X0_cutsFor 3 := ⟨AW_mem 495 (by decide +kernel) (by decide +kernel), AW_mem 497 (by decide +kernel) (by decide +kernel), AW_mem 19 (by decide +kernel) (by decide +kernel), cd_X0_cutsFor⟩
theorem cl_X0_73 : CallV RX0 RX0 73 M_X0_motherCuts 3 := ⟨AW_mem 499 (by decide +kernel) (by decide +kernel), AW_mem 501 (by decide +kernel) (by decide +kernel), AW_mem 20 (by decide +kernel) (by decide +kernel), cd_X0_motherCuts⟩
theorem cl_X0_77 : CallS RX0 77 M_X0_inlawCuts 2 := ⟨AW_mem 503 (by decide +kernel) (by decide +kernel), AW_mem 504 (by decide +kernel) (by decide +kernel), cd_X0_inlawCuts⟩
theorem cl_X4_113 : CallV RX4 RX0 113 M_X0_layersTo 1 := ⟨AW_mem 506 (by decide +kernel) (by decide +kernel), AW_mem 507 (by decide +kernel) (by decide +kernel), AW_mem 508 (by decide +kernel) (by decide +kernel), cd_X0_layersTo⟩
theorem cl_X0_117 : CallS RX0 117 M_J6_bitCount_0f7a4 1 := ⟨AW_mem 510 (by decide +kernel) (by decide +kernel), AW_mem 511 (by decide +kernel) (by decide +kernel), cd_J6_bitCount_0f7a4⟩
theorem cl_X4_116 : CallV RX4 RX0 116 M_X0_becomeLike 1 := ⟨AW_mem 516 (by decide +kernel) (by decide +kernel), AW_mem 517 (by decide +kernel) (by decide +kernel), AW_mem 518 (by decide +kernel) (by decide +kernel), cd_X0_becomeLike⟩
theorem cl_X4_120 : CallV RX4 RX0 120 M_X0_passSunday 0 := ⟨AW_mem 520 (by decide +kernel) (by decide +kernel), AW_mem 521 (by decide +kernel) (by decide +kernel), AW_mem 522 (by decide +kernel) (by decide +kernel), cd_X0_passSunday⟩
theorem cl_X0_97 : CallV RX0 RX0 97 M_X0_feltFrom 2 := ⟨AW_mem 524 (by decide +kernel) (by decide +kernel), AW_mem 525 (by decide +kernel) (by decide +kernel), AW_mem 526 (by decide +kernel) (by decide +kernel), cd_X0_feltFrom⟩
theorem cl_X0_93 : CallV RX0 RX0 93 M_X0_feelsBy 3 := ⟨AW_mem 528 (by decide +kernel) (by decide +kernel), AW_mem 529 (by decide +kernel) (by decide +kernel), AW_mem 530 (by decide +kernel) (by decide +kernel), cd_X0_feelsBy⟩
theorem cl_X0_80 : CallSN M_X4_bounded 1 := ⟨AW_mem 533 (by decide +kernel) (by decide +kernel), cd_X4_bounded⟩
theorem cl_X4_192 : CallS RX4 192 M_J9_min_7cf53 2 := ⟨AW_mem 535 (by decide +kernel) (by decide +kernel), AW_mem 322 (by decide +kernel) (by decide +kernel), cd_J9_min_7cf53⟩
theorem cl_X4_197 : CallS RX4 197 M_J9_max_7cf53 2 := ⟨AW_mem 536 (by decide +kernel) (by decide +kernel), AW_mem 319 (by decide +kernel) (by decide +kernel), cd_J9_max_7cf53⟩
theorem cl_X0_84 : CallS RX0 84 M_J9_max_7cf53 2 := ⟨AW_mem 537 (by decide +kernel) (by decide +kernel), AW_mem 319 (by decide +kernel) (by decide +kernel), cd_J9_max_7cf53⟩
theorem cl_X4_131 : CallV RX4 RX4 131 M_X4_areTwo 2 := ⟨AW_mem 554 (by decide +kernel) (by decide +kernel), AW_mem 556 (by decide +kernel) (by decide +kernel), AW_mem 21 (by decide +kernel) (by decide +kernel), cd_X4_areTwo⟩
theorem cl_X4_134 : CallV RX4 RX0 134 M_X0_feelsBy 3 := ⟨AW_mem 558 (by decide +kernel) (by decide +kernel), AW_mem 529 (by decide +kernel) (by decide +kernel), AW_mem 530 (by decide +kernel) (by decide +kernel), cd_X0_feelsBy⟩
theorem cl_X4_138 : CallV RX4 RX0 138 M_X0_layersOf 2 := ⟨AW_mem 559 (by decide +kernel) (by decide +kernel), AW_mem 476 (by decide +kernel) (by decide +kernel), AW_mem 477 (by decide +kernel) (by decide +kernel), cd_X0_layersOf⟩
theorem cl_X4_141 : CallS RX4 141 M_J6_bitCount_0f7a4 1 := ⟨AW_mem 560 (by decide +kernel) (by decide +kernel), AW_mem 511 (by decide +kernel) (by decide +kernel), cd_J6_bitCount_0f7a4⟩
theorem cl_X4_146 : CallV RX4 RX0 146 M_X0_sendsTo 2 := ⟨AW_mem 561 (by decide +kernel) (by decide +kernel), AW_mem 480 (by decide +kernel) (by decide +kernel), AW_mem 481 (by decide +kernel) (by decide +kernel), cd_X0_sendsTo⟩
theorem cl_X4_149 : CallV RX4 RX0 149 M_X0_feltFrom 2 := ⟨AW_mem 562 (by decide +kernel) (by decide +kernel), AW_mem 525 (by decide +kernel) (by decide +kernel), AW_mem 526 (by decide +kernel) (by decide +kernel), cd_X0_feltFrom⟩
theorem cl_X4_152 : CallV RX4 RX0 152 M_X0_glad 0 := ⟨AW_mem 567 (by decide +kernel) (by decide +kernel), AW_mem 568 (by decide +kernel) (by decide +kernel), AW_mem 569 (by decide +kernel) (by decide +kernel), cd_X0_glad⟩
theorem cl_X4_155 : CallV RX4 RX0 155 M_X0_emptyBehind 1 := ⟨AW_mem 575 (by decide +kernel) (by decide +kernel), AW_mem 576 (by decide +kernel) (by decide +kernel), AW_mem 577 (by decide +kernel) (by decide +kernel), cd_X0_emptyBehind⟩
theorem cl_X0_108 : CallV RX0 RX0 108 M_X0_filledFrom 1 := ⟨AW_mem 579 (by decide +kernel) (by decide +kernel), AW_mem 472 (by decide +kernel) (by decide +kernel), AW_mem 473 (by decide +kernel) (by decide +kernel), cd_X0_filledFrom⟩
theorem cl_X0_100 : CallV RX0 RX0 100 M_X0_passSunday 0 := ⟨AW_mem 580 (by decide +kernel) (by decide +kernel), AW_mem 521 (by decide +kernel) (by decide +kernel), AW_mem 522 (by decide +kernel) (by decide +kernel), cd_X0_passSunday⟩
theorem cl_X4_158 : CallV RX4 RX0 158 M_X0_gladBehind 1 := ⟨AW_mem 581 (by decide +kernel) (by decide +kernel), AW_mem 582 (by decide +kernel) (by decide +kernel), AW_mem 583 (by decide +kernel) (by decide +kernel), cd_X0_gladBehind⟩
theorem cl_X0_104 : CallV RX0 RX0 104 M_X0_glad 0 := ⟨AW_mem 585 (by decide +kernel) (by decide +kernel), AW_mem 568 (by decide +kernel) (by decide +kernel), AW_mem 569 (by decide +kernel) (by decide +kernel), cd_X0_glad⟩
theorem cl_X4_161 : CallV RX4 RX0 161 M_X0_allMoods 0 := ⟨AW_mem 590 (by decide +kernel) (by decide +kernel), AW_mem 591 (by decide +kernel) (by decide +kernel), AW_mem 592 (by decide +kernel) (by decide +kernel), cd_X0_allMoods⟩
theorem cl_X4_164 : CallV RX4 RX4 164 M_X4_firstDead 0 := ⟨AW_mem 594 (by decide +kernel) (by decide +kernel), AW_mem 596 (by decide +kernel) (by decide +kernel), AW_mem 22 (by decide +kernel) (by decide +kernel), cd_X4_firstDead⟩
theorem cl_X4_167 : CallV RX4 RX4 167 M_X4_firstAgain 1 := ⟨AW_mem 598 (by decide +kernel) (by decide +kernel), AW_mem 600 (by decide +kernel) (by decide +kernel), AW_mem 23 (by decide +kernel) (by decide +kernel), cd_X4_firstAgain⟩
theorem cl_X4_170 : CallV RX4 RX0 170 M_X0_lettuceCount 0 := ⟨AW_mem 606 (by decide +kernel) (by decide +kernel), AW_mem 607 (by decide +kernel) (by decide +kernel), AW_mem 608 (by decide +kernel) (by decide +kernel), cd_X0_lettuceCount⟩
theorem cl_X4_173 : CallV RX4 RX0 173 M_X0_lettuceFirst 0 := ⟨AW_mem 610 (by decide +kernel) (by decide +kernel), AW_mem 611 (by decide +kernel) (by decide +kernel), AW_mem 612 (by decide +kernel) (by decide +kernel), cd_X0_lettuceFirst⟩
theorem cl_X4_176 : CallV RX4 RX0 176 M_X0_leftAlone 0 := ⟨AW_mem 614 (by decide +kernel) (by decide +kernel), AW_mem 615 (by decide +kernel) (by decide +kernel), AW_mem 616 (by decide +kernel) (by decide +kernel), cd_X0_leftAlone⟩
theorem cl_X0_122 : CallV RX0 RX0 122 M_X0_layersTo 1 := ⟨AW_mem 618 (by decide +kernel) (by decide +kernel), AW_mem 507 (by decide +kernel) (by decide +kernel), AW_mem 508 (by decide +kernel) (by decide +kernel), cd_X0_layersTo⟩
theorem cl_X4_180 : CallV RX4 RX4 180 M_X4_gladAsItIs 1 := ⟨AW_mem 628 (by decide +kernel) (by decide +kernel), AW_mem 630 (by decide +kernel) (by decide +kernel), AW_mem 24 (by decide +kernel) (by decide +kernel), cd_X4_gladAsItIs⟩
theorem cl_X4_189 : CallS RX4 189 M_X4_bounded 1 := ⟨AW_mem 640 (by decide +kernel) (by decide +kernel), AW_mem 533 (by decide +kernel) (by decide +kernel), cd_X4_bounded⟩
theorem cl_X4_200 : CallS RX4 200 M_X4_isSheet 1 := ⟨AW_mem 645 (by decide +kernel) (by decide +kernel), AW_mem 646 (by decide +kernel) (by decide +kernel), cd_X4_isSheet⟩
theorem cl_X4_203 : CallV RX4 RX2 203 M_X2_isMissing 0 := ⟨AW_mem 648 (by decide +kernel) (by decide +kernel), AW_mem 649 (by decide +kernel) (by decide +kernel), AW_mem 650 (by decide +kernel) (by decide +kernel), cd_X2_isMissing⟩
theorem cl_X4_207 : CallV RX4 RX0 207 M_X0_firstOtherwise 2 := ⟨AW_mem 652 (by decide +kernel) (by decide +kernel), AW_mem 653 (by decide +kernel) (by decide +kernel), AW_mem 654 (by decide +kernel) (by decide +kernel), cd_X0_firstOtherwise⟩
theorem cl_X4_211 : CallV RX4 RX4 211 M_X4_moodsSo 3 := ⟨AW_mem 656 (by decide +kernel) (by decide +kernel), AW_mem 658 (by decide +kernel) (by decide +kernel), AW_mem 25 (by decide +kernel) (by decide +kernel), cd_X4_moodsSo⟩
theorem cl_X4_215 : CallV RX4 RX4 215 M_X4_bitsSo 3 := ⟨AW_mem 660 (by decide +kernel) (by decide +kernel), AW_mem 662 (by decide +kernel) (by decide +kernel), AW_mem 26 (by decide +kernel) (by decide +kernel), cd_X4_bitsSo⟩
theorem cl_X4_219 : CallV RX4 RX2 219 M_X2_clear 2 := ⟨AW_mem 668 (by decide +kernel) (by decide +kernel), AW_mem 669 (by decide +kernel) (by decide +kernel), AW_mem 670 (by decide +kernel) (by decide +kernel), cd_X2_clear⟩
theorem cl_X4_223 : CallV RX4 RX2 223 M_X2_put 2 := ⟨AW_mem 672 (by decide +kernel) (by decide +kernel), AW_mem 673 (by decide +kernel) (by decide +kernel), AW_mem 674 (by decide +kernel) (by decide +kernel), cd_X2_put⟩
theorem cl_X4_226 : CallV RX4 RX0 226 M_X0_drawMoods 1 := ⟨AW_mem 680 (by decide +kernel) (by decide +kernel), AW_mem 681 (by decide +kernel) (by decide +kernel), AW_mem 682 (by decide +kernel) (by decide +kernel), cd_X0_drawMoods⟩
theorem cl_X4_232 : CallS RX4 232 M_X4_sharedDivisor 2 := ⟨AW_mem 690 (by decide +kernel) (by decide +kernel), AW_mem 691 (by decide +kernel) (by decide +kernel), cd_X4_sharedDivisor⟩
theorem cl_X4_239 : CallV RX4 RX2 239 M_X2_hasItem 1 := ⟨AW_mem 713 (by decide +kernel) (by decide +kernel), AW_mem 714 (by decide +kernel) (by decide +kernel), AW_mem 715 (by decide +kernel) (by decide +kernel), cd_X2_hasItem⟩
theorem cl_X4_245 : CallV RX4 RX2 245 M_X2_hasPiece 2 := ⟨AW_mem 721 (by decide +kernel) (by decide +kernel), AW_mem 722 (by decide +kernel) (by decide +kernel), AW_mem 723 (by decide +kernel) (by decide +kernel), cd_X2_hasPiece⟩
theorem cl_X4_257 : CallV RX4 RX4 257 M_X4_person 2 := ⟨AW_mem 732 (by decide +kernel) (by decide +kernel), AW_mem 460 (by decide +kernel) (by decide +kernel), AW_mem 461 (by decide +kernel) (by decide +kernel), cd_X4_person⟩
theorem cl_X5_72 : CallV RX5 RX5 72 M_X5_codes 1 := ⟨AW_mem 745 (by decide +kernel) (by decide +kernel), AW_mem 747 (by decide +kernel) (by decide +kernel), AW_mem 27 (by decide +kernel) (by decide +kernel), cd_X5_codes⟩
theorem cl_X5_96 : CallV RX5 RX5 96 M_X5_isOf 2 := ⟨AW_mem 878 (by decide +kernel) (by decide +kernel), AW_mem 880 (by decide +kernel) (by decide +kernel), AW_mem 28 (by decide +kernel) (by decide +kernel), cd_X5_isOf⟩
theorem cl_X5_90 : CallS RX5 90 M_X5_isLayer 1 := ⟨AW_mem 882 (by decide +kernel) (by decide +kernel), AW_mem 883 (by decide +kernel) (by decide +kernel), cd_X5_isLayer⟩
theorem cl_X5_82 : CallS RX5 82 M_X5_within 3 := ⟨AW_mem 885 (by decide +kernel) (by decide +kernel), AW_mem 886 (by decide +kernel) (by decide +kernel), cd_X5_within⟩
theorem cl_X5_86 : CallV RX5 RX5 86 M_X5_isOne 1 := ⟨AW_mem 888 (by decide +kernel) (by decide +kernel), AW_mem 890 (by decide +kernel) (by decide +kernel), AW_mem 29 (by decide +kernel) (by decide +kernel), cd_X5_isOne⟩
theorem cl_X5_100 : CallS RX5 100 M_X5_isFit 2 := ⟨AW_mem 892 (by decide +kernel) (by decide +kernel), AW_mem 893 (by decide +kernel) (by decide +kernel), cd_X5_isFit⟩
theorem cl_X5_103 : CallV RX5 RX5 103 M_X5_get 2 := ⟨AW_mem 895 (by decide +kernel) (by decide +kernel), AW_mem 897 (by decide +kernel) (by decide +kernel), AW_mem 30 (by decide +kernel) (by decide +kernel), cd_X5_get⟩
theorem cl_X5_114 : CallV RX5 RX5 114 M_X5_sent 1 := ⟨AW_mem 907 (by decide +kernel) (by decide +kernel), AW_mem 909 (by decide +kernel) (by decide +kernel), AW_mem 31 (by decide +kernel) (by decide +kernel), cd_X5_sent⟩
theorem cl_X5_107 : CallV RX5 RX5 107 M_X5_made 2 := ⟨AW_mem 911 (by decide +kernel) (by decide +kernel), AW_mem 913 (by decide +kernel) (by decide +kernel), AW_mem 32 (by decide +kernel) (by decide +kernel), cd_X5_made⟩
theorem cl_X5_228 : CallV RX5 RX5 228 M_X5_sends 2 := ⟨AW_mem 915 (by decide +kernel) (by decide +kernel), AW_mem 917 (by decide +kernel) (by decide +kernel), AW_mem 33 (by decide +kernel) (by decide +kernel), cd_X5_sends⟩
theorem cl_X5_221 : CallV RX5 RX5 221 M_X5_tellsOf 5 := ⟨AW_mem 919 (by decide +kernel) (by decide +kernel), AW_mem 921 (by decide +kernel) (by decide +kernel), AW_mem 34 (by decide +kernel) (by decide +kernel), cd_X5_tellsOf⟩
theorem cl_X5_225 : CallV RX5 RX5 225 M_X5_ruled 1 := ⟨AW_mem 923 (by decide +kernel) (by decide +kernel), AW_mem 925 (by decide +kernel) (by decide +kernel), AW_mem 35 (by decide +kernel) (by decide +kernel), cd_X5_ruled⟩
theorem cl_X5_217 : CallS RX5 217 M_X5_both 3 := ⟨AW_mem 927 (by decide +kernel) (by decide +kernel), AW_mem 928 (by decide +kernel) (by decide +kernel), cd_X5_both⟩
theorem cl_X5_231 : CallV RX5 RX5 231 M_X5_cuts 3 := ⟨AW_mem 930 (by decide +kernel) (by decide +kernel), AW_mem 932 (by decide +kernel) (by decide +kernel), AW_mem 36 (by decide +kernel) (by decide +kernel), cd_X5_cuts⟩
theorem cl_X5_117 : CallV RX5 RX5 117 M_X5_gotten 1 := ⟨AW_mem 934 (by decide +kernel) (by decide +kernel), AW_mem 936 (by decide +kernel) (by decide +kernel), AW_mem 37 (by decide +kernel) (by decide +kernel), cd_X5_gotten⟩
theorem cl_X5_110 : CallS RX5 110 M_X5_bitsOf 1 := ⟨AW_mem 938 (by decide +kernel) (by decide +kernel), AW_mem 939 (by decide +kernel) (by decide +kernel), cd_X5_bitsOf⟩
theorem cl_X5_120 : CallV RX5 RX5 120 M_X5_felt 1 := ⟨AW_mem 941 (by decide +kernel) (by decide +kernel), AW_mem 943 (by decide +kernel) (by decide +kernel), AW_mem 38 (by decide +kernel) (by decide +kernel), cd_X5_felt⟩
theorem cl_X5_237 : CallV RX5 RX5 237 M_X5_feltBy 3 := ⟨AW_mem 945 (by decide +kernel) (by decide +kernel), AW_mem 947 (by decide +kernel) (by decide +kernel), AW_mem 39 (by decide +kernel) (by decide +kernel), cd_X5_feltBy⟩
theorem cl_X5_234 : CallV RX5 RX5 234 M_X5_feels 3 := ⟨AW_mem 949 (by decide +kernel) (by decide +kernel), AW_mem 951 (by decide +kernel) (by decide +kernel), AW_mem 40 (by decide +kernel) (by decide +kernel), cd_X5_feels⟩
theorem cl_X5_123 : CallS RX5 123 M_X5_bound 1 := ⟨AW_mem 953 (by decide +kernel) (by decide +kernel), AW_mem 954 (by decide +kernel) (by decide +kernel), cd_X5_bound⟩
theorem cl_X5_161 : CallV RX5 RX5 161 M_X5_next 0 := ⟨AW_mem 964 (by decide +kernel) (by decide +kernel), AW_mem 966 (by decide +kernel) (by decide +kernel), AW_mem 41 (by decide +kernel) (by decide +kernel), cd_X5_next⟩
theorem cl_X5_141 : CallS RX5 141 M_X5_isLetter 1 := ⟨AW_mem 968 (by decide +kernel) (by decide +kernel), AW_mem 969 (by decide +kernel) (by decide +kernel), cd_X5_isLetter⟩
theorem cl_X5_144 : CallV RX5 RX5 144 M_X5_named 0 := ⟨AW_mem 971 (by decide +kernel) (by decide +kernel), AW_mem 973 (by decide +kernel) (by decide +kernel), AW_mem 42 (by decide +kernel) (by decide +kernel), cd_X5_named⟩
theorem cl_X5_148 : CallV RX5 RX5 148 M_X5_isKey 0 := ⟨AW_mem 975 (by decide +kernel) (by decide +kernel), AW_mem 977 (by decide +kernel) (by decide +kernel), AW_mem 43 (by decide +kernel) (by decide +kernel), cd_X5_isKey⟩
theorem cl_X5_152 : CallS RX5 152 M_X5_isDigit 1 := ⟨AW_mem 979 (by decide +kernel) (by decide +kernel), AW_mem 980 (by decide +kernel) (by decide +kernel), cd_X5_isDigit⟩
theorem cl_X5_158 : CallS RX5 158 M_X5_isSign 1 := ⟨AW_mem 982 (by decide +kernel) (by decide +kernel), AW_mem 983 (by decide +kernel) (by decide +kernel), cd_X5_isSign⟩
theorem cl_X5_209 : CallV RX5 RX5 209 M_X5_part 2 := ⟨AW_mem 986 (by decide +kernel) (by decide +kernel), AW_mem 988 (by decide +kernel) (by decide +kernel), AW_mem 44 (by decide +kernel) (by decide +kernel), cd_X5_part⟩
theorem cl_X5_202 : CallV RX5 RX5 202 M_X5_takes 1 := ⟨AW_mem 990 (by decide +kernel) (by decide +kernel), AW_mem 992 (by decide +kernel) (by decide +kernel), AW_mem 45 (by decide +kernel) (by decide +kernel), cd_X5_takes⟩
theorem cl_X5_205 : CallV RX5 RX5 205 M_X5_goesOn 0 := ⟨AW_mem 994 (by decide +kernel) (by decide +kernel), AW_mem 996 (by decide +kernel) (by decide +kernel), AW_mem 46 (by decide +kernel) (by decide +kernel), cd_X5_goesOn⟩
theorem cl_X5_192 : CallV RX5 RX5 192 M_X5_one 1 := ⟨AW_mem 998 (by decide +kernel) (by decide +kernel), AW_mem 1000 (by decide +kernel) (by decide +kernel), AW_mem 47 (by decide +kernel) (by decide +kernel), cd_X5_one⟩
theorem cl_X5_176 : CallV RX5 RX5 176 M_X5_lays 1 := ⟨AW_mem 1002 (by decide +kernel) (by decide +kernel), AW_mem 1004 (by decide +kernel) (by decide +kernel), AW_mem 48 (by decide +kernel) (by decide +kernel), cd_X5_lays⟩
theorem cl_X5_170 : CallS RX5 170 M_X5_rank 1 := ⟨AW_mem 1006 (by decide +kernel) (by decide +kernel), AW_mem 1007 (by decide +kernel) (by decide +kernel), cd_X5_rank⟩
theorem cl_X5_186 : CallV RX5 RX5 186 M_X5_push 1 := ⟨AW_mem 1009 (by decide +kernel) (by decide +kernel), AW_mem 1011 (by decide +kernel) (by decide +kernel), AW_mem 49 (by decide +kernel) (by decide +kernel), cd_X5_push⟩
theorem cl_X5_196 : CallV RX5 RX5 196 M_X5_closes 0 := ⟨AW_mem 1013 (by decide +kernel) (by decide +kernel), AW_mem 1015 (by decide +kernel) (by decide +kernel), AW_mem 50 (by decide +kernel) (by decide +kernel), cd_X5_closes⟩
theorem cl_X5_199 : CallV RX5 RX5 199 M_X5_signed 0 := ⟨AW_mem 1017 (by decide +kernel) (by decide +kernel), AW_mem 1019 (by decide +kernel) (by decide +kernel), AW_mem 51 (by decide +kernel) (by decide +kernel), cd_X5_signed⟩
theorem cl_X5_240 : CallV RX5 RX5 240 M_X5_areTwo 2 := ⟨AW_mem 1031 (by decide +kernel) (by decide +kernel), AW_mem 1033 (by decide +kernel) (by decide +kernel), AW_mem 52 (by decide +kernel) (by decide +kernel), cd_X5_areTwo⟩
theorem cl_X5_246 : CallV RX5 RX5 246 M_X5_passes 0 := ⟨AW_mem 1039 (by decide +kernel) (by decide +kernel), AW_mem 1041 (by decide +kernel) (by decide +kernel), AW_mem 53 (by decide +kernel) (by decide +kernel), cd_X5_passes⟩
theorem cl_X5_249 : CallV RX5 RX5 249 M_X5_glad 0 := ⟨AW_mem 1043 (by decide +kernel) (by decide +kernel), AW_mem 1045 (by decide +kernel) (by decide +kernel), AW_mem 54 (by decide +kernel) (by decide +kernel), cd_X5_glad⟩
theorem cl_X5_255 : CallV RX5 RX5 255 M_X5_runs 1 := ⟨AW_mem 1051 (by decide +kernel) (by decide +kernel), AW_mem 1053 (by decide +kernel) (by decide +kernel), AW_mem 55 (by decide +kernel) (by decide +kernel), cd_X5_runs⟩
theorem cl_X5_252 : CallV RX5 RX5 252 M_X5_keeps 0 := ⟨AW_mem 1055 (by decide +kernel) (by decide +kernel), AW_mem 1057 (by decide +kernel) (by decide +kernel), AW_mem 56 (by decide +kernel) (by decide +kernel), cd_X5_keeps⟩
theorem cl_X5_258 : CallV RX5 RX5 258 M_X5_restores 0 := ⟨AW_mem 1059 (by decide +kernel) (by decide +kernel), AW_mem 1061 (by decide +kernel) (by decide +kernel), AW_mem 57 (by decide +kernel) (by decide +kernel), cd_X5_restores⟩
theorem cl_X5_261 : CallV RX5 RX5 261 M_X5_remembers 0 := ⟨AW_mem 1067 (by decide +kernel) (by decide +kernel), AW_mem 1069 (by decide +kernel) (by decide +kernel), AW_mem 58 (by decide +kernel) (by decide +kernel), cd_X5_remembers⟩
theorem cl_X5_264 : CallV RX5 RX5 264 M_X5_isAlike 2 := ⟨AW_mem 1071 (by decide +kernel) (by decide +kernel), AW_mem 1073 (by decide +kernel) (by decide +kernel), AW_mem 59 (by decide +kernel) (by decide +kernel), cd_X5_isAlike⟩
theorem cl_X5_267 : CallV RX5 RX5 267 M_X5_lettuce 1 := ⟨AW_mem 1079 (by decide +kernel) (by decide +kernel), AW_mem 1081 (by decide +kernel) (by decide +kernel), AW_mem 60 (by decide +kernel) (by decide +kernel), cd_X5_lettuce⟩
theorem cl_X5_270 : CallV RX5 RX5 270 M_X5_left 0 := ⟨AW_mem 1083 (by decide +kernel) (by decide +kernel), AW_mem 1085 (by decide +kernel) (by decide +kernel), AW_mem 61 (by decide +kernel) (by decide +kernel), cd_X5_left⟩
theorem cl_X5_273 : CallV RX5 RX5 273 M_X5_gladBehind 1 := ⟨AW_mem 1091 (by decide +kernel) (by decide +kernel), AW_mem 1093 (by decide +kernel) (by decide +kernel), AW_mem 62 (by decide +kernel) (by decide +kernel), cd_X5_gladBehind⟩
theorem cl_X5_279 : CallS RX5 279 M_X5_isSheet 1 := ⟨AW_mem 1111 (by decide +kernel) (by decide +kernel), AW_mem 1112 (by decide +kernel) (by decide +kernel), cd_X5_isSheet⟩
theorem cl_X5_276 : CallV RX5 RX5 276 M_X5_wrong 2 := ⟨AW_mem 1114 (by decide +kernel) (by decide +kernel), AW_mem 1116 (by decide +kernel) (by decide +kernel), AW_mem 63 (by decide +kernel) (by decide +kernel), cd_X5_wrong⟩
theorem cl_X5_282 : CallV RX5 RX5 282 M_X5_kindsSo 2 := ⟨AW_mem 1118 (by decide +kernel) (by decide +kernel), AW_mem 1120 (by decide +kernel) (by decide +kernel), AW_mem 64 (by decide +kernel) (by decide +kernel), cd_X5_kindsSo⟩
theorem cl_X5_285 : CallV RX5 RX5 285 M_X5_numbersSo 2 := ⟨AW_mem 1122 (by decide +kernel) (by decide +kernel), AW_mem 1124 (by decide +kernel) (by decide +kernel), AW_mem 65 (by decide +kernel) (by decide +kernel), cd_X5_numbersSo⟩
theorem cl_X5_288 : CallV RX5 RX5 288 M_X5_moodsSo 3 := ⟨AW_mem 1126 (by decide +kernel) (by decide +kernel), AW_mem 1128 (by decide +kernel) (by decide +kernel), AW_mem 66 (by decide +kernel) (by decide +kernel), cd_X5_moodsSo⟩
theorem cl_X5_291 : CallV RX5 RX5 291 M_X5_textsSo 2 := ⟨AW_mem 1130 (by decide +kernel) (by decide +kernel), AW_mem 1132 (by decide +kernel) (by decide +kernel), AW_mem 67 (by decide +kernel) (by decide +kernel), cd_X5_textsSo⟩
theorem cl_X5_294 : CallV RX5 RX5 294 M_X5_sheet 3 := ⟨AW_mem 1138 (by decide +kernel) (by decide +kernel), AW_mem 1139 (by decide +kernel) (by decide +kernel), AW_mem 1140 (by decide +kernel) (by decide +kernel), cd_X5_sheet⟩
theorem cl_X5_297 : CallV RX5 RX5 297 M_X5_byLot 1 := ⟨AW_mem 1146 (by decide +kernel) (by decide +kernel), AW_mem 1148 (by decide +kernel) (by decide +kernel), AW_mem 68 (by decide +kernel) (by decide +kernel), cd_X5_byLot⟩
theorem cl_X5_317 : CallV RX5 RX5 317 M_X5_person 2 := ⟨AW_mem 1182 (by decide +kernel) (by decide +kernel), AW_mem 900 (by decide +kernel) (by decide +kernel), AW_mem 901 (by decide +kernel) (by decide +kernel), cd_X5_person⟩
theorem kc_J6_265 : Cond.constant RJ6 265 (1431655765) ∈ AW := AW_mem 513 (by decide +kernel) (by decide +kernel)
theorem kc_J6_266 : Cond.constant RJ6 266 (858993459) ∈ AW := AW_mem 514 (by decide +kernel) (by decide +kernel)
theorem kc_J6_267 : Cond.constant RJ6 267 (252645135) ∈ AW := AW_mem 515 (by decide +kernel) (by decide +kernel)
theorem kc_X4_179 : Cond.constant RX4 179 (-2147483648) ∈ AW := AW_mem 623 (by decide +kernel) (by decide +kernel)
theorem kc_X0_50 : Cond.constant RX0 50 (1103515245) ∈ AW := AW_mem 684 (by decide +kernel) (by decide +kernel)
theorem kc_X4_230 : Cond.constantLong RX4 230 (-4611686018427387904) ∈ AW := AW_mem 689 (by decide +kernel) (by decide +kernel)
theorem kc_X5_208 : Cond.constant RX5 208 (74917) ∈ AW := AW_mem 985 (by decide +kernel) (by decide +kernel)
theorem kc_X5_212 : Cond.constant RX5 212 (3291049) ∈ AW := AW_mem 1021 (by decide +kernel) (by decide +kernel)
theorem kc_X5_213 : Cond.constant RX5 213 (10206127) ∈ AW := AW_mem 1022 (by decide +kernel) (by decide +kernel)
theorem kc_X5_300 : Cond.constant RX5 300 (1103515245) ∈ AW := AW_mem 1150 (by decide +kernel) (by decide +kernel)
theorem kc_X5_301 : Cond.constantLong RX5 301 (-4611686018427387904) ∈ AW := AW_mem 1155 (by decide +kernel) (by decide +kernel)
theorem kc_X5_315 : Cond.constantLong RX5 315 (2) ∈ AW := AW_mem 1181 (by decide +kernel) (by decide +kernel)
def famK (f : Nat) : List Nat := [f + 3, f + 4, f + 5, f + 6, 0, 0, 0, 0, 0, 3, f + 7, f + 8]
def textCells : List Nat := [6, 9, 12, 15, 18, 21]
def sheetCells : List Nat := [24, 26, 28, 30]
def ShF (Γ : Gx) (f : Nat) : Prop := (gS Γ)[f]? = some (.inr (0, famK f)) ∧ (gS Γ)[f + 1]? = some (.inl (0, 5, [])) ∧ (gS Γ)[f + 2]? = some (.inl (0, 5, [])) ∧ (gS Γ)[f + 3]? = some (.inl (0, 5, [])) ∧ (gS Γ)[f + 4]? = some (.inl (0, 5, [])) ∧ (gS Γ)[f + 5]? = some (.inl (0, 6, [])) ∧ (gS Γ)[f + 6]? = some (.inl (0, 160, [])) ∧ (gS Γ)[1]? = some (.inl (3, 6, textCells))
def ShT (Γ : Gx) (t : Nat) : Prop := (gS Γ)[t]? = some (.inr (3, [t + 3, t + 4, 0])) ∧ (gS Γ)[t + 1]? = some (.inl (0, 160, [])) ∧ (gS Γ)[t + 2]? = some (.inl (0, 4, []))
def ShS (Γ : Gx) (t : Nat) : Prop := (gS Γ)[t]? = some (.inr (2, [t + 3, 0, 0])) ∧ (gS Γ)[t + 1]? = some (.inl (0, 40, []))
def ShR (Γ : Gx) (r : Nat) : Prop := (gS Γ)[r]? = some (.inr (1, [0, r + 3, 1, 0, 0, 0, 0, 0, 0])) ∧ (gS Γ)[r + 1]? = some (.inl (0, 160, []))
def tSh (t : Nat) : List Sh := [.inr (3, [t + 3, t + 4, 0]), .inl (0, 160, []), .inl (0, 4, [])]
def sSh (t : Nat) : List Sh := [.inr (2, [t + 3, 0, 0]), .inl (0, 40, [])]
def fSh (f : Nat) : List Sh := [.inr (0, famK f), .inl (0, 5, []), .inl (0, 5, []), .inl (0, 5, []), .inl (0, 5, []), .inl (0, 6, []), .inl (0, 160, [])]
def SC : List Sh := [.inr (4, [3, 4, 5, 34, 41, 48, 7, 0, 0]), .inl (3, 6, textCells), .inl (2, 4, sheetCells), .inr (1, [0, 3 + 3, 1, 0, 0, 0, 0, 0, 0]), .inl (0, 160, []), .inl (0, 41, [])] ++ tSh 6 ++ tSh 9 ++ tSh 12 ++ tSh 15 ++ tSh 18 ++ tSh 21 ++ sSh 24 ++ sSh 26 ++ sSh 28 ++ sSh 30 ++ fSh 32 ++ fSh 39 ++ fSh 46
def ShC (Γ : Gx) : Prop := gS Γ = SC
theorem ShC.c0 {Γ : Gx} (h : ShC Γ) : (gS Γ)[0]? = some (.inr (4, [3, 4, 5, 34, 41, 48, 7, 0, 0])) := by rw [show gS Γ = SC from h]; rfl
theorem ShC.c1 {Γ : Gx} (h : ShC Γ) : (gS Γ)[1]? = some (.inl (3, 6, textCells)) := by rw [show gS Γ = SC from h]; rfl
theorem ShC.c2 {Γ : Gx} (h : ShC Γ) : (gS Γ)[2]? = some (.inl (2, 4, sheetCells)) := by rw [show gS Γ = SC from h]; rfl
theorem ShC.r3 {Γ : Gx} (h : ShC Γ) : ShR Γ 3 := by unfold ShR; rw [show gS Γ = SC from h]; exact ⟨rfl, rfl⟩
theorem ShC.c5 {Γ : Gx} (h : ShC Γ) : (gS Γ)[5]? = some (.inl (0, 41, [])) := by rw [show gS Γ = SC from h]; rfl
theorem ShC.f32 {Γ : Gx} (h : ShC Γ) : ShF Γ 32 := by unfold ShF; rw [show gS Γ = SC from h]; exact ⟨rfl, rfl, rfl, rfl, rfl, rfl, rfl, rfl⟩
theorem ShC.f39 {Γ : Gx} (h : ShC Γ) : ShF Γ 39 := by unfold ShF; rw [show gS Γ = SC from h]; exact ⟨rfl, rfl, rfl, rfl, rfl, rfl, rfl, rfl⟩
theorem ShC.f46 {Γ : Gx} (h : ShC Γ) : ShF Γ 46 := by unfold ShF; rw [show gS Γ = SC from h]; exact ⟨rfl, rfl, rfl, rfl, rfl, rfl, rfl, rfl⟩
theorem ShC.t {Γ : Gx} (h : ShC Γ) : ∀ j : Nat, j < 6 → ShT Γ (rfa textCells j) := by
  intro j hj
  unfold ShT
  rw [show gS Γ = SC from h]
  rcases (show j = 0 ∨ j = 1 ∨ j = 2 ∨ j = 3 ∨ j = 4 ∨ j = 5 by omega) with rfl | rfl | rfl | rfl | rfl | rfl <;> exact ⟨rfl, rfl, rfl⟩
theorem ShC.s {Γ : Gx} (h : ShC Γ) : ∀ j : Nat, j < 4 → ShS Γ (rfa sheetCells j) := by
  intro j hj
  unfold ShS
  rw [show gS Γ = SC from h]
  rcases (show j = 0 ∨ j = 1 ∨ j = 2 ∨ j = 3 by omega) with rfl | rfl | rfl | rfl <;> exact ⟨rfl, rfl⟩
def modK : List Nat := [0, 3, 0, 4, 5, 6, 0, 0, 7, 0, 8, 9, 10, 0, 0, 0, 0, 0, 0, 11, 0, 0, 0, 0, 0, 12, 13, 0, 14, 15, 0, 16, 0, 0, 0, 0, 17, 18, 19, 20, 21]
def SM : List Sh := [.inr (5, modK), .inl (1, 8, []), .inl (0, 5, []), .inl (0, 5, []), .inl (0, 5, []), .inl (0, 160, []), .inl (0, 18, []), .inl (0, 18, []), .inl (0, 3000, []), .inl (0, 200, []), .inl (0, 200, []), .inl (0, 6, []), .inl (0, 5, []), .inl (0, 5, []), .inl (0, 205, []), .inl (1, 8, []), .inl (0, 10, []), .inl (0, 4, []), .inl (0, 4, []), .inl (0, 160, [])]
def ShM (Γ : Gx) : Prop := gS Γ = SM
theorem ShM.c0 {Γ : Gx} (h : ShM Γ) : (gS Γ)[0]? = some (.inr (5, modK)) := by rw [show gS Γ = SM from h]; rfl
theorem ShM.c1 {Γ : Gx} (h : ShM Γ) : (gS Γ)[1]? = some (.inl (1, 8, [])) := by rw [show gS Γ = SM from h]; rfl
theorem ShM.c2 {Γ : Gx} (h : ShM Γ) : (gS Γ)[2]? = some (.inl (0, 5, [])) := by rw [show gS Γ = SM from h]; rfl
theorem ShM.c3 {Γ : Gx} (h : ShM Γ) : (gS Γ)[3]? = some (.inl (0, 5, [])) := by rw [show gS Γ = SM from h]; rfl
theorem ShM.c4 {Γ : Gx} (h : ShM Γ) : (gS Γ)[4]? = some (.inl (0, 5, [])) := by rw [show gS Γ = SM from h]; rfl
theorem ShM.c5 {Γ : Gx} (h : ShM Γ) : (gS Γ)[5]? = some (.inl (0, 160, [])) := by rw [show gS Γ = SM from h]; rfl
theorem ShM.c6 {Γ : Gx} (h : ShM Γ) : (gS Γ)[6]? = some (.inl (0, 18, [])) := by rw [show gS Γ = SM from h]; rfl
theorem ShM.c7 {Γ : Gx} (h : ShM Γ) : (gS Γ)[7]? = some (.inl (0, 18, [])) := by rw [show gS Γ = SM from h]; rfl
theorem ShM.c8 {Γ : Gx} (h : ShM Γ) : (gS Γ)[8]? = some (.inl (0, 3000, [])) := by rw [show gS Γ = SM from h]; rfl
theorem ShM.c9 {Γ : Gx} (h : ShM Γ) : (gS Γ)[9]? = some (.inl (0, 200, [])) := by rw [show gS Γ = SM from h]; rfl
theorem ShM.c10 {Γ : Gx} (h : ShM Γ) : (gS Γ)[10]? = some (.inl (0, 200, [])) := by rw [show gS Γ = SM from h]; rfl
theorem ShM.c11 {Γ : Gx} (h : ShM Γ) : (gS Γ)[11]? = some (.inl (0, 6, [])) := by rw [show gS Γ = SM from h]; rfl
theorem ShM.c12 {Γ : Gx} (h : ShM Γ) : (gS Γ)[12]? = some (.inl (0, 5, [])) := by rw [show gS Γ = SM from h]; rfl
theorem ShM.c13 {Γ : Gx} (h : ShM Γ) : (gS Γ)[13]? = some (.inl (0, 5, [])) := by rw [show gS Γ = SM from h]; rfl
theorem ShM.c14 {Γ : Gx} (h : ShM Γ) : (gS Γ)[14]? = some (.inl (0, 205, [])) := by rw [show gS Γ = SM from h]; rfl
theorem ShM.c15 {Γ : Gx} (h : ShM Γ) : (gS Γ)[15]? = some (.inl (1, 8, [])) := by rw [show gS Γ = SM from h]; rfl
theorem ShM.c16 {Γ : Gx} (h : ShM Γ) : (gS Γ)[16]? = some (.inl (0, 10, [])) := by rw [show gS Γ = SM from h]; rfl
theorem ShM.c17 {Γ : Gx} (h : ShM Γ) : (gS Γ)[17]? = some (.inl (0, 4, [])) := by rw [show gS Γ = SM from h]; rfl
theorem ShM.c18 {Γ : Gx} (h : ShM Γ) : (gS Γ)[18]? = some (.inl (0, 4, [])) := by rw [show gS Γ = SM from h]; rfl
theorem ShM.c19 {Γ : Gx} (h : ShM Γ) : (gS Γ)[19]? = some (.inl (0, 160, [])) := by rw [show gS Γ = SM from h]; rfl
theorem fl_X4_69 : Cond.fieldLink RX4 69 (TX1 0).1 (TX1 0).2.1 (TX1 0).2.2.1 ∈ AW := AW_mem 102 (by decide +kernel) (by decide +kernel)
theorem gi_X4_69 {Γ : Gx} {X : Mx} {cc : ByteArray} {nL d pc : Nat} {ret : Option FieldType} {Q : Option Value → Wd → Prop} {lv : List (Option Value)} {st : List Value} {w : Wd} (hO : OKM Γ X RX4 cc nL ret) {i : Nat} {fks : List Nat} (hd : decode cc pc = .ok (.getfield 69, 3)) (hs : (gS Γ)[i]? = some (.inr (1, fks))) (hf : fks[0]? = some 0) (k : GG Γ X d nL Q (pc + 3) lv (.int (w i 0) :: st) w) : GG Γ X d nL Q pc lv (.ref (gad Γ i) :: st) w := G_get hO hd 0 hs rfl inX1 (by decide) fl_X4_69 hf rfl k
theorem pi_X4_69 {Γ : Gx} {X : Mx} {cc : ByteArray} {nL d pc : Nat} {ret : Option FieldType} {Q : Option Value → Wd → Prop} {lv : List (Option Value)} {st : List Value} {w : Wd} (hO : OKM Γ X RX4 cc nL ret) {i : Nat} {fks : List Nat} {x : Int32} (hd : decode cc pc = .ok (.putfield 69, 3)) (hs : (gS Γ)[i]? = some (.inr (1, fks))) (hf : fks[0]? = some 0) (k : GG Γ X d nL Q (pc + 3) lv st (wset w i 0 x)) : GG Γ X d nL Q pc lv (.int x :: .ref (gad Γ i) :: st) w := G_put hO hd tyX1 0 hs rfl inX1 tyX1_ok nmX1 (by decide) fl_X4_69 rfl (ty := .int) rfl rfl rfl hf (fun j => by simp [fvl, wset]) k
theorem fl_X1_15 : Cond.fieldLink RX1 15 (TX1 0).1 (TX1 0).2.1 (TX1 0).2.2.1 ∈ AW := AW_mem 103 (by decide +kernel) (by decide +kernel)
theorem gi_X1_15 {Γ : Gx} {X : Mx} {cc : ByteArray} {nL d pc : Nat} {ret : Option FieldType} {Q : Option Value → Wd → Prop} {lv : List (Option Value)} {st : List Value} {w : Wd} (hO : OKM Γ X RX1 cc nL ret) {i : Nat} {fks : List Nat} (hd : decode cc pc = .ok (.getfield 15, 3)) (hs : (gS Γ)[i]? = some (.inr (1, fks))) (hf : fks[0]? = some 0) (k : GG Γ X d nL Q (pc + 3) lv (.int (w i 0) :: st) w) : GG Γ X d nL Q pc lv (.ref (gad Γ i) :: st) w := G_get hO hd 0 hs rfl inX1 (by decide) fl_X1_15 hf rfl k
theorem pi_X1_15 {Γ : Gx} {X : Mx} {cc : ByteArray} {nL d pc : Nat} {ret : Option FieldType} {Q : Option Value → Wd → Prop} {lv : List (Option Value)} {st : List Value} {w : Wd} (hO : OKM Γ X RX1 cc nL ret) {i : Nat} {fks : List Nat} {x : Int32} (hd : decode cc pc = .ok (.putfield 15, 3)) (hs : (gS Γ)[i]? = some (.inr (1, fks))) (hf : fks[0]? = some 0) (k : GG Γ X d nL Q (pc + 3) lv st (wset w i 0 x)) : GG Γ X d nL Q pc lv (.int x :: .ref (gad Γ i) :: st) w := G_put hO hd tyX1 0 hs rfl inX1 tyX1_ok nmX1 (by decide) fl_X1_15 rfl (ty := .int) rfl rfl rfl hf (fun j => by simp [fvl, wset]) k
theorem fl_X1_9 : Cond.fieldLink RX1 9 (TX1 1).1 (TX1 1).2.1 (TX1 1).2.2.1 ∈ AW := AW_mem 104 (by decide +kernel) (by decide +kernel)
theorem gr_X1_9 {Γ : Gx} {X : Mx} {cc : ByteArray} {nL d pc : Nat} {ret : Option FieldType} {Q : Option Value → Wd → Prop} {lv : List (Option Value)} {st : List Value} {w : Wd} (hO : OKM Γ X RX1 cc nL ret) {i c : Nat} {fks : List Nat} (hd : decode cc pc = .ok (.getfield 9, 3)) (hs : (gS Γ)[i]? = some (.inr (1, fks))) (hf : fks[1]? = some (c + 2)) (k : GG Γ X d nL Q (pc + 3) lv (.ref (gad Γ c) :: st) w) : GG Γ X d nL Q pc lv (.ref (gad Γ i) :: st) w := G_get hO hd 1 hs rfl inX1 (by decide) fl_X1_9 hf rfl k
theorem fl_X1_19 : Cond.fieldLink RX1 19 (TX1 2).1 (TX1 2).2.1 (TX1 2).2.2.1 ∈ AW := AW_mem 105 (by decide +kernel) (by decide +kernel)
theorem gr_X1_19 {Γ : Gx} {X : Mx} {cc : ByteArray} {nL d pc : Nat} {ret : Option FieldType} {Q : Option Value → Wd → Prop} {lv : List (Option Value)} {st : List Value} {w : Wd} (hO : OKM Γ X RX1 cc nL ret) {i c : Nat} {fks : List Nat} (hd : decode cc pc = .ok (.getfield 19, 3)) (hs : (gS Γ)[i]? = some (.inr (1, fks))) (hf : fks[2]? = some (c + 2)) (k : GG Γ X d nL Q (pc + 3) lv (.ref (gad Γ c) :: st) w) : GG Γ X d nL Q pc lv (.ref (gad Γ i) :: st) w := G_get hO hd 2 hs rfl inX1 (by decide) fl_X1_19 hf rfl k
theorem gd_X1_19 {Γ : Gx} {X : Mx} {cc : ByteArray} {nL d pc : Nat} {ret : Option FieldType} {Q : Option Value → Wd → Prop} {lv : List (Option Value)} {st : List Value} {w : Wd} (hO : OKM Γ X RX1 cc nL ret) {i : Nat} {fks : List Nat} (hd : decode cc pc = .ok (.getfield 19, 3)) (hs : (gS Γ)[i]? = some (.inr (1, fks))) (hf : fks[2]? = some 1) (hne : ¬ w i 2 = -1) (k : GG Γ X d nL Q (pc + 3) lv (.ref (gad Γ (w i 2).toNatClampNeg) :: st) w) : GG Γ X d nL Q pc lv (.ref (gad Γ i) :: st) w := G_get hO hd 2 hs rfl inX1 (by decide) fl_X1_19 hf (by simp [fvl, hne]) k
theorem pd_X1_19 {Γ : Gx} {X : Mx} {cc : ByteArray} {nL d pc : Nat} {ret : Option FieldType} {Q : Option Value → Wd → Prop} {lv : List (Option Value)} {st : List Value} {w : Wd} (hO : OKM Γ X RX1 cc nL ret) {i c : Nat} {fks : List Nat} (hd : decode cc pc = .ok (.putfield 19, 3)) (hs : (gS Γ)[i]? = some (.inr (1, fks))) (hf : fks[2]? = some 1) (hc : c < 1000) (k : GG Γ X d nL Q (pc + 3) lv st (wset w i 2 (nI c))) : GG Γ X d nL Q pc lv (.ref (gad Γ c) :: .ref (gad Γ i) :: st) w := G_put hO hd tyX1 2 hs rfl inX1 tyX1_ok nmX1 (by decide) fl_X1_19 rfl (ty := .object "SandwichesSpeak$Text") rfl rfl rfl hf (fun j => by
  have h1 : nI c ≠ -1 := fun q => by
    have h2 := congrArg Int32.toInt q
    rw [nI_toInt (by omega)] at h2
    have h3 : (-1 : Int32).toInt = -1 := by decide
    omega
  simp [fvl, wset, h1, nI_clamp (show c < 2 ^ 31 by omega)]) k
theorem fl_X1_28 : Cond.fieldLink RX1 28 (TX1 3).1 (TX1 3).2.1 (TX1 3).2.2.1 ∈ AW := AW_mem 106 (by decide +kernel) (by decide +kernel)
theorem gi_X1_28 {Γ : Gx} {X : Mx} {cc : ByteArray} {nL d pc : Nat} {ret : Option FieldType} {Q : Option Value → Wd → Prop} {lv : List (Option Value)} {st : List Value} {w : Wd} (hO : OKM Γ X RX1 cc nL ret) {i : Nat} {fks : List Nat} (hd : decode cc pc = .ok (.getfield 28, 3)) (hs : (gS Γ)[i]? = some (.inr (1, fks))) (hf : fks[3]? = some 0) (k : GG Γ X d nL Q (pc + 3) lv (.int (w i 3) :: st) w) : GG Γ X d nL Q pc lv (.ref (gad Γ i) :: st) w := G_get hO hd 3 hs rfl inX1 (by decide) fl_X1_28 hf rfl k
theorem pi_X1_28 {Γ : Gx} {X : Mx} {cc : ByteArray} {nL d pc : Nat} {ret : Option FieldType} {Q : Option Value → Wd → Prop} {lv : List (Option Value)} {st : List Value} {w : Wd} (hO : OKM Γ X RX1 cc nL ret) {i : Nat} {fks : List Nat} {x : Int32} (hd : decode cc pc = .ok (.putfield 28, 3)) (hs : (gS Γ)[i]? = some (.inr (1, fks))) (hf : fks[3]? = some 0) (k : GG Γ X d nL Q (pc + 3) lv st (wset w i 3 x)) : GG Γ X d nL Q pc lv (.int x :: .ref (gad Γ i) :: st) w := G_put hO hd tyX1 3 hs rfl inX1 tyX1_ok nmX1 (by decide) fl_X1_28 rfl (ty := .int) rfl rfl rfl hf (fun j => by simp [fvl, wset]) k
theorem fl_X1_56 : Cond.fieldLink RX1 56 (TX1 4).1 (TX1 4).2.1 (TX1 4).2.2.1 ∈ AW := AW_mem 107 (by decide +kernel) (by decide +kernel)
theorem gi_X1_56 {Γ : Gx} {X : Mx} {cc : ByteArray} {nL d pc : Nat} {ret : Option FieldType} {Q : Option Value → Wd → Prop} {lv : List (Option Value)} {st : List Value} {w : Wd} (hO : OKM Γ X RX1 cc nL ret) {i : Nat} {fks : List Nat} (hd : decode cc pc = .ok (.getfield 56, 3)) (hs : (gS Γ)[i]? = some (.inr (1, fks))) (hf : fks[4]? = some 0) (k : GG Γ X d nL Q (pc + 3) lv (.int (w i 4) :: st) w) : GG Γ X d nL Q pc lv (.ref (gad Γ i) :: st) w := G_get hO hd 4 hs rfl inX1 (by decide) fl_X1_56 hf rfl k
theorem pi_X1_56 {Γ : Gx} {X : Mx} {cc : ByteArray} {nL d pc : Nat} {ret : Option FieldType} {Q : Option Value → Wd → Prop} {lv : List (Option Value)} {st : List Value} {w : Wd} (hO : OKM Γ X RX1 cc nL ret) {i : Nat} {fks : List Nat} {x : Int32} (hd : decode cc pc = .ok (.putfield 56, 3)) (hs : (gS Γ)[i]? = some (.inr (1, fks))) (hf : fks[4]? = some 0) (k : GG Γ X d nL Q (pc + 3) lv st (wset w i 4 x)) : GG Γ X d nL Q pc lv (.int x :: .ref (gad Γ i) :: st) w := G_put hO hd tyX1 4 hs rfl inX1 tyX1_ok nmX1 (by decide) fl_X1_56 rfl (ty := .int) rfl rfl rfl hf (fun j => by simp [fvl, wset]) k
theorem fl_X1_50 : Cond.fieldLink RX1 50 (TX1 5).1 (TX1 5).2.1 (TX1 5).2.2.1 ∈ AW := AW_mem 108 (by decide +kernel) (by decide +kernel)
theorem gi_X1_50 {Γ : Gx} {X : Mx} {cc : ByteArray} {nL d pc : Nat} {ret : Option FieldType} {Q : Option Value → Wd → Prop} {lv : List (Option Value)} {st : List Value} {w : Wd} (hO : OKM Γ X RX1 cc nL ret) {i : Nat} {fks : List Nat} (hd : decode cc pc = .ok (.getfield 50, 3)) (hs : (gS Γ)[i]? = some (.inr (1, fks))) (hf : fks[5]? = some 0) (k : GG Γ X d nL Q (pc + 3) lv (.int (w i 5) :: st) w) : GG Γ X d nL Q pc lv (.ref (gad Γ i) :: st) w := G_get hO hd 5 hs rfl inX1 (by decide) fl_X1_50 hf rfl k
theorem pi_X1_50 {Γ : Gx} {X : Mx} {cc : ByteArray} {nL d pc : Nat} {ret : Option FieldType} {Q : Option Value → Wd → Prop} {lv : List (Option Value)} {st : List Value} {w : Wd} (hO : OKM Γ X RX1 cc nL ret) {i : Nat} {fks : List Nat} {x : Int32} (hd : decode cc pc = .ok (.putfield 50, 3)) (hs : (gS Γ)[i]? = some (.inr (1, fks))) (hf : fks[5]? = some 0) (k : GG Γ X d nL Q (pc + 3) lv st (wset w i 5 x)) : GG Γ X d nL Q pc lv (.int x :: .ref (gad Γ i) :: st) w := G_put hO hd tyX1 5 hs rfl inX1 tyX1_ok nmX1 (by decide) fl_X1_50 rfl (ty := .int) rfl rfl rfl hf (fun j => by simp [fvl, wset]) k
theorem fl_X1_84 : Cond.fieldLink RX1 84 (TX1 6).1 (TX1 6).2.1 (TX1 6).2.2.1 ∈ AW := AW_mem 109 (by decide +kernel) (by decide +kernel)
theorem gi_X1_84 {Γ : Gx} {X : Mx} {cc : ByteArray} {nL d pc : Nat} {ret : Option FieldType} {Q : Option Value → Wd → Prop} {lv : List (Option Value)} {st : List Value} {w : Wd} (hO : OKM Γ X RX1 cc nL ret) {i : Nat} {fks : List Nat} (hd : decode cc pc = .ok (.getfield 84, 3)) (hs : (gS Γ)[i]? = some (.inr (1, fks))) (hf : fks[6]? = some 0) (k : GG Γ X d nL Q (pc + 3) lv (.int (w i 6) :: st) w) : GG Γ X d nL Q pc lv (.ref (gad Γ i) :: st) w := G_get hO hd 6 hs rfl inX1 (by decide) fl_X1_84 hf rfl k
theorem pi_X1_84 {Γ : Gx} {X : Mx} {cc : ByteArray} {nL d pc : Nat} {ret : Option FieldType} {Q : Option Value → Wd → Prop} {lv : List (Option Value)} {st : List Value} {w : Wd} (hO : OKM Γ X RX1 cc nL ret) {i : Nat} {fks : List Nat} {x : Int32} (hd : decode cc pc = .ok (.putfield 84, 3)) (hs : (gS Γ)[i]? = some (.inr (1, fks))) (hf : fks[6]? = some 0) (k : GG Γ X d nL Q (pc + 3) lv st (wset w i 6 x)) : GG Γ X d nL Q pc lv (.int x :: .ref (gad Γ i) :: st) w := G_put hO hd tyX1 6 hs rfl inX1 tyX1_ok nmX1 (by decide) fl_X1_84 rfl (ty := .int) rfl rfl rfl hf (fun j => by simp [fvl, wset]) k
theorem fl_X1_31 : Cond.fieldLink RX1 31 (TX1 7).1 (TX1 7).2.1 (TX1 7).2.2.1 ∈ AW := AW_mem 110 (by decide +kernel) (by decide +kernel)
theorem gi_X1_31 {Γ : Gx} {X : Mx} {cc : ByteArray} {nL d pc : Nat} {ret : Option FieldType} {Q : Option Value → Wd → Prop} {lv : List (Option Value)} {st : List Value} {w : Wd} (hO : OKM Γ X RX1 cc nL ret) {i : Nat} {fks : List Nat} (hd : decode cc pc = .ok (.getfield 31, 3)) (hs : (gS Γ)[i]? = some (.inr (1, fks))) (hf : fks[7]? = some 0) (k : GG Γ X d nL Q (pc + 3) lv (.int (w i 7) :: st) w) : GG Γ X d nL Q pc lv (.ref (gad Γ i) :: st) w := G_get hO hd 7 hs rfl inX1 (by decide) fl_X1_31 hf rfl k
theorem pi_X1_31 {Γ : Gx} {X : Mx} {cc : ByteArray} {nL d pc : Nat} {ret : Option FieldType} {Q : Option Value → Wd → Prop} {lv : List (Option Value)} {st : List Value} {w : Wd} (hO : OKM Γ X RX1 cc nL ret) {i : Nat} {fks : List Nat} {x : Int32} (hd : decode cc pc = .ok (.putfield 31, 3)) (hs : (gS Γ)[i]? = some (.inr (1, fks))) (hf : fks[7]? = some 0) (k : GG Γ X d nL Q (pc + 3) lv st (wset w i 7 x)) : GG Γ X d nL Q pc lv (.int x :: .ref (gad Γ i) :: st) w := G_put hO hd tyX1 7 hs rfl inX1 tyX1_ok nmX1 (by decide) fl_X1_31 rfl (ty := .int) rfl rfl rfl hf (fun j => by simp [fvl, wset]) k
theorem fl_X1_34 : Cond.fieldLink RX1 34 (TX1 8).1 (TX1 8).2.1 (TX1 8).2.2.1 ∈ AW := AW_mem 111 (by decide +kernel) (by decide +kernel)
theorem gi_X1_34 {Γ : Gx} {X : Mx} {cc : ByteArray} {nL d pc : Nat} {ret : Option FieldType} {Q : Option Value → Wd → Prop} {lv : List (Option Value)} {st : List Value} {w : Wd} (hO : OKM Γ X RX1 cc nL ret) {i : Nat} {fks : List Nat} (hd : decode cc pc = .ok (.getfield 34, 3)) (hs : (gS Γ)[i]? = some (.inr (1, fks))) (hf : fks[8]? = some 0) (k : GG Γ X d nL Q (pc + 3) lv (.int (w i 8) :: st) w) : GG Γ X d nL Q pc lv (.ref (gad Γ i) :: st) w := G_get hO hd 8 hs rfl inX1 (by decide) fl_X1_34 hf rfl k
theorem pi_X1_34 {Γ : Gx} {X : Mx} {cc : ByteArray} {nL d pc : Nat} {ret : Option FieldType} {Q : Option Value → Wd → Prop} {lv : List (Option Value)} {st : List Value} {w : Wd} (hO : OKM Γ X RX1 cc nL ret) {i : Nat} {fks : List Nat} {x : Int32} (hd : decode cc pc = .ok (.putfield 34, 3)) (hs : (gS Γ)[i]? = some (.inr (1, fks))) (hf : fks[8]? = some 0) (k : GG Γ X d nL Q (pc + 3) lv st (wset w i 8 x)) : GG Γ X d nL Q pc lv (.int x :: .ref (gad Γ i) :: st) w := G_put hO hd tyX1 8 hs rfl inX1 tyX1_ok nmX1 (by decide) fl_X1_34 rfl (ty := .int) rfl rfl rfl hf (fun j => by simp [fvl, wset]) k
theorem fl_X3_9 : Cond.fieldLink RX3 9 (TX3 0).1 (TX3 0).2.1 (TX3 0).2.2.1 ∈ AW := AW_mem 137 (by decide +kernel) (by decide +kernel)
theorem gr_X3_9 {Γ : Gx} {X : Mx} {cc : ByteArray} {nL d pc : Nat} {ret : Option FieldType} {Q : Option Value → Wd → Prop} {lv : List (Option Value)} {st : List Value} {w : Wd} (hO : OKM Γ X RX3 cc nL ret) {i c : Nat} {fks : List Nat} (hd : decode cc pc = .ok (.getfield 9, 3)) (hs : (gS Γ)[i]? = some (.inr (3, fks))) (hf : fks[0]? = some (c + 2)) (k : GG Γ X d nL Q (pc + 3) lv (.ref (gad Γ c) :: st) w) : GG Γ X d nL Q pc lv (.ref (gad Γ i) :: st) w := G_get hO hd 0 hs rfl inX3 (by decide) fl_X3_9 hf rfl k
theorem fl_X3_15 : Cond.fieldLink RX3 15 (TX3 1).1 (TX3 1).2.1 (TX3 1).2.2.1 ∈ AW := AW_mem 138 (by decide +kernel) (by decide +kernel)
theorem gr_X3_15 {Γ : Gx} {X : Mx} {cc : ByteArray} {nL d pc : Nat} {ret : Option FieldType} {Q : Option Value → Wd → Prop} {lv : List (Option Value)} {st : List Value} {w : Wd} (hO : OKM Γ X RX3 cc nL ret) {i c : Nat} {fks : List Nat} (hd : decode cc pc = .ok (.getfield 15, 3)) (hs : (gS Γ)[i]? = some (.inr (3, fks))) (hf : fks[1]? = some (c + 2)) (k : GG Γ X d nL Q (pc + 3) lv (.ref (gad Γ c) :: st) w) : GG Γ X d nL Q pc lv (.ref (gad Γ i) :: st) w := G_get hO hd 1 hs rfl inX3 (by decide) fl_X3_15 hf rfl k
theorem fl_X3_18 : Cond.fieldLink RX3 18 (TX3 2).1 (TX3 2).2.1 (TX3 2).2.2.1 ∈ AW := AW_mem 139 (by decide +kernel) (by decide +kernel)
theorem gi_X3_18 {Γ : Gx} {X : Mx} {cc : ByteArray} {nL d pc : Nat} {ret : Option FieldType} {Q : Option Value → Wd → Prop} {lv : List (Option Value)} {st : List Value} {w : Wd} (hO : OKM Γ X RX3 cc nL ret) {i : Nat} {fks : List Nat} (hd : decode cc pc = .ok (.getfield 18, 3)) (hs : (gS Γ)[i]? = some (.inr (3, fks))) (hf : fks[2]? = some 0) (k : GG Γ X d nL Q (pc + 3) lv (.int (w i 2) :: st) w) : GG Γ X d nL Q pc lv (.ref (gad Γ i) :: st) w := G_get hO hd 2 hs rfl inX3 (by decide) fl_X3_18 hf rfl k
theorem pi_X3_18 {Γ : Gx} {X : Mx} {cc : ByteArray} {nL d pc : Nat} {ret : Option FieldType} {Q : Option Value → Wd → Prop} {lv : List (Option Value)} {st : List Value} {w : Wd} (hO : OKM Γ X RX3 cc nL ret) {i : Nat} {fks : List Nat} {x : Int32} (hd : decode cc pc = .ok (.putfield 18, 3)) (hs : (gS Γ)[i]? = some (.inr (3, fks))) (hf : fks[2]? = some 0) (k : GG Γ X d nL Q (pc + 3) lv st (wset w i 2 x)) : GG Γ X d nL Q pc lv (.int x :: .ref (gad Γ i) :: st) w := G_put hO hd tyX3 2 hs rfl inX3 tyX3_ok nmX3 (by decide) fl_X3_18 rfl (ty := .int) rfl rfl rfl hf (fun j => by simp [fvl, wset]) k
theorem fl_X2_9 : Cond.fieldLink RX2 9 (TX2 0).1 (TX2 0).2.1 (TX2 0).2.2.1 ∈ AW := AW_mem 152 (by decide +kernel) (by decide +kernel)
theorem gr_X2_9 {Γ : Gx} {X : Mx} {cc : ByteArray} {nL d pc : Nat} {ret : Option FieldType} {Q : Option Value → Wd → Prop} {lv : List (Option Value)} {st : List Value} {w : Wd} (hO : OKM Γ X RX2 cc nL ret) {i c : Nat} {fks : List Nat} (hd : decode cc pc = .ok (.getfield 9, 3)) (hs : (gS Γ)[i]? = some (.inr (2, fks))) (hf : fks[0]? = some (c + 2)) (k : GG Γ X d nL Q (pc + 3) lv (.ref (gad Γ c) :: st) w) : GG Γ X d nL Q pc lv (.ref (gad Γ i) :: st) w := G_get hO hd 0 hs rfl inX2 (by decide) fl_X2_9 hf rfl k
theorem fl_X0_114 : Cond.fieldLink RX0 114 (TX2 0).1 (TX2 0).2.1 (TX2 0).2.2.1 ∈ AW := AW_mem 153 (by decide +kernel) (by decide +kernel)
theorem gr_X0_114 {Γ : Gx} {X : Mx} {cc : ByteArray} {nL d pc : Nat} {ret : Option FieldType} {Q : Option Value → Wd → Prop} {lv : List (Option Value)} {st : List Value} {w : Wd} (hO : OKM Γ X RX0 cc nL ret) {i c : Nat} {fks : List Nat} (hd : decode cc pc = .ok (.getfield 114, 3)) (hs : (gS Γ)[i]? = some (.inr (2, fks))) (hf : fks[0]? = some (c + 2)) (k : GG Γ X d nL Q (pc + 3) lv (.ref (gad Γ c) :: st) w) : GG Γ X d nL Q pc lv (.ref (gad Γ i) :: st) w := G_get hO hd 0 hs rfl inX2 (by decide) fl_X0_114 hf rfl k
theorem fl_X4_248 : Cond.fieldLink RX4 248 (TX2 0).1 (TX2 0).2.1 (TX2 0).2.2.1 ∈ AW := AW_mem 154 (by decide +kernel) (by decide +kernel)
theorem gr_X4_248 {Γ : Gx} {X : Mx} {cc : ByteArray} {nL d pc : Nat} {ret : Option FieldType} {Q : Option Value → Wd → Prop} {lv : List (Option Value)} {st : List Value} {w : Wd} (hO : OKM Γ X RX4 cc nL ret) {i c : Nat} {fks : List Nat} (hd : decode cc pc = .ok (.getfield 248, 3)) (hs : (gS Γ)[i]? = some (.inr (2, fks))) (hf : fks[0]? = some (c + 2)) (k : GG Γ X d nL Q (pc + 3) lv (.ref (gad Γ c) :: st) w) : GG Γ X d nL Q pc lv (.ref (gad Γ i) :: st) w := G_get hO hd 0 hs rfl inX2 (by decide) fl_X4_248 hf rfl k
theorem fl_X2_15 : Cond.fieldLink RX2 15 (TX2 1).1 (TX2 1).2.1 (TX2 1).2.2.1 ∈ AW := AW_mem 155 (by decide +kernel) (by decide +kernel)
theorem gi_X2_15 {Γ : Gx} {X : Mx} {cc : ByteArray} {nL d pc : Nat} {ret : Option FieldType} {Q : Option Value → Wd → Prop} {lv : List (Option Value)} {st : List Value} {w : Wd} (hO : OKM Γ X RX2 cc nL ret) {i : Nat} {fks : List Nat} (hd : decode cc pc = .ok (.getfield 15, 3)) (hs : (gS Γ)[i]? = some (.inr (2, fks))) (hf : fks[1]? = some 0) (k : GG Γ X d nL Q (pc + 3) lv (.int (w i 1) :: st) w) : GG Γ X d nL Q pc lv (.ref (gad Γ i) :: st) w := G_get hO hd 1 hs rfl inX2 (by decide) fl_X2_15 hf rfl k
theorem pi_X2_15 {Γ : Gx} {X : Mx} {cc : ByteArray} {nL d pc : Nat} {ret : Option FieldType} {Q : Option Value → Wd → Prop} {lv : List (Option Value)} {st : List Value} {w : Wd} (hO : OKM Γ X RX2 cc nL ret) {i : Nat} {fks : List Nat} {x : Int32} (hd : decode cc pc = .ok (.putfield 15, 3)) (hs : (gS Γ)[i]? = some (.inr (2, fks))) (hf : fks[1]? = some 0) (k : GG Γ X d nL Q (pc + 3) lv st (wset w i 1 x)) : GG Γ X d nL Q pc lv (.int x :: .ref (gad Γ i) :: st) w := G_put hO hd tyX2 1 hs rfl inX2 tyX2_ok nmX2 (by decide) fl_X2_15 rfl (ty := .int) rfl rfl rfl hf (fun j => by simp [fvl, wset]) k
theorem fl_X4_242 : Cond.fieldLink RX4 242 (TX2 1).1 (TX2 1).2.1 (TX2 1).2.2.1 ∈ AW := AW_mem 156 (by decide +kernel) (by decide +kernel)
theorem gi_X4_242 {Γ : Gx} {X : Mx} {cc : ByteArray} {nL d pc : Nat} {ret : Option FieldType} {Q : Option Value → Wd → Prop} {lv : List (Option Value)} {st : List Value} {w : Wd} (hO : OKM Γ X RX4 cc nL ret) {i : Nat} {fks : List Nat} (hd : decode cc pc = .ok (.getfield 242, 3)) (hs : (gS Γ)[i]? = some (.inr (2, fks))) (hf : fks[1]? = some 0) (k : GG Γ X d nL Q (pc + 3) lv (.int (w i 1) :: st) w) : GG Γ X d nL Q pc lv (.ref (gad Γ i) :: st) w := G_get hO hd 1 hs rfl inX2 (by decide) fl_X4_242 hf rfl k
theorem pi_X4_242 {Γ : Gx} {X : Mx} {cc : ByteArray} {nL d pc : Nat} {ret : Option FieldType} {Q : Option Value → Wd → Prop} {lv : List (Option Value)} {st : List Value} {w : Wd} (hO : OKM Γ X RX4 cc nL ret) {i : Nat} {fks : List Nat} {x : Int32} (hd : decode cc pc = .ok (.putfield 242, 3)) (hs : (gS Γ)[i]? = some (.inr (2, fks))) (hf : fks[1]? = some 0) (k : GG Γ X d nL Q (pc + 3) lv st (wset w i 1 x)) : GG Γ X d nL Q pc lv (.int x :: .ref (gad Γ i) :: st) w := G_put hO hd tyX2 1 hs rfl inX2 tyX2_ok nmX2 (by decide) fl_X4_242 rfl (ty := .int) rfl rfl rfl hf (fun j => by simp [fvl, wset]) k
theorem fl_X2_19 : Cond.fieldLink RX2 19 (TX2 2).1 (TX2 2).2.1 (TX2 2).2.2.1 ∈ AW := AW_mem 157 (by decide +kernel) (by decide +kernel)
theorem gi_X2_19 {Γ : Gx} {X : Mx} {cc : ByteArray} {nL d pc : Nat} {ret : Option FieldType} {Q : Option Value → Wd → Prop} {lv : List (Option Value)} {st : List Value} {w : Wd} (hO : OKM Γ X RX2 cc nL ret) {i : Nat} {fks : List Nat} (hd : decode cc pc = .ok (.getfield 19, 3)) (hs : (gS Γ)[i]? = some (.inr (2, fks))) (hf : fks[2]? = some 0) (k : GG Γ X d nL Q (pc + 3) lv (.int (w i 2) :: st) w) : GG Γ X d nL Q pc lv (.ref (gad Γ i) :: st) w := G_get hO hd 2 hs rfl inX2 (by decide) fl_X2_19 hf rfl k
theorem pi_X2_19 {Γ : Gx} {X : Mx} {cc : ByteArray} {nL d pc : Nat} {ret : Option FieldType} {Q : Option Value → Wd → Prop} {lv : List (Option Value)} {st : List Value} {w : Wd} (hO : OKM Γ X RX2 cc nL ret) {i : Nat} {fks : List Nat} {x : Int32} (hd : decode cc pc = .ok (.putfield 19, 3)) (hs : (gS Γ)[i]? = some (.inr (2, fks))) (hf : fks[2]? = some 0) (k : GG Γ X d nL Q (pc + 3) lv st (wset w i 2 x)) : GG Γ X d nL Q pc lv (.int x :: .ref (gad Γ i) :: st) w := G_put hO hd tyX2 2 hs rfl inX2 tyX2_ok nmX2 (by decide) fl_X2_19 rfl (ty := .int) rfl rfl rfl hf (fun j => by simp [fvl, wset]) k
theorem fl_X0_111 : Cond.fieldLink RX0 111 (TX2 2).1 (TX2 2).2.1 (TX2 2).2.2.1 ∈ AW := AW_mem 158 (by decide +kernel) (by decide +kernel)
theorem gi_X0_111 {Γ : Gx} {X : Mx} {cc : ByteArray} {nL d pc : Nat} {ret : Option FieldType} {Q : Option Value → Wd → Prop} {lv : List (Option Value)} {st : List Value} {w : Wd} (hO : OKM Γ X RX0 cc nL ret) {i : Nat} {fks : List Nat} (hd : decode cc pc = .ok (.getfield 111, 3)) (hs : (gS Γ)[i]? = some (.inr (2, fks))) (hf : fks[2]? = some 0) (k : GG Γ X d nL Q (pc + 3) lv (.int (w i 2) :: st) w) : GG Γ X d nL Q pc lv (.ref (gad Γ i) :: st) w := G_get hO hd 2 hs rfl inX2 (by decide) fl_X0_111 hf rfl k
theorem pi_X0_111 {Γ : Gx} {X : Mx} {cc : ByteArray} {nL d pc : Nat} {ret : Option FieldType} {Q : Option Value → Wd → Prop} {lv : List (Option Value)} {st : List Value} {w : Wd} (hO : OKM Γ X RX0 cc nL ret) {i : Nat} {fks : List Nat} {x : Int32} (hd : decode cc pc = .ok (.putfield 111, 3)) (hs : (gS Γ)[i]? = some (.inr (2, fks))) (hf : fks[2]? = some 0) (k : GG Γ X d nL Q (pc + 3) lv st (wset w i 2 x)) : GG Γ X d nL Q pc lv (.int x :: .ref (gad Γ i) :: st) w := G_put hO hd tyX2 2 hs rfl inX2 tyX2_ok nmX2 (by decide) fl_X0_111 rfl (ty := .int) rfl rfl rfl hf (fun j => by simp [fvl, wset]) k
theorem fl_X4_206 : Cond.fieldLink RX4 206 (TX2 2).1 (TX2 2).2.1 (TX2 2).2.2.1 ∈ AW := AW_mem 159 (by decide +kernel) (by decide +kernel)
theorem gi_X4_206 {Γ : Gx} {X : Mx} {cc : ByteArray} {nL d pc : Nat} {ret : Option FieldType} {Q : Option Value → Wd → Prop} {lv : List (Option Value)} {st : List Value} {w : Wd} (hO : OKM Γ X RX4 cc nL ret) {i : Nat} {fks : List Nat} (hd : decode cc pc = .ok (.getfield 206, 3)) (hs : (gS Γ)[i]? = some (.inr (2, fks))) (hf : fks[2]? = some 0) (k : GG Γ X d nL Q (pc + 3) lv (.int (w i 2) :: st) w) : GG Γ X d nL Q pc lv (.ref (gad Γ i) :: st) w := G_get hO hd 2 hs rfl inX2 (by decide) fl_X4_206 hf rfl k
theorem pi_X4_206 {Γ : Gx} {X : Mx} {cc : ByteArray} {nL d pc : Nat} {ret : Option FieldType} {Q : Option Value → Wd → Prop} {lv : List (Option Value)} {st : List Value} {w : Wd} (hO : OKM Γ X RX4 cc nL ret) {i : Nat} {fks : List Nat} {x : Int32} (hd : decode cc pc = .ok (.putfield 206, 3)) (hs : (gS Γ)[i]? = some (.inr (2, fks))) (hf : fks[2]? = some 0) (k : GG Γ X d nL Q (pc + 3) lv st (wset w i 2 x)) : GG Γ X d nL Q pc lv (.int x :: .ref (gad Γ i) :: st) w := G_put hO hd tyX2 2 hs rfl inX2 tyX2_ok nmX2 (by decide) fl_X4_206 rfl (ty := .int) rfl rfl rfl hf (fun j => by simp [fvl, wset]) k
theorem fl_X0_9 : Cond.fieldLink RX0 9 (TX0 0).1 (TX0 0).2.1 (TX0 0).2.2.1 ∈ AW := AW_mem 173 (by decide +kernel) (by decide +kernel)
theorem gr_X0_9 {Γ : Gx} {X : Mx} {cc : ByteArray} {nL d pc : Nat} {ret : Option FieldType} {Q : Option Value → Wd → Prop} {lv : List (Option Value)} {st : List Value} {w : Wd} (hO : OKM Γ X RX0 cc nL ret) {i c : Nat} {fks : List Nat} (hd : decode cc pc = .ok (.getfield 9, 3)) (hs : (gS Γ)[i]? = some (.inr (0, fks))) (hf : fks[0]? = some (c + 2)) (k : GG Γ X d nL Q (pc + 3) lv (.ref (gad Γ c) :: st) w) : GG Γ X d nL Q pc lv (.ref (gad Γ i) :: st) w := G_get hO hd 0 hs rfl inX0 (by decide) fl_X0_9 hf rfl k
theorem fl_X4_106 : Cond.fieldLink RX4 106 (TX0 0).1 (TX0 0).2.1 (TX0 0).2.2.1 ∈ AW := AW_mem 174 (by decide +kernel) (by decide +kernel)
theorem gr_X4_106 {Γ : Gx} {X : Mx} {cc : ByteArray} {nL d pc : Nat} {ret : Option FieldType} {Q : Option Value → Wd → Prop} {lv : List (Option Value)} {st : List Value} {w : Wd} (hO : OKM Γ X RX4 cc nL ret) {i c : Nat} {fks : List Nat} (hd : decode cc pc = .ok (.getfield 106, 3)) (hs : (gS Γ)[i]? = some (.inr (0, fks))) (hf : fks[0]? = some (c + 2)) (k : GG Γ X d nL Q (pc + 3) lv (.ref (gad Γ c) :: st) w) : GG Γ X d nL Q pc lv (.ref (gad Γ i) :: st) w := G_get hO hd 0 hs rfl inX0 (by decide) fl_X4_106 hf rfl k
theorem fl_X0_15 : Cond.fieldLink RX0 15 (TX0 1).1 (TX0 1).2.1 (TX0 1).2.2.1 ∈ AW := AW_mem 175 (by decide +kernel) (by decide +kernel)
theorem gr_X0_15 {Γ : Gx} {X : Mx} {cc : ByteArray} {nL d pc : Nat} {ret : Option FieldType} {Q : Option Value → Wd → Prop} {lv : List (Option Value)} {st : List Value} {w : Wd} (hO : OKM Γ X RX0 cc nL ret) {i c : Nat} {fks : List Nat} (hd : decode cc pc = .ok (.getfield 15, 3)) (hs : (gS Γ)[i]? = some (.inr (0, fks))) (hf : fks[1]? = some (c + 2)) (k : GG Γ X d nL Q (pc + 3) lv (.ref (gad Γ c) :: st) w) : GG Γ X d nL Q pc lv (.ref (gad Γ i) :: st) w := G_get hO hd 1 hs rfl inX0 (by decide) fl_X0_15 hf rfl k
theorem fl_X4_97 : Cond.fieldLink RX4 97 (TX0 1).1 (TX0 1).2.1 (TX0 1).2.2.1 ∈ AW := AW_mem 176 (by decide +kernel) (by decide +kernel)
theorem gr_X4_97 {Γ : Gx} {X : Mx} {cc : ByteArray} {nL d pc : Nat} {ret : Option FieldType} {Q : Option Value → Wd → Prop} {lv : List (Option Value)} {st : List Value} {w : Wd} (hO : OKM Γ X RX4 cc nL ret) {i c : Nat} {fks : List Nat} (hd : decode cc pc = .ok (.getfield 97, 3)) (hs : (gS Γ)[i]? = some (.inr (0, fks))) (hf : fks[1]? = some (c + 2)) (k : GG Γ X d nL Q (pc + 3) lv (.ref (gad Γ c) :: st) w) : GG Γ X d nL Q pc lv (.ref (gad Γ i) :: st) w := G_get hO hd 1 hs rfl inX0 (by decide) fl_X4_97 hf rfl k
theorem fl_X0_18 : Cond.fieldLink RX0 18 (TX0 2).1 (TX0 2).2.1 (TX0 2).2.2.1 ∈ AW := AW_mem 177 (by decide +kernel) (by decide +kernel)
theorem gr_X0_18 {Γ : Gx} {X : Mx} {cc : ByteArray} {nL d pc : Nat} {ret : Option FieldType} {Q : Option Value → Wd → Prop} {lv : List (Option Value)} {st : List Value} {w : Wd} (hO : OKM Γ X RX0 cc nL ret) {i c : Nat} {fks : List Nat} (hd : decode cc pc = .ok (.getfield 18, 3)) (hs : (gS Γ)[i]? = some (.inr (0, fks))) (hf : fks[2]? = some (c + 2)) (k : GG Γ X d nL Q (pc + 3) lv (.ref (gad Γ c) :: st) w) : GG Γ X d nL Q pc lv (.ref (gad Γ i) :: st) w := G_get hO hd 2 hs rfl inX0 (by decide) fl_X0_18 hf rfl k
theorem fl_X4_100 : Cond.fieldLink RX4 100 (TX0 2).1 (TX0 2).2.1 (TX0 2).2.2.1 ∈ AW := AW_mem 178 (by decide +kernel) (by decide +kernel)
theorem gr_X4_100 {Γ : Gx} {X : Mx} {cc : ByteArray} {nL d pc : Nat} {ret : Option FieldType} {Q : Option Value → Wd → Prop} {lv : List (Option Value)} {st : List Value} {w : Wd} (hO : OKM Γ X RX4 cc nL ret) {i c : Nat} {fks : List Nat} (hd : decode cc pc = .ok (.getfield 100, 3)) (hs : (gS Γ)[i]? = some (.inr (0, fks))) (hf : fks[2]? = some (c + 2)) (k : GG Γ X d nL Q (pc + 3) lv (.ref (gad Γ c) :: st) w) : GG Γ X d nL Q pc lv (.ref (gad Γ i) :: st) w := G_get hO hd 2 hs rfl inX0 (by decide) fl_X4_100 hf rfl k
theorem fl_X0_21 : Cond.fieldLink RX0 21 (TX0 3).1 (TX0 3).2.1 (TX0 3).2.2.1 ∈ AW := AW_mem 179 (by decide +kernel) (by decide +kernel)
theorem gr_X0_21 {Γ : Gx} {X : Mx} {cc : ByteArray} {nL d pc : Nat} {ret : Option FieldType} {Q : Option Value → Wd → Prop} {lv : List (Option Value)} {st : List Value} {w : Wd} (hO : OKM Γ X RX0 cc nL ret) {i c : Nat} {fks : List Nat} (hd : decode cc pc = .ok (.getfield 21, 3)) (hs : (gS Γ)[i]? = some (.inr (0, fks))) (hf : fks[3]? = some (c + 2)) (k : GG Γ X d nL Q (pc + 3) lv (.ref (gad Γ c) :: st) w) : GG Γ X d nL Q pc lv (.ref (gad Γ i) :: st) w := G_get hO hd 3 hs rfl inX0 (by decide) fl_X0_21 hf rfl k
theorem fl_X4_186 : Cond.fieldLink RX4 186 (TX0 3).1 (TX0 3).2.1 (TX0 3).2.2.1 ∈ AW := AW_mem 180 (by decide +kernel) (by decide +kernel)
theorem gr_X4_186 {Γ : Gx} {X : Mx} {cc : ByteArray} {nL d pc : Nat} {ret : Option FieldType} {Q : Option Value → Wd → Prop} {lv : List (Option Value)} {st : List Value} {w : Wd} (hO : OKM Γ X RX4 cc nL ret) {i c : Nat} {fks : List Nat} (hd : decode cc pc = .ok (.getfield 186, 3)) (hs : (gS Γ)[i]? = some (.inr (0, fks))) (hf : fks[3]? = some (c + 2)) (k : GG Γ X d nL Q (pc + 3) lv (.ref (gad Γ c) :: st) w) : GG Γ X d nL Q pc lv (.ref (gad Γ i) :: st) w := G_get hO hd 3 hs rfl inX0 (by decide) fl_X4_186 hf rfl k
theorem fl_X0_41 : Cond.fieldLink RX0 41 (TX0 4).1 (TX0 4).2.1 (TX0 4).2.2.1 ∈ AW := AW_mem 181 (by decide +kernel) (by decide +kernel)
theorem gi_X0_41 {Γ : Gx} {X : Mx} {cc : ByteArray} {nL d pc : Nat} {ret : Option FieldType} {Q : Option Value → Wd → Prop} {lv : List (Option Value)} {st : List Value} {w : Wd} (hO : OKM Γ X RX0 cc nL ret) {i : Nat} {fks : List Nat} (hd : decode cc pc = .ok (.getfield 41, 3)) (hs : (gS Γ)[i]? = some (.inr (0, fks))) (hf : fks[4]? = some 0) (k : GG Γ X d nL Q (pc + 3) lv (.int (w i 4) :: st) w) : GG Γ X d nL Q pc lv (.ref (gad Γ i) :: st) w := G_get hO hd 4 hs rfl inX0 (by decide) fl_X0_41 hf rfl k
theorem pi_X0_41 {Γ : Gx} {X : Mx} {cc : ByteArray} {nL d pc : Nat} {ret : Option FieldType} {Q : Option Value → Wd → Prop} {lv : List (Option Value)} {st : List Value} {w : Wd} (hO : OKM Γ X RX0 cc nL ret) {i : Nat} {fks : List Nat} {x : Int32} (hd : decode cc pc = .ok (.putfield 41, 3)) (hs : (gS Γ)[i]? = some (.inr (0, fks))) (hf : fks[4]? = some 0) (k : GG Γ X d nL Q (pc + 3) lv st (wset w i 4 x)) : GG Γ X d nL Q pc lv (.int x :: .ref (gad Γ i) :: st) w := G_put hO hd tyX0 4 hs rfl inX0 tyX0_ok nmX0 (by decide) fl_X0_41 rfl (ty := .int) rfl rfl rfl hf (fun j => by simp [fvl, wset]) k
theorem fl_X4_127 : Cond.fieldLink RX4 127 (TX0 4).1 (TX0 4).2.1 (TX0 4).2.2.1 ∈ AW := AW_mem 182 (by decide +kernel) (by decide +kernel)
theorem gi_X4_127 {Γ : Gx} {X : Mx} {cc : ByteArray} {nL d pc : Nat} {ret : Option FieldType} {Q : Option Value → Wd → Prop} {lv : List (Option Value)} {st : List Value} {w : Wd} (hO : OKM Γ X RX4 cc nL ret) {i : Nat} {fks : List Nat} (hd : decode cc pc = .ok (.getfield 127, 3)) (hs : (gS Γ)[i]? = some (.inr (0, fks))) (hf : fks[4]? = some 0) (k : GG Γ X d nL Q (pc + 3) lv (.int (w i 4) :: st) w) : GG Γ X d nL Q pc lv (.ref (gad Γ i) :: st) w := G_get hO hd 4 hs rfl inX0 (by decide) fl_X4_127 hf rfl k
theorem pi_X4_127 {Γ : Gx} {X : Mx} {cc : ByteArray} {nL d pc : Nat} {ret : Option FieldType} {Q : Option Value → Wd → Prop} {lv : List (Option Value)} {st : List Value} {w : Wd} (hO : OKM Γ X RX4 cc nL ret) {i : Nat} {fks : List Nat} {x : Int32} (hd : decode cc pc = .ok (.putfield 127, 3)) (hs : (gS Γ)[i]? = some (.inr (0, fks))) (hf : fks[4]? = some 0) (k : GG Γ X d nL Q (pc + 3) lv st (wset w i 4 x)) : GG Γ X d nL Q pc lv (.int x :: .ref (gad Γ i) :: st) w := G_put hO hd tyX0 4 hs rfl inX0 tyX0_ok nmX0 (by decide) fl_X4_127 rfl (ty := .int) rfl rfl rfl hf (fun j => by simp [fvl, wset]) k
theorem fl_X0_24 : Cond.fieldLink RX0 24 (TX0 5).1 (TX0 5).2.1 (TX0 5).2.2.1 ∈ AW := AW_mem 183 (by decide +kernel) (by decide +kernel)
theorem gi_X0_24 {Γ : Gx} {X : Mx} {cc : ByteArray} {nL d pc : Nat} {ret : Option FieldType} {Q : Option Value → Wd → Prop} {lv : List (Option Value)} {st : List Value} {w : Wd} (hO : OKM Γ X RX0 cc nL ret) {i : Nat} {fks : List Nat} (hd : decode cc pc = .ok (.getfield 24, 3)) (hs : (gS Γ)[i]? = some (.inr (0, fks))) (hf : fks[5]? = some 0) (k : GG Γ X d nL Q (pc + 3) lv (.int (w i 5) :: st) w) : GG Γ X d nL Q pc lv (.ref (gad Γ i) :: st) w := G_get hO hd 5 hs rfl inX0 (by decide) fl_X0_24 hf rfl k
theorem pi_X0_24 {Γ : Gx} {X : Mx} {cc : ByteArray} {nL d pc : Nat} {ret : Option FieldType} {Q : Option Value → Wd → Prop} {lv : List (Option Value)} {st : List Value} {w : Wd} (hO : OKM Γ X RX0 cc nL ret) {i : Nat} {fks : List Nat} {x : Int32} (hd : decode cc pc = .ok (.putfield 24, 3)) (hs : (gS Γ)[i]? = some (.inr (0, fks))) (hf : fks[5]? = some 0) (k : GG Γ X d nL Q (pc + 3) lv st (wset w i 5 x)) : GG Γ X d nL Q pc lv (.int x :: .ref (gad Γ i) :: st) w := G_put hO hd tyX0 5 hs rfl inX0 tyX0_ok nmX0 (by decide) fl_X0_24 rfl (ty := .int) rfl rfl rfl hf (fun j => by simp [fvl, wset]) k
theorem fl_X4_94 : Cond.fieldLink RX4 94 (TX0 5).1 (TX0 5).2.1 (TX0 5).2.2.1 ∈ AW := AW_mem 184 (by decide +kernel) (by decide +kernel)
theorem gi_X4_94 {Γ : Gx} {X : Mx} {cc : ByteArray} {nL d pc : Nat} {ret : Option FieldType} {Q : Option Value → Wd → Prop} {lv : List (Option Value)} {st : List Value} {w : Wd} (hO : OKM Γ X RX4 cc nL ret) {i : Nat} {fks : List Nat} (hd : decode cc pc = .ok (.getfield 94, 3)) (hs : (gS Γ)[i]? = some (.inr (0, fks))) (hf : fks[5]? = some 0) (k : GG Γ X d nL Q (pc + 3) lv (.int (w i 5) :: st) w) : GG Γ X d nL Q pc lv (.ref (gad Γ i) :: st) w := G_get hO hd 5 hs rfl inX0 (by decide) fl_X4_94 hf rfl k
theorem pi_X4_94 {Γ : Gx} {X : Mx} {cc : ByteArray} {nL d pc : Nat} {ret : Option FieldType} {Q : Option Value → Wd → Prop} {lv : List (Option Value)} {st : List Value} {w : Wd} (hO : OKM Γ X RX4 cc nL ret) {i : Nat} {fks : List Nat} {x : Int32} (hd : decode cc pc = .ok (.putfield 94, 3)) (hs : (gS Γ)[i]? = some (.inr (0, fks))) (hf : fks[5]? = some 0) (k : GG Γ X d nL Q (pc + 3) lv st (wset w i 5 x)) : GG Γ X d nL Q pc lv (.int x :: .ref (gad Γ i) :: st) w := G_put hO hd tyX0 5 hs rfl inX0 tyX0_ok nmX0 (by decide) fl_X4_94 rfl (ty := .int) rfl rfl rfl hf (fun j => by simp [fvl, wset]) k
theorem fl_X0_44 : Cond.fieldLink RX0 44 (TX0 6).1 (TX0 6).2.1 (TX0 6).2.2.1 ∈ AW := AW_mem 185 (by decide +kernel) (by decide +kernel)
theorem gi_X0_44 {Γ : Gx} {X : Mx} {cc : ByteArray} {nL d pc : Nat} {ret : Option FieldType} {Q : Option Value → Wd → Prop} {lv : List (Option Value)} {st : List Value} {w : Wd} (hO : OKM Γ X RX0 cc nL ret) {i : Nat} {fks : List Nat} (hd : decode cc pc = .ok (.getfield 44, 3)) (hs : (gS Γ)[i]? = some (.inr (0, fks))) (hf : fks[6]? = some 0) (k : GG Γ X d nL Q (pc + 3) lv (.int (w i 6) :: st) w) : GG Γ X d nL Q pc lv (.ref (gad Γ i) :: st) w := G_get hO hd 6 hs rfl inX0 (by decide) fl_X0_44 hf rfl k
theorem pi_X0_44 {Γ : Gx} {X : Mx} {cc : ByteArray} {nL d pc : Nat} {ret : Option FieldType} {Q : Option Value → Wd → Prop} {lv : List (Option Value)} {st : List Value} {w : Wd} (hO : OKM Γ X RX0 cc nL ret) {i : Nat} {fks : List Nat} {x : Int32} (hd : decode cc pc = .ok (.putfield 44, 3)) (hs : (gS Γ)[i]? = some (.inr (0, fks))) (hf : fks[6]? = some 0) (k : GG Γ X d nL Q (pc + 3) lv st (wset w i 6 x)) : GG Γ X d nL Q pc lv (.int x :: .ref (gad Γ i) :: st) w := G_put hO hd tyX0 6 hs rfl inX0 tyX0_ok nmX0 (by decide) fl_X0_44 rfl (ty := .int) rfl rfl rfl hf (fun j => by simp [fvl, wset]) k
theorem fl_X4_91 : Cond.fieldLink RX4 91 (TX0 6).1 (TX0 6).2.1 (TX0 6).2.2.1 ∈ AW := AW_mem 186 (by decide +kernel) (by decide +kernel)
theorem gi_X4_91 {Γ : Gx} {X : Mx} {cc : ByteArray} {nL d pc : Nat} {ret : Option FieldType} {Q : Option Value → Wd → Prop} {lv : List (Option Value)} {st : List Value} {w : Wd} (hO : OKM Γ X RX4 cc nL ret) {i : Nat} {fks : List Nat} (hd : decode cc pc = .ok (.getfield 91, 3)) (hs : (gS Γ)[i]? = some (.inr (0, fks))) (hf : fks[6]? = some 0) (k : GG Γ X d nL Q (pc + 3) lv (.int (w i 6) :: st) w) : GG Γ X d nL Q pc lv (.ref (gad Γ i) :: st) w := G_get hO hd 6 hs rfl inX0 (by decide) fl_X4_91 hf rfl k
theorem pi_X4_91 {Γ : Gx} {X : Mx} {cc : ByteArray} {nL d pc : Nat} {ret : Option FieldType} {Q : Option Value → Wd → Prop} {lv : List (Option Value)} {st : List Value} {w : Wd} (hO : OKM Γ X RX4 cc nL ret) {i : Nat} {fks : List Nat} {x : Int32} (hd : decode cc pc = .ok (.putfield 91, 3)) (hs : (gS Γ)[i]? = some (.inr (0, fks))) (hf : fks[6]? = some 0) (k : GG Γ X d nL Q (pc + 3) lv st (wset w i 6 x)) : GG Γ X d nL Q pc lv (.int x :: .ref (gad Γ i) :: st) w := G_put hO hd tyX0 6 hs rfl inX0 tyX0_ok nmX0 (by decide) fl_X4_91 rfl (ty := .int) rfl rfl rfl hf (fun j => by simp [fvl, wset]) k
theorem fl_X0_47 : Cond.fieldLink RX0 47 (TX0 7).1 (TX0 7).2.1 (TX0 7).2.2.1 ∈ AW := AW_mem 187 (by decide +kernel) (by decide +kernel)
theorem gi_X0_47 {Γ : Gx} {X : Mx} {cc : ByteArray} {nL d pc : Nat} {ret : Option FieldType} {Q : Option Value → Wd → Prop} {lv : List (Option Value)} {st : List Value} {w : Wd} (hO : OKM Γ X RX0 cc nL ret) {i : Nat} {fks : List Nat} (hd : decode cc pc = .ok (.getfield 47, 3)) (hs : (gS Γ)[i]? = some (.inr (0, fks))) (hf : fks[7]? = some 0) (k : GG Γ X d nL Q (pc + 3) lv (.int (w i 7) :: st) w) : GG Γ X d nL Q pc lv (.ref (gad Γ i) :: st) w := G_get hO hd 7 hs rfl inX0 (by decide) fl_X0_47 hf rfl k
theorem pi_X0_47 {Γ : Gx} {X : Mx} {cc : ByteArray} {nL d pc : Nat} {ret : Option FieldType} {Q : Option Value → Wd → Prop} {lv : List (Option Value)} {st : List Value} {w : Wd} (hO : OKM Γ X RX0 cc nL ret) {i : Nat} {fks : List Nat} {x : Int32} (hd : decode cc pc = .ok (.putfield 47, 3)) (hs : (gS Γ)[i]? = some (.inr (0, fks))) (hf : fks[7]? = some 0) (k : GG Γ X d nL Q (pc + 3) lv st (wset w i 7 x)) : GG Γ X d nL Q pc lv (.int x :: .ref (gad Γ i) :: st) w := G_put hO hd tyX0 7 hs rfl inX0 tyX0_ok nmX0 (by decide) fl_X0_47 rfl (ty := .int) rfl rfl rfl hf (fun j => by simp [fvl, wset]) k
theorem fl_X4_128 : Cond.fieldLink RX4 128 (TX0 7).1 (TX0 7).2.1 (TX0 7).2.2.1 ∈ AW := AW_mem 188 (by decide +kernel) (by decide +kernel)
theorem gi_X4_128 {Γ : Gx} {X : Mx} {cc : ByteArray} {nL d pc : Nat} {ret : Option FieldType} {Q : Option Value → Wd → Prop} {lv : List (Option Value)} {st : List Value} {w : Wd} (hO : OKM Γ X RX4 cc nL ret) {i : Nat} {fks : List Nat} (hd : decode cc pc = .ok (.getfield 128, 3)) (hs : (gS Γ)[i]? = some (.inr (0, fks))) (hf : fks[7]? = some 0) (k : GG Γ X d nL Q (pc + 3) lv (.int (w i 7) :: st) w) : GG Γ X d nL Q pc lv (.ref (gad Γ i) :: st) w := G_get hO hd 7 hs rfl inX0 (by decide) fl_X4_128 hf rfl k
theorem pi_X4_128 {Γ : Gx} {X : Mx} {cc : ByteArray} {nL d pc : Nat} {ret : Option FieldType} {Q : Option Value → Wd → Prop} {lv : List (Option Value)} {st : List Value} {w : Wd} (hO : OKM Γ X RX4 cc nL ret) {i : Nat} {fks : List Nat} {x : Int32} (hd : decode cc pc = .ok (.putfield 128, 3)) (hs : (gS Γ)[i]? = some (.inr (0, fks))) (hf : fks[7]? = some 0) (k : GG Γ X d nL Q (pc + 3) lv st (wset w i 7 x)) : GG Γ X d nL Q pc lv (.int x :: .ref (gad Γ i) :: st) w := G_put hO hd tyX0 7 hs rfl inX0 tyX0_ok nmX0 (by decide) fl_X4_128 rfl (ty := .int) rfl rfl rfl hf (fun j => by simp [fvl, wset]) k
theorem fl_X0_28 : Cond.fieldLink RX0 28 (TX0 8).1 (TX0 8).2.1 (TX0 8).2.2.1 ∈ AW := AW_mem 189 (by decide +kernel) (by decide +kernel)
theorem gi_X0_28 {Γ : Gx} {X : Mx} {cc : ByteArray} {nL d pc : Nat} {ret : Option FieldType} {Q : Option Value → Wd → Prop} {lv : List (Option Value)} {st : List Value} {w : Wd} (hO : OKM Γ X RX0 cc nL ret) {i : Nat} {fks : List Nat} (hd : decode cc pc = .ok (.getfield 28, 3)) (hs : (gS Γ)[i]? = some (.inr (0, fks))) (hf : fks[8]? = some 0) (k : GG Γ X d nL Q (pc + 3) lv (.int (w i 8) :: st) w) : GG Γ X d nL Q pc lv (.ref (gad Γ i) :: st) w := G_get hO hd 8 hs rfl inX0 (by decide) fl_X0_28 hf rfl k
theorem pi_X0_28 {Γ : Gx} {X : Mx} {cc : ByteArray} {nL d pc : Nat} {ret : Option FieldType} {Q : Option Value → Wd → Prop} {lv : List (Option Value)} {st : List Value} {w : Wd} (hO : OKM Γ X RX0 cc nL ret) {i : Nat} {fks : List Nat} {x : Int32} (hd : decode cc pc = .ok (.putfield 28, 3)) (hs : (gS Γ)[i]? = some (.inr (0, fks))) (hf : fks[8]? = some 0) (k : GG Γ X d nL Q (pc + 3) lv st (wset w i 8 x)) : GG Γ X d nL Q pc lv (.int x :: .ref (gad Γ i) :: st) w := G_put hO hd tyX0 8 hs rfl inX0 tyX0_ok nmX0 (by decide) fl_X0_28 rfl (ty := .int) rfl rfl rfl hf (fun j => by simp [fvl, wset]) k
theorem fl_X4_183 : Cond.fieldLink RX4 183 (TX0 8).1 (TX0 8).2.1 (TX0 8).2.2.1 ∈ AW := AW_mem 190 (by decide +kernel) (by decide +kernel)
theorem gi_X4_183 {Γ : Gx} {X : Mx} {cc : ByteArray} {nL d pc : Nat} {ret : Option FieldType} {Q : Option Value → Wd → Prop} {lv : List (Option Value)} {st : List Value} {w : Wd} (hO : OKM Γ X RX4 cc nL ret) {i : Nat} {fks : List Nat} (hd : decode cc pc = .ok (.getfield 183, 3)) (hs : (gS Γ)[i]? = some (.inr (0, fks))) (hf : fks[8]? = some 0) (k : GG Γ X d nL Q (pc + 3) lv (.int (w i 8) :: st) w) : GG Γ X d nL Q pc lv (.ref (gad Γ i) :: st) w := G_get hO hd 8 hs rfl inX0 (by decide) fl_X4_183 hf rfl k
theorem pi_X4_183 {Γ : Gx} {X : Mx} {cc : ByteArray} {nL d pc : Nat} {ret : Option FieldType} {Q : Option Value → Wd → Prop} {lv : List (Option Value)} {st : List Value} {w : Wd} (hO : OKM Γ X RX4 cc nL ret) {i : Nat} {fks : List Nat} {x : Int32} (hd : decode cc pc = .ok (.putfield 183, 3)) (hs : (gS Γ)[i]? = some (.inr (0, fks))) (hf : fks[8]? = some 0) (k : GG Γ X d nL Q (pc + 3) lv st (wset w i 8 x)) : GG Γ X d nL Q pc lv (.int x :: .ref (gad Γ i) :: st) w := G_put hO hd tyX0 8 hs rfl inX0 tyX0_ok nmX0 (by decide) fl_X4_183 rfl (ty := .int) rfl rfl rfl hf (fun j => by simp [fvl, wset]) k
theorem fl_X0_37 : Cond.fieldLink RX0 37 (TX0 9).1 (TX0 9).2.1 (TX0 9).2.2.1 ∈ AW := AW_mem 191 (by decide +kernel) (by decide +kernel)
theorem gr_X0_37 {Γ : Gx} {X : Mx} {cc : ByteArray} {nL d pc : Nat} {ret : Option FieldType} {Q : Option Value → Wd → Prop} {lv : List (Option Value)} {st : List Value} {w : Wd} (hO : OKM Γ X RX0 cc nL ret) {i c : Nat} {fks : List Nat} (hd : decode cc pc = .ok (.getfield 37, 3)) (hs : (gS Γ)[i]? = some (.inr (0, fks))) (hf : fks[9]? = some (c + 2)) (k : GG Γ X d nL Q (pc + 3) lv (.ref (gad Γ c) :: st) w) : GG Γ X d nL Q pc lv (.ref (gad Γ i) :: st) w := G_get hO hd 9 hs rfl inX0 (by decide) fl_X0_37 hf rfl k
theorem fl_X0_31 : Cond.fieldLink RX0 31 (TX0 10).1 (TX0 10).2.1 (TX0 10).2.2.1 ∈ AW := AW_mem 192 (by decide +kernel) (by decide +kernel)
theorem gr_X0_31 {Γ : Gx} {X : Mx} {cc : ByteArray} {nL d pc : Nat} {ret : Option FieldType} {Q : Option Value → Wd → Prop} {lv : List (Option Value)} {st : List Value} {w : Wd} (hO : OKM Γ X RX0 cc nL ret) {i c : Nat} {fks : List Nat} (hd : decode cc pc = .ok (.getfield 31, 3)) (hs : (gS Γ)[i]? = some (.inr (0, fks))) (hf : fks[10]? = some (c + 2)) (k : GG Γ X d nL Q (pc + 3) lv (.ref (gad Γ c) :: st) w) : GG Γ X d nL Q pc lv (.ref (gad Γ i) :: st) w := G_get hO hd 10 hs rfl inX0 (by decide) fl_X0_31 hf rfl k
theorem fl_X0_34 : Cond.fieldLink RX0 34 (TX0 11).1 (TX0 11).2.1 (TX0 11).2.2.1 ∈ AW := AW_mem 193 (by decide +kernel) (by decide +kernel)
theorem gr_X0_34 {Γ : Gx} {X : Mx} {cc : ByteArray} {nL d pc : Nat} {ret : Option FieldType} {Q : Option Value → Wd → Prop} {lv : List (Option Value)} {st : List Value} {w : Wd} (hO : OKM Γ X RX0 cc nL ret) {i c : Nat} {fks : List Nat} (hd : decode cc pc = .ok (.getfield 34, 3)) (hs : (gS Γ)[i]? = some (.inr (0, fks))) (hf : fks[11]? = some (c + 2)) (k : GG Γ X d nL Q (pc + 3) lv (.ref (gad Γ c) :: st) w) : GG Γ X d nL Q pc lv (.ref (gad Γ i) :: st) w := G_get hO hd 11 hs rfl inX0 (by decide) fl_X0_34 hf rfl k
theorem fl_X4_11 : Cond.fieldLink RX4 11 (TX4 0).1 (TX4 0).2.1 (TX4 0).2.2.1 ∈ AW := AW_mem 410 (by decide +kernel) (by decide +kernel)
theorem gr_X4_11 {Γ : Gx} {X : Mx} {cc : ByteArray} {nL d pc : Nat} {ret : Option FieldType} {Q : Option Value → Wd → Prop} {lv : List (Option Value)} {st : List Value} {w : Wd} (hO : OKM Γ X RX4 cc nL ret) {i c : Nat} {fks : List Nat} (hd : decode cc pc = .ok (.getfield 11, 3)) (hs : (gS Γ)[i]? = some (.inr (4, fks))) (hf : fks[0]? = some (c + 2)) (k : GG Γ X d nL Q (pc + 3) lv (.ref (gad Γ c) :: st) w) : GG Γ X d nL Q pc lv (.ref (gad Γ i) :: st) w := G_get hO hd 0 hs rfl inX4 (by decide) fl_X4_11 hf rfl k
theorem fl_X4_17 : Cond.fieldLink RX4 17 (TX4 1).1 (TX4 1).2.1 (TX4 1).2.2.1 ∈ AW := AW_mem 411 (by decide +kernel) (by decide +kernel)
theorem gr_X4_17 {Γ : Gx} {X : Mx} {cc : ByteArray} {nL d pc : Nat} {ret : Option FieldType} {Q : Option Value → Wd → Prop} {lv : List (Option Value)} {st : List Value} {w : Wd} (hO : OKM Γ X RX4 cc nL ret) {i c : Nat} {fks : List Nat} (hd : decode cc pc = .ok (.getfield 17, 3)) (hs : (gS Γ)[i]? = some (.inr (4, fks))) (hf : fks[1]? = some (c + 2)) (k : GG Γ X d nL Q (pc + 3) lv (.ref (gad Γ c) :: st) w) : GG Γ X d nL Q pc lv (.ref (gad Γ i) :: st) w := G_get hO hd 1 hs rfl inX4 (by decide) fl_X4_17 hf rfl k
theorem fl_X4_24 : Cond.fieldLink RX4 24 (TX4 2).1 (TX4 2).2.1 (TX4 2).2.2.1 ∈ AW := AW_mem 412 (by decide +kernel) (by decide +kernel)
theorem gr_X4_24 {Γ : Gx} {X : Mx} {cc : ByteArray} {nL d pc : Nat} {ret : Option FieldType} {Q : Option Value → Wd → Prop} {lv : List (Option Value)} {st : List Value} {w : Wd} (hO : OKM Γ X RX4 cc nL ret) {i c : Nat} {fks : List Nat} (hd : decode cc pc = .ok (.getfield 24, 3)) (hs : (gS Γ)[i]? = some (.inr (4, fks))) (hf : fks[2]? = some (c + 2)) (k : GG Γ X d nL Q (pc + 3) lv (.ref (gad Γ c) :: st) w) : GG Γ X d nL Q pc lv (.ref (gad Γ i) :: st) w := G_get hO hd 2 hs rfl inX4 (by decide) fl_X4_24 hf rfl k
theorem fl_X4_39 : Cond.fieldLink RX4 39 (TX4 3).1 (TX4 3).2.1 (TX4 3).2.2.1 ∈ AW := AW_mem 413 (by decide +kernel) (by decide +kernel)
theorem gr_X4_39 {Γ : Gx} {X : Mx} {cc : ByteArray} {nL d pc : Nat} {ret : Option FieldType} {Q : Option Value → Wd → Prop} {lv : List (Option Value)} {st : List Value} {w : Wd} (hO : OKM Γ X RX4 cc nL ret) {i c : Nat} {fks : List Nat} (hd : decode cc pc = .ok (.getfield 39, 3)) (hs : (gS Γ)[i]? = some (.inr (4, fks))) (hf : fks[3]? = some (c + 2)) (k : GG Γ X d nL Q (pc + 3) lv (.ref (gad Γ c) :: st) w) : GG Γ X d nL Q pc lv (.ref (gad Γ i) :: st) w := G_get hO hd 3 hs rfl inX4 (by decide) fl_X4_39 hf rfl k
theorem fl_X4_43 : Cond.fieldLink RX4 43 (TX4 4).1 (TX4 4).2.1 (TX4 4).2.2.1 ∈ AW := AW_mem 414 (by decide +kernel) (by decide +kernel)
theorem gr_X4_43 {Γ : Gx} {X : Mx} {cc : ByteArray} {nL d pc : Nat} {ret : Option FieldType} {Q : Option Value → Wd → Prop} {lv : List (Option Value)} {st : List Value} {w : Wd} (hO : OKM Γ X RX4 cc nL ret) {i c : Nat} {fks : List Nat} (hd : decode cc pc = .ok (.getfield 43, 3)) (hs : (gS Γ)[i]? = some (.inr (4, fks))) (hf : fks[4]? = some (c + 2)) (k : GG Γ X d nL Q (pc + 3) lv (.ref (gad Γ c) :: st) w) : GG Γ X d nL Q pc lv (.ref (gad Γ i) :: st) w := G_get hO hd 4 hs rfl inX4 (by decide) fl_X4_43 hf rfl k
theorem fl_X4_46 : Cond.fieldLink RX4 46 (TX4 5).1 (TX4 5).2.1 (TX4 5).2.2.1 ∈ AW := AW_mem 415 (by decide +kernel) (by decide +kernel)
theorem gr_X4_46 {Γ : Gx} {X : Mx} {cc : ByteArray} {nL d pc : Nat} {ret : Option FieldType} {Q : Option Value → Wd → Prop} {lv : List (Option Value)} {st : List Value} {w : Wd} (hO : OKM Γ X RX4 cc nL ret) {i c : Nat} {fks : List Nat} (hd : decode cc pc = .ok (.getfield 46, 3)) (hs : (gS Γ)[i]? = some (.inr (4, fks))) (hf : fks[5]? = some (c + 2)) (k : GG Γ X d nL Q (pc + 3) lv (.ref (gad Γ c) :: st) w) : GG Γ X d nL Q pc lv (.ref (gad Γ i) :: st) w := G_get hO hd 5 hs rfl inX4 (by decide) fl_X4_46 hf rfl k
theorem fl_X4_28 : Cond.fieldLink RX4 28 (TX4 6).1 (TX4 6).2.1 (TX4 6).2.2.1 ∈ AW := AW_mem 416 (by decide +kernel) (by decide +kernel)
theorem gr_X4_28 {Γ : Gx} {X : Mx} {cc : ByteArray} {nL d pc : Nat} {ret : Option FieldType} {Q : Option Value → Wd → Prop} {lv : List (Option Value)} {st : List Value} {w : Wd} (hO : OKM Γ X RX4 cc nL ret) {i c : Nat} {fks : List Nat} (hd : decode cc pc = .ok (.getfield 28, 3)) (hs : (gS Γ)[i]? = some (.inr (4, fks))) (hf : fks[6]? = some (c + 2)) (k : GG Γ X d nL Q (pc + 3) lv (.ref (gad Γ c) :: st) w) : GG Γ X d nL Q pc lv (.ref (gad Γ i) :: st) w := G_get hO hd 6 hs rfl inX4 (by decide) fl_X4_28 hf rfl k
theorem fl_X4_73 : Cond.fieldLink RX4 73 (TX4 7).1 (TX4 7).2.1 (TX4 7).2.2.1 ∈ AW := AW_mem 417 (by decide +kernel) (by decide +kernel)
theorem gi_X4_73 {Γ : Gx} {X : Mx} {cc : ByteArray} {nL d pc : Nat} {ret : Option FieldType} {Q : Option Value → Wd → Prop} {lv : List (Option Value)} {st : List Value} {w : Wd} (hO : OKM Γ X RX4 cc nL ret) {i : Nat} {fks : List Nat} (hd : decode cc pc = .ok (.getfield 73, 3)) (hs : (gS Γ)[i]? = some (.inr (4, fks))) (hf : fks[7]? = some 0) (k : GG Γ X d nL Q (pc + 3) lv (.int (w i 7) :: st) w) : GG Γ X d nL Q pc lv (.ref (gad Γ i) :: st) w := G_get hO hd 7 hs rfl inX4 (by decide) fl_X4_73 hf rfl k
theorem pi_X4_73 {Γ : Gx} {X : Mx} {cc : ByteArray} {nL d pc : Nat} {ret : Option FieldType} {Q : Option Value → Wd → Prop} {lv : List (Option Value)} {st : List Value} {w : Wd} (hO : OKM Γ X RX4 cc nL ret) {i : Nat} {fks : List Nat} {x : Int32} (hd : decode cc pc = .ok (.putfield 73, 3)) (hs : (gS Γ)[i]? = some (.inr (4, fks))) (hf : fks[7]? = some 0) (k : GG Γ X d nL Q (pc + 3) lv st (wset w i 7 x)) : GG Γ X d nL Q pc lv (.int x :: .ref (gad Γ i) :: st) w := G_put hO hd tyX4 7 hs rfl inX4 tyX4_ok nmX4 (by decide) fl_X4_73 rfl (ty := .int) rfl rfl rfl hf (fun j => by simp [fvl, wset]) k
theorem fl_X4_235 : Cond.fieldLink RX4 235 (TX4 8).1 (TX4 8).2.1 (TX4 8).2.2.1 ∈ AW := AW_mem 418 (by decide +kernel) (by decide +kernel)
theorem gi_X4_235 {Γ : Gx} {X : Mx} {cc : ByteArray} {nL d pc : Nat} {ret : Option FieldType} {Q : Option Value → Wd → Prop} {lv : List (Option Value)} {st : List Value} {w : Wd} (hO : OKM Γ X RX4 cc nL ret) {i : Nat} {fks : List Nat} (hd : decode cc pc = .ok (.getfield 235, 3)) (hs : (gS Γ)[i]? = some (.inr (4, fks))) (hf : fks[8]? = some 0) (k : GG Γ X d nL Q (pc + 3) lv (.int (w i 8) :: st) w) : GG Γ X d nL Q pc lv (.ref (gad Γ i) :: st) w := G_get hO hd 8 hs rfl inX4 (by decide) fl_X4_235 hf rfl k
theorem pi_X4_235 {Γ : Gx} {X : Mx} {cc : ByteArray} {nL d pc : Nat} {ret : Option FieldType} {Q : Option Value → Wd → Prop} {lv : List (Option Value)} {st : List Value} {w : Wd} (hO : OKM Γ X RX4 cc nL ret) {i : Nat} {fks : List Nat} {x : Int32} (hd : decode cc pc = .ok (.putfield 235, 3)) (hs : (gS Γ)[i]? = some (.inr (4, fks))) (hf : fks[8]? = some 0) (hz : x = 0 ∨ x = 1) (k : GG Γ X d nL Q (pc + 3) lv st (wset w i 8 x)) : GG Γ X d nL Q pc lv (.int x :: .ref (gad Γ i) :: st) w := G_put hO hd tyX4 8 hs rfl inX4 tyX4_ok nmX4 (by decide) fl_X4_235 rfl (ty := .boolean) rfl (by rcases hz with rfl | rfl <;> rfl) (by rcases hz with rfl | rfl <;> rfl) hf (fun j => by simp [fvl, wset]) k
theorem fl_X5_93 : Cond.fieldLink RX5 93 (TX5 0).1 (TX5 0).2.1 (TX5 0).2.2.1 ∈ AW := AW_mem 749 (by decide +kernel) (by decide +kernel)
theorem gi_X5_93 {Γ : Gx} {X : Mx} {cc : ByteArray} {nL d pc : Nat} {ret : Option FieldType} {Q : Option Value → Wd → Prop} {lv : List (Option Value)} {st : List Value} {w : Wd} (hO : OKM Γ X RX5 cc nL ret) {i : Nat} {fks : List Nat} (hd : decode cc pc = .ok (.getfield 93, 3)) (hs : (gS Γ)[i]? = some (.inr (5, fks))) (hf : fks[0]? = some 0) (k : GG Γ X d nL Q (pc + 3) lv (.int (w i 0) :: st) w) : GG Γ X d nL Q pc lv (.ref (gad Γ i) :: st) w := G_get hO hd 0 hs rfl inX5 (by decide) fl_X5_93 hf rfl k
theorem pi_X5_93 {Γ : Gx} {X : Mx} {cc : ByteArray} {nL d pc : Nat} {ret : Option FieldType} {Q : Option Value → Wd → Prop} {lv : List (Option Value)} {st : List Value} {w : Wd} (hO : OKM Γ X RX5 cc nL ret) {i : Nat} {fks : List Nat} {x : Int32} (hd : decode cc pc = .ok (.putfield 93, 3)) (hs : (gS Γ)[i]? = some (.inr (5, fks))) (hf : fks[0]? = some 0) (k : GG Γ X d nL Q (pc + 3) lv st (wset w i 0 x)) : GG Γ X d nL Q pc lv (.int x :: .ref (gad Γ i) :: st) w := G_put hO hd tyX5 0 hs rfl inX5 tyX5_ok nmX5 (by decide) fl_X5_93 rfl (ty := .int) rfl rfl rfl hf (fun j => by simp [fvl, wset]) k
theorem fl_X5_7 : Cond.fieldLink RX5 7 (TX5 1).1 (TX5 1).2.1 (TX5 1).2.2.1 ∈ AW := AW_mem 750 (by decide +kernel) (by decide +kernel)
theorem gr_X5_7 {Γ : Gx} {X : Mx} {cc : ByteArray} {nL d pc : Nat} {ret : Option FieldType} {Q : Option Value → Wd → Prop} {lv : List (Option Value)} {st : List Value} {w : Wd} (hO : OKM Γ X RX5 cc nL ret) {i c : Nat} {fks : List Nat} (hd : decode cc pc = .ok (.getfield 7, 3)) (hs : (gS Γ)[i]? = some (.inr (5, fks))) (hf : fks[1]? = some (c + 2)) (k : GG Γ X d nL Q (pc + 3) lv (.ref (gad Γ c) :: st) w) : GG Γ X d nL Q pc lv (.ref (gad Γ i) :: st) w := G_get hO hd 1 hs rfl inX5 (by decide) fl_X5_7 hf rfl k
theorem fl_X5_79 : Cond.fieldLink RX5 79 (TX5 2).1 (TX5 2).2.1 (TX5 2).2.2.1 ∈ AW := AW_mem 751 (by decide +kernel) (by decide +kernel)
theorem gi_X5_79 {Γ : Gx} {X : Mx} {cc : ByteArray} {nL d pc : Nat} {ret : Option FieldType} {Q : Option Value → Wd → Prop} {lv : List (Option Value)} {st : List Value} {w : Wd} (hO : OKM Γ X RX5 cc nL ret) {i : Nat} {fks : List Nat} (hd : decode cc pc = .ok (.getfield 79, 3)) (hs : (gS Γ)[i]? = some (.inr (5, fks))) (hf : fks[2]? = some 0) (k : GG Γ X d nL Q (pc + 3) lv (.int (w i 2) :: st) w) : GG Γ X d nL Q pc lv (.ref (gad Γ i) :: st) w := G_get hO hd 2 hs rfl inX5 (by decide) fl_X5_79 hf rfl k
theorem pi_X5_79 {Γ : Gx} {X : Mx} {cc : ByteArray} {nL d pc : Nat} {ret : Option FieldType} {Q : Option Value → Wd → Prop} {lv : List (Option Value)} {st : List Value} {w : Wd} (hO : OKM Γ X RX5 cc nL ret) {i : Nat} {fks : List Nat} {x : Int32} (hd : decode cc pc = .ok (.putfield 79, 3)) (hs : (gS Γ)[i]? = some (.inr (5, fks))) (hf : fks[2]? = some 0) (k : GG Γ X d nL Q (pc + 3) lv st (wset w i 2 x)) : GG Γ X d nL Q pc lv (.int x :: .ref (gad Γ i) :: st) w := G_put hO hd tyX5 2 hs rfl inX5 tyX5_ok nmX5 (by decide) fl_X5_79 rfl (ty := .int) rfl rfl rfl hf (fun j => by simp [fvl, wset]) k
theorem fl_X5_13 : Cond.fieldLink RX5 13 (TX5 3).1 (TX5 3).2.1 (TX5 3).2.2.1 ∈ AW := AW_mem 752 (by decide +kernel) (by decide +kernel)
theorem gr_X5_13 {Γ : Gx} {X : Mx} {cc : ByteArray} {nL d pc : Nat} {ret : Option FieldType} {Q : Option Value → Wd → Prop} {lv : List (Option Value)} {st : List Value} {w : Wd} (hO : OKM Γ X RX5 cc nL ret) {i c : Nat} {fks : List Nat} (hd : decode cc pc = .ok (.getfield 13, 3)) (hs : (gS Γ)[i]? = some (.inr (5, fks))) (hf : fks[3]? = some (c + 2)) (k : GG Γ X d nL Q (pc + 3) lv (.ref (gad Γ c) :: st) w) : GG Γ X d nL Q pc lv (.ref (gad Γ i) :: st) w := G_get hO hd 3 hs rfl inX5 (by decide) fl_X5_13 hf rfl k
theorem fl_X5_17 : Cond.fieldLink RX5 17 (TX5 4).1 (TX5 4).2.1 (TX5 4).2.2.1 ∈ AW := AW_mem 753 (by decide +kernel) (by decide +kernel)
theorem gr_X5_17 {Γ : Gx} {X : Mx} {cc : ByteArray} {nL d pc : Nat} {ret : Option FieldType} {Q : Option Value → Wd → Prop} {lv : List (Option Value)} {st : List Value} {w : Wd} (hO : OKM Γ X RX5 cc nL ret) {i c : Nat} {fks : List Nat} (hd : decode cc pc = .ok (.getfield 17, 3)) (hs : (gS Γ)[i]? = some (.inr (5, fks))) (hf : fks[4]? = some (c + 2)) (k : GG Γ X d nL Q (pc + 3) lv (.ref (gad Γ c) :: st) w) : GG Γ X d nL Q pc lv (.ref (gad Γ i) :: st) w := G_get hO hd 4 hs rfl inX5 (by decide) fl_X5_17 hf rfl k
theorem fl_X5_20 : Cond.fieldLink RX5 20 (TX5 5).1 (TX5 5).2.1 (TX5 5).2.2.1 ∈ AW := AW_mem 754 (by decide +kernel) (by decide +kernel)
theorem gr_X5_20 {Γ : Gx} {X : Mx} {cc : ByteArray} {nL d pc : Nat} {ret : Option FieldType} {Q : Option Value → Wd → Prop} {lv : List (Option Value)} {st : List Value} {w : Wd} (hO : OKM Γ X RX5 cc nL ret) {i c : Nat} {fks : List Nat} (hd : decode cc pc = .ok (.getfield 20, 3)) (hs : (gS Γ)[i]? = some (.inr (5, fks))) (hf : fks[5]? = some (c + 2)) (k : GG Γ X d nL Q (pc + 3) lv (.ref (gad Γ c) :: st) w) : GG Γ X d nL Q pc lv (.ref (gad Γ i) :: st) w := G_get hO hd 5 hs rfl inX5 (by decide) fl_X5_20 hf rfl k
theorem fl_X5_214 : Cond.fieldLink RX5 214 (TX5 6).1 (TX5 6).2.1 (TX5 6).2.2.1 ∈ AW := AW_mem 755 (by decide +kernel) (by decide +kernel)
theorem gi_X5_214 {Γ : Gx} {X : Mx} {cc : ByteArray} {nL d pc : Nat} {ret : Option FieldType} {Q : Option Value → Wd → Prop} {lv : List (Option Value)} {st : List Value} {w : Wd} (hO : OKM Γ X RX5 cc nL ret) {i : Nat} {fks : List Nat} (hd : decode cc pc = .ok (.getfield 214, 3)) (hs : (gS Γ)[i]? = some (.inr (5, fks))) (hf : fks[6]? = some 0) (k : GG Γ X d nL Q (pc + 3) lv (.int (w i 6) :: st) w) : GG Γ X d nL Q pc lv (.ref (gad Γ i) :: st) w := G_get hO hd 6 hs rfl inX5 (by decide) fl_X5_214 hf rfl k
theorem pi_X5_214 {Γ : Gx} {X : Mx} {cc : ByteArray} {nL d pc : Nat} {ret : Option FieldType} {Q : Option Value → Wd → Prop} {lv : List (Option Value)} {st : List Value} {w : Wd} (hO : OKM Γ X RX5 cc nL ret) {i : Nat} {fks : List Nat} {x : Int32} (hd : decode cc pc = .ok (.putfield 214, 3)) (hs : (gS Γ)[i]? = some (.inr (5, fks))) (hf : fks[6]? = some 0) (k : GG Γ X d nL Q (pc + 3) lv st (wset w i 6 x)) : GG Γ X d nL Q pc lv (.int x :: .ref (gad Γ i) :: st) w := G_put hO hd tyX5 6 hs rfl inX5 tyX5_ok nmX5 (by decide) fl_X5_214 rfl (ty := .int) rfl rfl rfl hf (fun j => by simp [fvl, wset]) k
theorem fl_X5_126 : Cond.fieldLink RX5 126 (TX5 7).1 (TX5 7).2.1 (TX5 7).2.2.1 ∈ AW := AW_mem 756 (by decide +kernel) (by decide +kernel)
theorem gi_X5_126 {Γ : Gx} {X : Mx} {cc : ByteArray} {nL d pc : Nat} {ret : Option FieldType} {Q : Option Value → Wd → Prop} {lv : List (Option Value)} {st : List Value} {w : Wd} (hO : OKM Γ X RX5 cc nL ret) {i : Nat} {fks : List Nat} (hd : decode cc pc = .ok (.getfield 126, 3)) (hs : (gS Γ)[i]? = some (.inr (5, fks))) (hf : fks[7]? = some 0) (k : GG Γ X d nL Q (pc + 3) lv (.int (w i 7) :: st) w) : GG Γ X d nL Q pc lv (.ref (gad Γ i) :: st) w := G_get hO hd 7 hs rfl inX5 (by decide) fl_X5_126 hf rfl k
theorem pi_X5_126 {Γ : Gx} {X : Mx} {cc : ByteArray} {nL d pc : Nat} {ret : Option FieldType} {Q : Option Value → Wd → Prop} {lv : List (Option Value)} {st : List Value} {w : Wd} (hO : OKM Γ X RX5 cc nL ret) {i : Nat} {fks : List Nat} {x : Int32} (hd : decode cc pc = .ok (.putfield 126, 3)) (hs : (gS Γ)[i]? = some (.inr (5, fks))) (hf : fks[7]? = some 0) (k : GG Γ X d nL Q (pc + 3) lv st (wset w i 7 x)) : GG Γ X d nL Q pc lv (.int x :: .ref (gad Γ i) :: st) w := G_put hO hd tyX5 7 hs rfl inX5 tyX5_ok nmX5 (by decide) fl_X5_126 rfl (ty := .int) rfl rfl rfl hf (fun j => by simp [fvl, wset]) k
theorem fl_X5_23 : Cond.fieldLink RX5 23 (TX5 8).1 (TX5 8).2.1 (TX5 8).2.2.1 ∈ AW := AW_mem 757 (by decide +kernel) (by decide +kernel)
theorem gr_X5_23 {Γ : Gx} {X : Mx} {cc : ByteArray} {nL d pc : Nat} {ret : Option FieldType} {Q : Option Value → Wd → Prop} {lv : List (Option Value)} {st : List Value} {w : Wd} (hO : OKM Γ X RX5 cc nL ret) {i c : Nat} {fks : List Nat} (hd : decode cc pc = .ok (.getfield 23, 3)) (hs : (gS Γ)[i]? = some (.inr (5, fks))) (hf : fks[8]? = some (c + 2)) (k : GG Γ X d nL Q (pc + 3) lv (.ref (gad Γ c) :: st) w) : GG Γ X d nL Q pc lv (.ref (gad Γ i) :: st) w := G_get hO hd 8 hs rfl inX5 (by decide) fl_X5_23 hf rfl k
theorem fl_X5_76 : Cond.fieldLink RX5 76 (TX5 9).1 (TX5 9).2.1 (TX5 9).2.2.1 ∈ AW := AW_mem 758 (by decide +kernel) (by decide +kernel)
theorem gi_X5_76 {Γ : Gx} {X : Mx} {cc : ByteArray} {nL d pc : Nat} {ret : Option FieldType} {Q : Option Value → Wd → Prop} {lv : List (Option Value)} {st : List Value} {w : Wd} (hO : OKM Γ X RX5 cc nL ret) {i : Nat} {fks : List Nat} (hd : decode cc pc = .ok (.getfield 76, 3)) (hs : (gS Γ)[i]? = some (.inr (5, fks))) (hf : fks[9]? = some 0) (k : GG Γ X d nL Q (pc + 3) lv (.int (w i 9) :: st) w) : GG Γ X d nL Q pc lv (.ref (gad Γ i) :: st) w := G_get hO hd 9 hs rfl inX5 (by decide) fl_X5_76 hf rfl k
theorem pi_X5_76 {Γ : Gx} {X : Mx} {cc : ByteArray} {nL d pc : Nat} {ret : Option FieldType} {Q : Option Value → Wd → Prop} {lv : List (Option Value)} {st : List Value} {w : Wd} (hO : OKM Γ X RX5 cc nL ret) {i : Nat} {fks : List Nat} {x : Int32} (hd : decode cc pc = .ok (.putfield 76, 3)) (hs : (gS Γ)[i]? = some (.inr (5, fks))) (hf : fks[9]? = some 0) (k : GG Γ X d nL Q (pc + 3) lv st (wset w i 9 x)) : GG Γ X d nL Q pc lv (.int x :: .ref (gad Γ i) :: st) w := G_put hO hd tyX5 9 hs rfl inX5 tyX5_ok nmX5 (by decide) fl_X5_76 rfl (ty := .int) rfl rfl rfl hf (fun j => by simp [fvl, wset]) k
theorem fl_X5_26 : Cond.fieldLink RX5 26 (TX5 10).1 (TX5 10).2.1 (TX5 10).2.2.1 ∈ AW := AW_mem 759 (by decide +kernel) (by decide +kernel)
theorem gr_X5_26 {Γ : Gx} {X : Mx} {cc : ByteArray} {nL d pc : Nat} {ret : Option FieldType} {Q : Option Value → Wd → Prop} {lv : List (Option Value)} {st : List Value} {w : Wd} (hO : OKM Γ X RX5 cc nL ret) {i c : Nat} {fks : List Nat} (hd : decode cc pc = .ok (.getfield 26, 3)) (hs : (gS Γ)[i]? = some (.inr (5, fks))) (hf : fks[10]? = some (c + 2)) (k : GG Γ X d nL Q (pc + 3) lv (.ref (gad Γ c) :: st) w) : GG Γ X d nL Q pc lv (.ref (gad Γ i) :: st) w := G_get hO hd 10 hs rfl inX5 (by decide) fl_X5_26 hf rfl k
theorem fl_X5_29 : Cond.fieldLink RX5 29 (TX5 11).1 (TX5 11).2.1 (TX5 11).2.2.1 ∈ AW := AW_mem 760 (by decide +kernel) (by decide +kernel)
theorem gr_X5_29 {Γ : Gx} {X : Mx} {cc : ByteArray} {nL d pc : Nat} {ret : Option FieldType} {Q : Option Value → Wd → Prop} {lv : List (Option Value)} {st : List Value} {w : Wd} (hO : OKM Γ X RX5 cc nL ret) {i c : Nat} {fks : List Nat} (hd : decode cc pc = .ok (.getfield 29, 3)) (hs : (gS Γ)[i]? = some (.inr (5, fks))) (hf : fks[11]? = some (c + 2)) (k : GG Γ X d nL Q (pc + 3) lv (.ref (gad Γ c) :: st) w) : GG Γ X d nL Q pc lv (.ref (gad Γ i) :: st) w := G_get hO hd 11 hs rfl inX5 (by decide) fl_X5_29 hf rfl k
theorem fl_X5_32 : Cond.fieldLink RX5 32 (TX5 12).1 (TX5 12).2.1 (TX5 12).2.2.1 ∈ AW := AW_mem 761 (by decide +kernel) (by decide +kernel)
theorem gr_X5_32 {Γ : Gx} {X : Mx} {cc : ByteArray} {nL d pc : Nat} {ret : Option FieldType} {Q : Option Value → Wd → Prop} {lv : List (Option Value)} {st : List Value} {w : Wd} (hO : OKM Γ X RX5 cc nL ret) {i c : Nat} {fks : List Nat} (hd : decode cc pc = .ok (.getfield 32, 3)) (hs : (gS Γ)[i]? = some (.inr (5, fks))) (hf : fks[12]? = some (c + 2)) (k : GG Γ X d nL Q (pc + 3) lv (.ref (gad Γ c) :: st) w) : GG Γ X d nL Q pc lv (.ref (gad Γ i) :: st) w := G_get hO hd 12 hs rfl inX5 (by decide) fl_X5_32 hf rfl k
theorem fl_X5_164 : Cond.fieldLink RX5 164 (TX5 13).1 (TX5 13).2.1 (TX5 13).2.2.1 ∈ AW := AW_mem 762 (by decide +kernel) (by decide +kernel)
theorem gi_X5_164 {Γ : Gx} {X : Mx} {cc : ByteArray} {nL d pc : Nat} {ret : Option FieldType} {Q : Option Value → Wd → Prop} {lv : List (Option Value)} {st : List Value} {w : Wd} (hO : OKM Γ X RX5 cc nL ret) {i : Nat} {fks : List Nat} (hd : decode cc pc = .ok (.getfield 164, 3)) (hs : (gS Γ)[i]? = some (.inr (5, fks))) (hf : fks[13]? = some 0) (k : GG Γ X d nL Q (pc + 3) lv (.int (w i 13) :: st) w) : GG Γ X d nL Q pc lv (.ref (gad Γ i) :: st) w := G_get hO hd 13 hs rfl inX5 (by decide) fl_X5_164 hf rfl k
theorem pi_X5_164 {Γ : Gx} {X : Mx} {cc : ByteArray} {nL d pc : Nat} {ret : Option FieldType} {Q : Option Value → Wd → Prop} {lv : List (Option Value)} {st : List Value} {w : Wd} (hO : OKM Γ X RX5 cc nL ret) {i : Nat} {fks : List Nat} {x : Int32} (hd : decode cc pc = .ok (.putfield 164, 3)) (hs : (gS Γ)[i]? = some (.inr (5, fks))) (hf : fks[13]? = some 0) (k : GG Γ X d nL Q (pc + 3) lv st (wset w i 13 x)) : GG Γ X d nL Q pc lv (.int x :: .ref (gad Γ i) :: st) w := G_put hO hd tyX5 13 hs rfl inX5 tyX5_ok nmX5 (by decide) fl_X5_164 rfl (ty := .int) rfl rfl rfl hf (fun j => by simp [fvl, wset]) k
theorem fl_X5_135 : Cond.fieldLink RX5 135 (TX5 14).1 (TX5 14).2.1 (TX5 14).2.2.1 ∈ AW := AW_mem 763 (by decide +kernel) (by decide +kernel)
theorem gi_X5_135 {Γ : Gx} {X : Mx} {cc : ByteArray} {nL d pc : Nat} {ret : Option FieldType} {Q : Option Value → Wd → Prop} {lv : List (Option Value)} {st : List Value} {w : Wd} (hO : OKM Γ X RX5 cc nL ret) {i : Nat} {fks : List Nat} (hd : decode cc pc = .ok (.getfield 135, 3)) (hs : (gS Γ)[i]? = some (.inr (5, fks))) (hf : fks[14]? = some 0) (k : GG Γ X d nL Q (pc + 3) lv (.int (w i 14) :: st) w) : GG Γ X d nL Q pc lv (.ref (gad Γ i) :: st) w := G_get hO hd 14 hs rfl inX5 (by decide) fl_X5_135 hf rfl k
theorem pi_X5_135 {Γ : Gx} {X : Mx} {cc : ByteArray} {nL d pc : Nat} {ret : Option FieldType} {Q : Option Value → Wd → Prop} {lv : List (Option Value)} {st : List Value} {w : Wd} (hO : OKM Γ X RX5 cc nL ret) {i : Nat} {fks : List Nat} {x : Int32} (hd : decode cc pc = .ok (.putfield 135, 3)) (hs : (gS Γ)[i]? = some (.inr (5, fks))) (hf : fks[14]? = some 0) (k : GG Γ X d nL Q (pc + 3) lv st (wset w i 14 x)) : GG Γ X d nL Q pc lv (.int x :: .ref (gad Γ i) :: st) w := G_put hO hd tyX5 14 hs rfl inX5 tyX5_ok nmX5 (by decide) fl_X5_135 rfl (ty := .int) rfl rfl rfl hf (fun j => by simp [fvl, wset]) k
theorem fl_X5_132 : Cond.fieldLink RX5 132 (TX5 15).1 (TX5 15).2.1 (TX5 15).2.2.1 ∈ AW := AW_mem 764 (by decide +kernel) (by decide +kernel)
theorem gi_X5_132 {Γ : Gx} {X : Mx} {cc : ByteArray} {nL d pc : Nat} {ret : Option FieldType} {Q : Option Value → Wd → Prop} {lv : List (Option Value)} {st : List Value} {w : Wd} (hO : OKM Γ X RX5 cc nL ret) {i : Nat} {fks : List Nat} (hd : decode cc pc = .ok (.getfield 132, 3)) (hs : (gS Γ)[i]? = some (.inr (5, fks))) (hf : fks[15]? = some 0) (k : GG Γ X d nL Q (pc + 3) lv (.int (w i 15) :: st) w) : GG Γ X d nL Q pc lv (.ref (gad Γ i) :: st) w := G_get hO hd 15 hs rfl inX5 (by decide) fl_X5_132 hf rfl k
theorem pi_X5_132 {Γ : Gx} {X : Mx} {cc : ByteArray} {nL d pc : Nat} {ret : Option FieldType} {Q : Option Value → Wd → Prop} {lv : List (Option Value)} {st : List Value} {w : Wd} (hO : OKM Γ X RX5 cc nL ret) {i : Nat} {fks : List Nat} {x : Int32} (hd : decode cc pc = .ok (.putfield 132, 3)) (hs : (gS Γ)[i]? = some (.inr (5, fks))) (hf : fks[15]? = some 0) (k : GG Γ X d nL Q (pc + 3) lv st (wset w i 15 x)) : GG Γ X d nL Q pc lv (.int x :: .ref (gad Γ i) :: st) w := G_put hO hd tyX5 15 hs rfl inX5 tyX5_ok nmX5 (by decide) fl_X5_132 rfl (ty := .int) rfl rfl rfl hf (fun j => by simp [fvl, wset]) k
theorem fl_X5_138 : Cond.fieldLink RX5 138 (TX5 16).1 (TX5 16).2.1 (TX5 16).2.2.1 ∈ AW := AW_mem 765 (by decide +kernel) (by decide +kernel)
theorem gi_X5_138 {Γ : Gx} {X : Mx} {cc : ByteArray} {nL d pc : Nat} {ret : Option FieldType} {Q : Option Value → Wd → Prop} {lv : List (Option Value)} {st : List Value} {w : Wd} (hO : OKM Γ X RX5 cc nL ret) {i : Nat} {fks : List Nat} (hd : decode cc pc = .ok (.getfield 138, 3)) (hs : (gS Γ)[i]? = some (.inr (5, fks))) (hf : fks[16]? = some 0) (k : GG Γ X d nL Q (pc + 3) lv (.int (w i 16) :: st) w) : GG Γ X d nL Q pc lv (.ref (gad Γ i) :: st) w := G_get hO hd 16 hs rfl inX5 (by decide) fl_X5_138 hf rfl k
theorem pi_X5_138 {Γ : Gx} {X : Mx} {cc : ByteArray} {nL d pc : Nat} {ret : Option FieldType} {Q : Option Value → Wd → Prop} {lv : List (Option Value)} {st : List Value} {w : Wd} (hO : OKM Γ X RX5 cc nL ret) {i : Nat} {fks : List Nat} {x : Int32} (hd : decode cc pc = .ok (.putfield 138, 3)) (hs : (gS Γ)[i]? = some (.inr (5, fks))) (hf : fks[16]? = some 0) (k : GG Γ X d nL Q (pc + 3) lv st (wset w i 16 x)) : GG Γ X d nL Q pc lv (.int x :: .ref (gad Γ i) :: st) w := G_put hO hd tyX5 16 hs rfl inX5 tyX5_ok nmX5 (by decide) fl_X5_138 rfl (ty := .int) rfl rfl rfl hf (fun j => by simp [fvl, wset]) k
theorem fl_X5_155 : Cond.fieldLink RX5 155 (TX5 17).1 (TX5 17).2.1 (TX5 17).2.2.1 ∈ AW := AW_mem 766 (by decide +kernel) (by decide +kernel)
theorem gi_X5_155 {Γ : Gx} {X : Mx} {cc : ByteArray} {nL d pc : Nat} {ret : Option FieldType} {Q : Option Value → Wd → Prop} {lv : List (Option Value)} {st : List Value} {w : Wd} (hO : OKM Γ X RX5 cc nL ret) {i : Nat} {fks : List Nat} (hd : decode cc pc = .ok (.getfield 155, 3)) (hs : (gS Γ)[i]? = some (.inr (5, fks))) (hf : fks[17]? = some 0) (k : GG Γ X d nL Q (pc + 3) lv (.int (w i 17) :: st) w) : GG Γ X d nL Q pc lv (.ref (gad Γ i) :: st) w := G_get hO hd 17 hs rfl inX5 (by decide) fl_X5_155 hf rfl k
theorem pi_X5_155 {Γ : Gx} {X : Mx} {cc : ByteArray} {nL d pc : Nat} {ret : Option FieldType} {Q : Option Value → Wd → Prop} {lv : List (Option Value)} {st : List Value} {w : Wd} (hO : OKM Γ X RX5 cc nL ret) {i : Nat} {fks : List Nat} {x : Int32} (hd : decode cc pc = .ok (.putfield 155, 3)) (hs : (gS Γ)[i]? = some (.inr (5, fks))) (hf : fks[17]? = some 0) (k : GG Γ X d nL Q (pc + 3) lv st (wset w i 17 x)) : GG Γ X d nL Q pc lv (.int x :: .ref (gad Γ i) :: st) w := G_put hO hd tyX5 17 hs rfl inX5 tyX5_ok nmX5 (by decide) fl_X5_155 rfl (ty := .int) rfl rfl rfl hf (fun j => by simp [fvl, wset]) k
theorem fl_X5_129 : Cond.fieldLink RX5 129 (TX5 18).1 (TX5 18).2.1 (TX5 18).2.2.1 ∈ AW := AW_mem 767 (by decide +kernel) (by decide +kernel)
theorem gi_X5_129 {Γ : Gx} {X : Mx} {cc : ByteArray} {nL d pc : Nat} {ret : Option FieldType} {Q : Option Value → Wd → Prop} {lv : List (Option Value)} {st : List Value} {w : Wd} (hO : OKM Γ X RX5 cc nL ret) {i : Nat} {fks : List Nat} (hd : decode cc pc = .ok (.getfield 129, 3)) (hs : (gS Γ)[i]? = some (.inr (5, fks))) (hf : fks[18]? = some 0) (k : GG Γ X d nL Q (pc + 3) lv (.int (w i 18) :: st) w) : GG Γ X d nL Q pc lv (.ref (gad Γ i) :: st) w := G_get hO hd 18 hs rfl inX5 (by decide) fl_X5_129 hf rfl k
theorem pi_X5_129 {Γ : Gx} {X : Mx} {cc : ByteArray} {nL d pc : Nat} {ret : Option FieldType} {Q : Option Value → Wd → Prop} {lv : List (Option Value)} {st : List Value} {w : Wd} (hO : OKM Γ X RX5 cc nL ret) {i : Nat} {fks : List Nat} {x : Int32} (hd : decode cc pc = .ok (.putfield 129, 3)) (hs : (gS Γ)[i]? = some (.inr (5, fks))) (hf : fks[18]? = some 0) (k : GG Γ X d nL Q (pc + 3) lv st (wset w i 18 x)) : GG Γ X d nL Q pc lv (.int x :: .ref (gad Γ i) :: st) w := G_put hO hd tyX5 18 hs rfl inX5 tyX5_ok nmX5 (by decide) fl_X5_129 rfl (ty := .int) rfl rfl rfl hf (fun j => by simp [fvl, wset]) k
theorem fl_X5_35 : Cond.fieldLink RX5 35 (TX5 19).1 (TX5 19).2.1 (TX5 19).2.2.1 ∈ AW := AW_mem 768 (by decide +kernel) (by decide +kernel)
theorem gr_X5_35 {Γ : Gx} {X : Mx} {cc : ByteArray} {nL d pc : Nat} {ret : Option FieldType} {Q : Option Value → Wd → Prop} {lv : List (Option Value)} {st : List Value} {w : Wd} (hO : OKM Γ X RX5 cc nL ret) {i c : Nat} {fks : List Nat} (hd : decode cc pc = .ok (.getfield 35, 3)) (hs : (gS Γ)[i]? = some (.inr (5, fks))) (hf : fks[19]? = some (c + 2)) (k : GG Γ X d nL Q (pc + 3) lv (.ref (gad Γ c) :: st) w) : GG Γ X d nL Q pc lv (.ref (gad Γ i) :: st) w := G_get hO hd 19 hs rfl inX5 (by decide) fl_X5_35 hf rfl k
theorem fl_X5_167 : Cond.fieldLink RX5 167 (TX5 20).1 (TX5 20).2.1 (TX5 20).2.2.1 ∈ AW := AW_mem 769 (by decide +kernel) (by decide +kernel)
theorem gi_X5_167 {Γ : Gx} {X : Mx} {cc : ByteArray} {nL d pc : Nat} {ret : Option FieldType} {Q : Option Value → Wd → Prop} {lv : List (Option Value)} {st : List Value} {w : Wd} (hO : OKM Γ X RX5 cc nL ret) {i : Nat} {fks : List Nat} (hd : decode cc pc = .ok (.getfield 167, 3)) (hs : (gS Γ)[i]? = some (.inr (5, fks))) (hf : fks[20]? = some 0) (k : GG Γ X d nL Q (pc + 3) lv (.int (w i 20) :: st) w) : GG Γ X d nL Q pc lv (.ref (gad Γ i) :: st) w := G_get hO hd 20 hs rfl inX5 (by decide) fl_X5_167 hf rfl k
theorem pi_X5_167 {Γ : Gx} {X : Mx} {cc : ByteArray} {nL d pc : Nat} {ret : Option FieldType} {Q : Option Value → Wd → Prop} {lv : List (Option Value)} {st : List Value} {w : Wd} (hO : OKM Γ X RX5 cc nL ret) {i : Nat} {fks : List Nat} {x : Int32} (hd : decode cc pc = .ok (.putfield 167, 3)) (hs : (gS Γ)[i]? = some (.inr (5, fks))) (hf : fks[20]? = some 0) (k : GG Γ X d nL Q (pc + 3) lv st (wset w i 20 x)) : GG Γ X d nL Q pc lv (.int x :: .ref (gad Γ i) :: st) w := G_put hO hd tyX5 20 hs rfl inX5 tyX5_ok nmX5 (by decide) fl_X5_167 rfl (ty := .int) rfl rfl rfl hf (fun j => by simp [fvl, wset]) k
theorem fl_X5_173 : Cond.fieldLink RX5 173 (TX5 21).1 (TX5 21).2.1 (TX5 21).2.2.1 ∈ AW := AW_mem 770 (by decide +kernel) (by decide +kernel)
theorem gi_X5_173 {Γ : Gx} {X : Mx} {cc : ByteArray} {nL d pc : Nat} {ret : Option FieldType} {Q : Option Value → Wd → Prop} {lv : List (Option Value)} {st : List Value} {w : Wd} (hO : OKM Γ X RX5 cc nL ret) {i : Nat} {fks : List Nat} (hd : decode cc pc = .ok (.getfield 173, 3)) (hs : (gS Γ)[i]? = some (.inr (5, fks))) (hf : fks[21]? = some 0) (k : GG Γ X d nL Q (pc + 3) lv (.int (w i 21) :: st) w) : GG Γ X d nL Q pc lv (.ref (gad Γ i) :: st) w := G_get hO hd 21 hs rfl inX5 (by decide) fl_X5_173 hf rfl k
theorem pi_X5_173 {Γ : Gx} {X : Mx} {cc : ByteArray} {nL d pc : Nat} {ret : Option FieldType} {Q : Option Value → Wd → Prop} {lv : List (Option Value)} {st : List Value} {w : Wd} (hO : OKM Γ X RX5 cc nL ret) {i : Nat} {fks : List Nat} {x : Int32} (hd : decode cc pc = .ok (.putfield 173, 3)) (hs : (gS Γ)[i]? = some (.inr (5, fks))) (hf : fks[21]? = some 0) (k : GG Γ X d nL Q (pc + 3) lv st (wset w i 21 x)) : GG Γ X d nL Q pc lv (.int x :: .ref (gad Γ i) :: st) w := G_put hO hd tyX5 21 hs rfl inX5 tyX5_ok nmX5 (by decide) fl_X5_173 rfl (ty := .int) rfl rfl rfl hf (fun j => by simp [fvl, wset]) k
theorem fl_X5_183 : Cond.fieldLink RX5 183 (TX5 22).1 (TX5 22).2.1 (TX5 22).2.2.1 ∈ AW := AW_mem 771 (by decide +kernel) (by decide +kernel)
theorem gi_X5_183 {Γ : Gx} {X : Mx} {cc : ByteArray} {nL d pc : Nat} {ret : Option FieldType} {Q : Option Value → Wd → Prop} {lv : List (Option Value)} {st : List Value} {w : Wd} (hO : OKM Γ X RX5 cc nL ret) {i : Nat} {fks : List Nat} (hd : decode cc pc = .ok (.getfield 183, 3)) (hs : (gS Γ)[i]? = some (.inr (5, fks))) (hf : fks[22]? = some 0) (k : GG Γ X d nL Q (pc + 3) lv (.int (w i 22) :: st) w) : GG Γ X d nL Q pc lv (.ref (gad Γ i) :: st) w := G_get hO hd 22 hs rfl inX5 (by decide) fl_X5_183 hf rfl k
theorem pi_X5_183 {Γ : Gx} {X : Mx} {cc : ByteArray} {nL d pc : Nat} {ret : Option FieldType} {Q : Option Value → Wd → Prop} {lv : List (Option Value)} {st : List Value} {w : Wd} (hO : OKM Γ X RX5 cc nL ret) {i : Nat} {fks : List Nat} {x : Int32} (hd : decode cc pc = .ok (.putfield 183, 3)) (hs : (gS Γ)[i]? = some (.inr (5, fks))) (hf : fks[22]? = some 0) (hz : x = 0 ∨ x = 1) (k : GG Γ X d nL Q (pc + 3) lv st (wset w i 22 x)) : GG Γ X d nL Q pc lv (.int x :: .ref (gad Γ i) :: st) w := G_put hO hd tyX5 22 hs rfl inX5 tyX5_ok nmX5 (by decide) fl_X5_183 rfl (ty := .boolean) rfl (by rcases hz with rfl | rfl <;> rfl) (by rcases hz with rfl | rfl <;> rfl) hf (fun j => by simp [fvl, wset]) k
theorem fl_X5_179 : Cond.fieldLink RX5 179 (TX5 23).1 (TX5 23).2.1 (TX5 23).2.2.1 ∈ AW := AW_mem 772 (by decide +kernel) (by decide +kernel)
theorem gi_X5_179 {Γ : Gx} {X : Mx} {cc : ByteArray} {nL d pc : Nat} {ret : Option FieldType} {Q : Option Value → Wd → Prop} {lv : List (Option Value)} {st : List Value} {w : Wd} (hO : OKM Γ X RX5 cc nL ret) {i : Nat} {fks : List Nat} (hd : decode cc pc = .ok (.getfield 179, 3)) (hs : (gS Γ)[i]? = some (.inr (5, fks))) (hf : fks[23]? = some 0) (k : GG Γ X d nL Q (pc + 3) lv (.int (w i 23) :: st) w) : GG Γ X d nL Q pc lv (.ref (gad Γ i) :: st) w := G_get hO hd 23 hs rfl inX5 (by decide) fl_X5_179 hf rfl k
theorem pi_X5_179 {Γ : Gx} {X : Mx} {cc : ByteArray} {nL d pc : Nat} {ret : Option FieldType} {Q : Option Value → Wd → Prop} {lv : List (Option Value)} {st : List Value} {w : Wd} (hO : OKM Γ X RX5 cc nL ret) {i : Nat} {fks : List Nat} {x : Int32} (hd : decode cc pc = .ok (.putfield 179, 3)) (hs : (gS Γ)[i]? = some (.inr (5, fks))) (hf : fks[23]? = some 0) (hz : x = 0 ∨ x = 1) (k : GG Γ X d nL Q (pc + 3) lv st (wset w i 23 x)) : GG Γ X d nL Q pc lv (.int x :: .ref (gad Γ i) :: st) w := G_put hO hd tyX5 23 hs rfl inX5 tyX5_ok nmX5 (by decide) fl_X5_179 rfl (ty := .boolean) rfl (by rcases hz with rfl | rfl <;> rfl) (by rcases hz with rfl | rfl <;> rfl) hf (fun j => by simp [fvl, wset]) k
theorem fl_X5_189 : Cond.fieldLink RX5 189 (TX5 24).1 (TX5 24).2.1 (TX5 24).2.2.1 ∈ AW := AW_mem 773 (by decide +kernel) (by decide +kernel)
theorem gi_X5_189 {Γ : Gx} {X : Mx} {cc : ByteArray} {nL d pc : Nat} {ret : Option FieldType} {Q : Option Value → Wd → Prop} {lv : List (Option Value)} {st : List Value} {w : Wd} (hO : OKM Γ X RX5 cc nL ret) {i : Nat} {fks : List Nat} (hd : decode cc pc = .ok (.getfield 189, 3)) (hs : (gS Γ)[i]? = some (.inr (5, fks))) (hf : fks[24]? = some 0) (k : GG Γ X d nL Q (pc + 3) lv (.int (w i 24) :: st) w) : GG Γ X d nL Q pc lv (.ref (gad Γ i) :: st) w := G_get hO hd 24 hs rfl inX5 (by decide) fl_X5_189 hf rfl k
theorem pi_X5_189 {Γ : Gx} {X : Mx} {cc : ByteArray} {nL d pc : Nat} {ret : Option FieldType} {Q : Option Value → Wd → Prop} {lv : List (Option Value)} {st : List Value} {w : Wd} (hO : OKM Γ X RX5 cc nL ret) {i : Nat} {fks : List Nat} {x : Int32} (hd : decode cc pc = .ok (.putfield 189, 3)) (hs : (gS Γ)[i]? = some (.inr (5, fks))) (hf : fks[24]? = some 0) (hz : x = 0 ∨ x = 1) (k : GG Γ X d nL Q (pc + 3) lv st (wset w i 24 x)) : GG Γ X d nL Q pc lv (.int x :: .ref (gad Γ i) :: st) w := G_put hO hd tyX5 24 hs rfl inX5 tyX5_ok nmX5 (by decide) fl_X5_189 rfl (ty := .boolean) rfl (by rcases hz with rfl | rfl <;> rfl) (by rcases hz with rfl | rfl <;> rfl) hf (fun j => by simp [fvl, wset]) k
theorem fl_X5_38 : Cond.fieldLink RX5 38 (TX5 25).1 (TX5 25).2.1 (TX5 25).2.2.1 ∈ AW := AW_mem 774 (by decide +kernel) (by decide +kernel)
theorem gr_X5_38 {Γ : Gx} {X : Mx} {cc : ByteArray} {nL d pc : Nat} {ret : Option FieldType} {Q : Option Value → Wd → Prop} {lv : List (Option Value)} {st : List Value} {w : Wd} (hO : OKM Γ X RX5 cc nL ret) {i c : Nat} {fks : List Nat} (hd : decode cc pc = .ok (.getfield 38, 3)) (hs : (gS Γ)[i]? = some (.inr (5, fks))) (hf : fks[25]? = some (c + 2)) (k : GG Γ X d nL Q (pc + 3) lv (.ref (gad Γ c) :: st) w) : GG Γ X d nL Q pc lv (.ref (gad Γ i) :: st) w := G_get hO hd 25 hs rfl inX5 (by decide) fl_X5_38 hf rfl k
theorem fl_X5_41 : Cond.fieldLink RX5 41 (TX5 26).1 (TX5 26).2.1 (TX5 26).2.2.1 ∈ AW := AW_mem 775 (by decide +kernel) (by decide +kernel)
theorem gr_X5_41 {Γ : Gx} {X : Mx} {cc : ByteArray} {nL d pc : Nat} {ret : Option FieldType} {Q : Option Value → Wd → Prop} {lv : List (Option Value)} {st : List Value} {w : Wd} (hO : OKM Γ X RX5 cc nL ret) {i c : Nat} {fks : List Nat} (hd : decode cc pc = .ok (.getfield 41, 3)) (hs : (gS Γ)[i]? = some (.inr (5, fks))) (hf : fks[26]? = some (c + 2)) (k : GG Γ X d nL Q (pc + 3) lv (.ref (gad Γ c) :: st) w) : GG Γ X d nL Q pc lv (.ref (gad Γ i) :: st) w := G_get hO hd 26 hs rfl inX5 (by decide) fl_X5_41 hf rfl k
theorem fl_X5_68 : Cond.fieldLink RX5 68 (TX5 27).1 (TX5 27).2.1 (TX5 27).2.2.1 ∈ AW := AW_mem 776 (by decide +kernel) (by decide +kernel)
theorem gi_X5_68 {Γ : Gx} {X : Mx} {cc : ByteArray} {nL d pc : Nat} {ret : Option FieldType} {Q : Option Value → Wd → Prop} {lv : List (Option Value)} {st : List Value} {w : Wd} (hO : OKM Γ X RX5 cc nL ret) {i : Nat} {fks : List Nat} (hd : decode cc pc = .ok (.getfield 68, 3)) (hs : (gS Γ)[i]? = some (.inr (5, fks))) (hf : fks[27]? = some 0) (k : GG Γ X d nL Q (pc + 3) lv (.int (w i 27) :: st) w) : GG Γ X d nL Q pc lv (.ref (gad Γ i) :: st) w := G_get hO hd 27 hs rfl inX5 (by decide) fl_X5_68 hf rfl k
theorem pi_X5_68 {Γ : Gx} {X : Mx} {cc : ByteArray} {nL d pc : Nat} {ret : Option FieldType} {Q : Option Value → Wd → Prop} {lv : List (Option Value)} {st : List Value} {w : Wd} (hO : OKM Γ X RX5 cc nL ret) {i : Nat} {fks : List Nat} {x : Int32} (hd : decode cc pc = .ok (.putfield 68, 3)) (hs : (gS Γ)[i]? = some (.inr (5, fks))) (hf : fks[27]? = some 0) (k : GG Γ X d nL Q (pc + 3) lv st (wset w i 27 x)) : GG Γ X d nL Q pc lv (.int x :: .ref (gad Γ i) :: st) w := G_put hO hd tyX5 27 hs rfl inX5 tyX5_ok nmX5 (by decide) fl_X5_68 rfl (ty := .int) rfl rfl rfl hf (fun j => by simp [fvl, wset]) k
theorem fl_X5_44 : Cond.fieldLink RX5 44 (TX5 28).1 (TX5 28).2.1 (TX5 28).2.2.1 ∈ AW := AW_mem 777 (by decide +kernel) (by decide +kernel)
theorem gr_X5_44 {Γ : Gx} {X : Mx} {cc : ByteArray} {nL d pc : Nat} {ret : Option FieldType} {Q : Option Value → Wd → Prop} {lv : List (Option Value)} {st : List Value} {w : Wd} (hO : OKM Γ X RX5 cc nL ret) {i c : Nat} {fks : List Nat} (hd : decode cc pc = .ok (.getfield 44, 3)) (hs : (gS Γ)[i]? = some (.inr (5, fks))) (hf : fks[28]? = some (c + 2)) (k : GG Γ X d nL Q (pc + 3) lv (.ref (gad Γ c) :: st) w) : GG Γ X d nL Q pc lv (.ref (gad Γ i) :: st) w := G_get hO hd 28 hs rfl inX5 (by decide) fl_X5_44 hf rfl k
theorem fl_X5_47 : Cond.fieldLink RX5 47 (TX5 29).1 (TX5 29).2.1 (TX5 29).2.2.1 ∈ AW := AW_mem 778 (by decide +kernel) (by decide +kernel)
theorem gr_X5_47 {Γ : Gx} {X : Mx} {cc : ByteArray} {nL d pc : Nat} {ret : Option FieldType} {Q : Option Value → Wd → Prop} {lv : List (Option Value)} {st : List Value} {w : Wd} (hO : OKM Γ X RX5 cc nL ret) {i c : Nat} {fks : List Nat} (hd : decode cc pc = .ok (.getfield 47, 3)) (hs : (gS Γ)[i]? = some (.inr (5, fks))) (hf : fks[29]? = some (c + 2)) (k : GG Γ X d nL Q (pc + 3) lv (.ref (gad Γ c) :: st) w) : GG Γ X d nL Q pc lv (.ref (gad Γ i) :: st) w := G_get hO hd 29 hs rfl inX5 (by decide) fl_X5_47 hf rfl k
theorem fl_X5_243 : Cond.fieldLink RX5 243 (TX5 30).1 (TX5 30).2.1 (TX5 30).2.2.1 ∈ AW := AW_mem 779 (by decide +kernel) (by decide +kernel)
theorem gi_X5_243 {Γ : Gx} {X : Mx} {cc : ByteArray} {nL d pc : Nat} {ret : Option FieldType} {Q : Option Value → Wd → Prop} {lv : List (Option Value)} {st : List Value} {w : Wd} (hO : OKM Γ X RX5 cc nL ret) {i : Nat} {fks : List Nat} (hd : decode cc pc = .ok (.getfield 243, 3)) (hs : (gS Γ)[i]? = some (.inr (5, fks))) (hf : fks[30]? = some 0) (k : GG Γ X d nL Q (pc + 3) lv (.int (w i 30) :: st) w) : GG Γ X d nL Q pc lv (.ref (gad Γ i) :: st) w := G_get hO hd 30 hs rfl inX5 (by decide) fl_X5_243 hf rfl k
theorem pi_X5_243 {Γ : Gx} {X : Mx} {cc : ByteArray} {nL d pc : Nat} {ret : Option FieldType} {Q : Option Value → Wd → Prop} {lv : List (Option Value)} {st : List Value} {w : Wd} (hO : OKM Γ X RX5 cc nL ret) {i : Nat} {fks : List Nat} {x : Int32} (hd : decode cc pc = .ok (.putfield 243, 3)) (hs : (gS Γ)[i]? = some (.inr (5, fks))) (hf : fks[30]? = some 0) (k : GG Γ X d nL Q (pc + 3) lv st (wset w i 30 x)) : GG Γ X d nL Q pc lv (.int x :: .ref (gad Γ i) :: st) w := G_put hO hd tyX5 30 hs rfl inX5 tyX5_ok nmX5 (by decide) fl_X5_243 rfl (ty := .int) rfl rfl rfl hf (fun j => by simp [fvl, wset]) k
theorem fl_X5_50 : Cond.fieldLink RX5 50 (TX5 31).1 (TX5 31).2.1 (TX5 31).2.2.1 ∈ AW := AW_mem 780 (by decide +kernel) (by decide +kernel)
theorem gr_X5_50 {Γ : Gx} {X : Mx} {cc : ByteArray} {nL d pc : Nat} {ret : Option FieldType} {Q : Option Value → Wd → Prop} {lv : List (Option Value)} {st : List Value} {w : Wd} (hO : OKM Γ X RX5 cc nL ret) {i c : Nat} {fks : List Nat} (hd : decode cc pc = .ok (.getfield 50, 3)) (hs : (gS Γ)[i]? = some (.inr (5, fks))) (hf : fks[31]? = some (c + 2)) (k : GG Γ X d nL Q (pc + 3) lv (.ref (gad Γ c) :: st) w) : GG Γ X d nL Q pc lv (.ref (gad Γ i) :: st) w := G_get hO hd 31 hs rfl inX5 (by decide) fl_X5_50 hf rfl k
theorem fl_X5_303 : Cond.fieldLink RX5 303 (TX5 32).1 (TX5 32).2.1 (TX5 32).2.2.1 ∈ AW := AW_mem 781 (by decide +kernel) (by decide +kernel)
theorem gi_X5_303 {Γ : Gx} {X : Mx} {cc : ByteArray} {nL d pc : Nat} {ret : Option FieldType} {Q : Option Value → Wd → Prop} {lv : List (Option Value)} {st : List Value} {w : Wd} (hO : OKM Γ X RX5 cc nL ret) {i : Nat} {fks : List Nat} (hd : decode cc pc = .ok (.getfield 303, 3)) (hs : (gS Γ)[i]? = some (.inr (5, fks))) (hf : fks[32]? = some 0) (k : GG Γ X d nL Q (pc + 3) lv (.int (w i 32) :: st) w) : GG Γ X d nL Q pc lv (.ref (gad Γ i) :: st) w := G_get hO hd 32 hs rfl inX5 (by decide) fl_X5_303 hf rfl k
theorem pi_X5_303 {Γ : Gx} {X : Mx} {cc : ByteArray} {nL d pc : Nat} {ret : Option FieldType} {Q : Option Value → Wd → Prop} {lv : List (Option Value)} {st : List Value} {w : Wd} (hO : OKM Γ X RX5 cc nL ret) {i : Nat} {fks : List Nat} {x : Int32} (hd : decode cc pc = .ok (.putfield 303, 3)) (hs : (gS Γ)[i]? = some (.inr (5, fks))) (hf : fks[32]? = some 0) (hz : x = 0 ∨ x = 1) (k : GG Γ X d nL Q (pc + 3) lv st (wset w i 32 x)) : GG Γ X d nL Q pc lv (.int x :: .ref (gad Γ i) :: st) w := G_put hO hd tyX5 32 hs rfl inX5 tyX5_ok nmX5 (by decide) fl_X5_303 rfl (ty := .boolean) rfl (by rcases hz with rfl | rfl <;> rfl) (by rcases hz with rfl | rfl <;> rfl) hf (fun j => by simp [fvl, wset]) k
theorem fl_X5_306 : Cond.fieldLink RX5 306 (TX5 33).1 (TX5 33).2.1 (TX5 33).2.2.1 ∈ AW := AW_mem 782 (by decide +kernel) (by decide +kernel)
theorem gi_X5_306 {Γ : Gx} {X : Mx} {cc : ByteArray} {nL d pc : Nat} {ret : Option FieldType} {Q : Option Value → Wd → Prop} {lv : List (Option Value)} {st : List Value} {w : Wd} (hO : OKM Γ X RX5 cc nL ret) {i : Nat} {fks : List Nat} (hd : decode cc pc = .ok (.getfield 306, 3)) (hs : (gS Γ)[i]? = some (.inr (5, fks))) (hf : fks[33]? = some 0) (k : GG Γ X d nL Q (pc + 3) lv (.int (w i 33) :: st) w) : GG Γ X d nL Q pc lv (.ref (gad Γ i) :: st) w := G_get hO hd 33 hs rfl inX5 (by decide) fl_X5_306 hf rfl k
theorem pi_X5_306 {Γ : Gx} {X : Mx} {cc : ByteArray} {nL d pc : Nat} {ret : Option FieldType} {Q : Option Value → Wd → Prop} {lv : List (Option Value)} {st : List Value} {w : Wd} (hO : OKM Γ X RX5 cc nL ret) {i : Nat} {fks : List Nat} {x : Int32} (hd : decode cc pc = .ok (.putfield 306, 3)) (hs : (gS Γ)[i]? = some (.inr (5, fks))) (hf : fks[33]? = some 0) (k : GG Γ X d nL Q (pc + 3) lv st (wset w i 33 x)) : GG Γ X d nL Q pc lv (.int x :: .ref (gad Γ i) :: st) w := G_put hO hd tyX5 33 hs rfl inX5 tyX5_ok nmX5 (by decide) fl_X5_306 rfl (ty := .int) rfl rfl rfl hf (fun j => by simp [fvl, wset]) k
theorem fl_X5_309 : Cond.fieldLink RX5 309 (TX5 34).1 (TX5 34).2.1 (TX5 34).2.2.1 ∈ AW := AW_mem 783 (by decide +kernel) (by decide +kernel)
theorem gi_X5_309 {Γ : Gx} {X : Mx} {cc : ByteArray} {nL d pc : Nat} {ret : Option FieldType} {Q : Option Value → Wd → Prop} {lv : List (Option Value)} {st : List Value} {w : Wd} (hO : OKM Γ X RX5 cc nL ret) {i : Nat} {fks : List Nat} (hd : decode cc pc = .ok (.getfield 309, 3)) (hs : (gS Γ)[i]? = some (.inr (5, fks))) (hf : fks[34]? = some 0) (k : GG Γ X d nL Q (pc + 3) lv (.int (w i 34) :: st) w) : GG Γ X d nL Q pc lv (.ref (gad Γ i) :: st) w := G_get hO hd 34 hs rfl inX5 (by decide) fl_X5_309 hf rfl k
theorem pi_X5_309 {Γ : Gx} {X : Mx} {cc : ByteArray} {nL d pc : Nat} {ret : Option FieldType} {Q : Option Value → Wd → Prop} {lv : List (Option Value)} {st : List Value} {w : Wd} (hO : OKM Γ X RX5 cc nL ret) {i : Nat} {fks : List Nat} {x : Int32} (hd : decode cc pc = .ok (.putfield 309, 3)) (hs : (gS Γ)[i]? = some (.inr (5, fks))) (hf : fks[34]? = some 0) (k : GG Γ X d nL Q (pc + 3) lv st (wset w i 34 x)) : GG Γ X d nL Q pc lv (.int x :: .ref (gad Γ i) :: st) w := G_put hO hd tyX5 34 hs rfl inX5 tyX5_ok nmX5 (by decide) fl_X5_309 rfl (ty := .int) rfl rfl rfl hf (fun j => by simp [fvl, wset]) k
theorem fl_X5_312 : Cond.fieldLink RX5 312 (TX5 35).1 (TX5 35).2.1 (TX5 35).2.2.1 ∈ AW := AW_mem 784 (by decide +kernel) (by decide +kernel)
theorem gi_X5_312 {Γ : Gx} {X : Mx} {cc : ByteArray} {nL d pc : Nat} {ret : Option FieldType} {Q : Option Value → Wd → Prop} {lv : List (Option Value)} {st : List Value} {w : Wd} (hO : OKM Γ X RX5 cc nL ret) {i : Nat} {fks : List Nat} (hd : decode cc pc = .ok (.getfield 312, 3)) (hs : (gS Γ)[i]? = some (.inr (5, fks))) (hf : fks[35]? = some 0) (k : GG Γ X d nL Q (pc + 3) lv (.int (w i 35) :: st) w) : GG Γ X d nL Q pc lv (.ref (gad Γ i) :: st) w := G_get hO hd 35 hs rfl inX5 (by decide) fl_X5_312 hf rfl k
theorem pi_X5_312 {Γ : Gx} {X : Mx} {cc : ByteArray} {nL d pc : Nat} {ret : Option FieldType} {Q : Option Value → Wd → Prop} {lv : List (Option Value)} {st : List Value} {w : Wd} (hO : OKM Γ X RX5 cc nL ret) {i : Nat} {fks : List Nat} {x : Int32} (hd : decode cc pc = .ok (.putfield 312, 3)) (hs : (gS Γ)[i]? = some (.inr (5, fks))) (hf : fks[35]? = some 0) (k : GG Γ X d nL Q (pc + 3) lv st (wset w i 35 x)) : GG Γ X d nL Q pc lv (.int x :: .ref (gad Γ i) :: st) w := G_put hO hd tyX5 35 hs rfl inX5 tyX5_ok nmX5 (by decide) fl_X5_312 rfl (ty := .int) rfl rfl rfl hf (fun j => by simp [fvl, wset]) k
theorem fl_X5_53 : Cond.fieldLink RX5 53 (TX5 36).1 (TX5 36).2.1 (TX5 36).2.2.1 ∈ AW := AW_mem 785 (by decide +kernel) (by decide +kernel)
theorem gr_X5_53 {Γ : Gx} {X : Mx} {cc : ByteArray} {nL d pc : Nat} {ret : Option FieldType} {Q : Option Value → Wd → Prop} {lv : List (Option Value)} {st : List Value} {w : Wd} (hO : OKM Γ X RX5 cc nL ret) {i c : Nat} {fks : List Nat} (hd : decode cc pc = .ok (.getfield 53, 3)) (hs : (gS Γ)[i]? = some (.inr (5, fks))) (hf : fks[36]? = some (c + 2)) (k : GG Γ X d nL Q (pc + 3) lv (.ref (gad Γ c) :: st) w) : GG Γ X d nL Q pc lv (.ref (gad Γ i) :: st) w := G_get hO hd 36 hs rfl inX5 (by decide) fl_X5_53 hf rfl k
theorem fl_X5_56 : Cond.fieldLink RX5 56 (TX5 37).1 (TX5 37).2.1 (TX5 37).2.2.1 ∈ AW := AW_mem 786 (by decide +kernel) (by decide +kernel)
theorem gr_X5_56 {Γ : Gx} {X : Mx} {cc : ByteArray} {nL d pc : Nat} {ret : Option FieldType} {Q : Option Value → Wd → Prop} {lv : List (Option Value)} {st : List Value} {w : Wd} (hO : OKM Γ X RX5 cc nL ret) {i c : Nat} {fks : List Nat} (hd : decode cc pc = .ok (.getfield 56, 3)) (hs : (gS Γ)[i]? = some (.inr (5, fks))) (hf : fks[37]? = some (c + 2)) (k : GG Γ X d nL Q (pc + 3) lv (.ref (gad Γ c) :: st) w) : GG Γ X d nL Q pc lv (.ref (gad Γ i) :: st) w := G_get hO hd 37 hs rfl inX5 (by decide) fl_X5_56 hf rfl k
theorem fl_X5_59 : Cond.fieldLink RX5 59 (TX5 38).1 (TX5 38).2.1 (TX5 38).2.2.1 ∈ AW := AW_mem 787 (by decide +kernel) (by decide +kernel)
theorem gr_X5_59 {Γ : Gx} {X : Mx} {cc : ByteArray} {nL d pc : Nat} {ret : Option FieldType} {Q : Option Value → Wd → Prop} {lv : List (Option Value)} {st : List Value} {w : Wd} (hO : OKM Γ X RX5 cc nL ret) {i c : Nat} {fks : List Nat} (hd : decode cc pc = .ok (.getfield 59, 3)) (hs : (gS Γ)[i]? = some (.inr (5, fks))) (hf : fks[38]? = some (c + 2)) (k : GG Γ X d nL Q (pc + 3) lv (.ref (gad Γ c) :: st) w) : GG Γ X d nL Q pc lv (.ref (gad Γ i) :: st) w := G_get hO hd 38 hs rfl inX5 (by decide) fl_X5_59 hf rfl k
theorem fl_X5_62 : Cond.fieldLink RX5 62 (TX5 39).1 (TX5 39).2.1 (TX5 39).2.2.1 ∈ AW := AW_mem 788 (by decide +kernel) (by decide +kernel)
theorem gr_X5_62 {Γ : Gx} {X : Mx} {cc : ByteArray} {nL d pc : Nat} {ret : Option FieldType} {Q : Option Value → Wd → Prop} {lv : List (Option Value)} {st : List Value} {w : Wd} (hO : OKM Γ X RX5 cc nL ret) {i c : Nat} {fks : List Nat} (hd : decode cc pc = .ok (.getfield 62, 3)) (hs : (gS Γ)[i]? = some (.inr (5, fks))) (hf : fks[39]? = some (c + 2)) (k : GG Γ X d nL Q (pc + 3) lv (.ref (gad Γ c) :: st) w) : GG Γ X d nL Q pc lv (.ref (gad Γ i) :: st) w := G_get hO hd 39 hs rfl inX5 (by decide) fl_X5_62 hf rfl k
theorem fl_X5_65 : Cond.fieldLink RX5 65 (TX5 40).1 (TX5 40).2.1 (TX5 40).2.2.1 ∈ AW := AW_mem 789 (by decide +kernel) (by decide +kernel)
theorem gr_X5_65 {Γ : Gx} {X : Mx} {cc : ByteArray} {nL d pc : Nat} {ret : Option FieldType} {Q : Option Value → Wd → Prop} {lv : List (Option Value)} {st : List Value} {w : Wd} (hO : OKM Γ X RX5 cc nL ret) {i c : Nat} {fks : List Nat} (hd : decode cc pc = .ok (.getfield 65, 3)) (hs : (gS Γ)[i]? = some (.inr (5, fks))) (hf : fks[40]? = some (c + 2)) (k : GG Γ X d nL Q (pc + 3) lv (.ref (gad Γ c) :: st) w) : GG Γ X d nL Q pc lv (.ref (gad Γ i) :: st) w := G_get hO hd 40 hs rfl inX5 (by decide) fl_X5_65 hf rfl k
end
section
/-! decode rows (printed by program) -/
theorem dX0_init_0 : decode cX0_init 0 = .ok (.aload_n 0, 1) := by decide +kernel
theorem dX0_init_1 : decode cX0_init 1 = .ok (.invokespecial 3, 3) := by decide +kernel
theorem dX0_init_4 : decode cX0_init 4 = .ok (.aload_n 0, 1) := by decide +kernel
theorem dX0_init_5 : decode cX0_init 5 = .ok (.iconst 5, 1) := by decide +kernel
theorem dX0_init_6 : decode cX0_init 6 = .ok (.newarray .int, 2) := by decide +kernel
theorem dX0_init_8 : decode cX0_init 8 = .ok (.putfield 9, 3) := by decide +kernel
theorem dX0_init_11 : decode cX0_init 11 = .ok (.aload_n 0, 1) := by decide +kernel
theorem dX0_init_12 : decode cX0_init 12 = .ok (.iconst 5, 1) := by decide +kernel
theorem dX0_init_13 : decode cX0_init 13 = .ok (.newarray .int, 2) := by decide +kernel
theorem dX0_init_15 : decode cX0_init 15 = .ok (.putfield 15, 3) := by decide +kernel
theorem dX0_init_18 : decode cX0_init 18 = .ok (.aload_n 0, 1) := by decide +kernel
theorem dX0_init_19 : decode cX0_init 19 = .ok (.iconst 5, 1) := by decide +kernel
theorem dX0_init_20 : decode cX0_init 20 = .ok (.newarray .int, 2) := by decide +kernel
theorem dX0_init_22 : decode cX0_init 22 = .ok (.putfield 18, 3) := by decide +kernel
theorem dX0_init_25 : decode cX0_init 25 = .ok (.aload_n 0, 1) := by decide +kernel
theorem dX0_init_26 : decode cX0_init 26 = .ok (.iconst 5, 1) := by decide +kernel
theorem dX0_init_27 : decode cX0_init 27 = .ok (.newarray .int, 2) := by decide +kernel
theorem dX0_init_29 : decode cX0_init 29 = .ok (.putfield 21, 3) := by decide +kernel
theorem dX0_init_32 : decode cX0_init 32 = .ok (.aload_n 0, 1) := by decide +kernel
theorem dX0_init_33 : decode cX0_init 33 = .ok (.sipush 255, 3) := by decide +kernel
theorem dX0_init_36 : decode cX0_init 36 = .ok (.putfield 24, 3) := by decide +kernel
theorem dX0_init_39 : decode cX0_init 39 = .ok (.aload_n 0, 1) := by decide +kernel
theorem dX0_init_40 : decode cX0_init 40 = .ok (.iconst (-1), 1) := by decide +kernel
theorem dX0_init_41 : decode cX0_init 41 = .ok (.putfield 28, 3) := by decide +kernel
theorem dX0_init_44 : decode cX0_init 44 = .ok (.aload_n 0, 1) := by decide +kernel
theorem dX0_init_45 : decode cX0_init 45 = .ok (.bipush 6, 2) := by decide +kernel
theorem dX0_init_47 : decode cX0_init 47 = .ok (.newarray .int, 2) := by decide +kernel
theorem dX0_init_49 : decode cX0_init 49 = .ok (.putfield 31, 3) := by decide +kernel
theorem dX0_init_52 : decode cX0_init 52 = .ok (.aload_n 0, 1) := by decide +kernel
theorem dX0_init_53 : decode cX0_init 53 = .ok (.sipush 160, 3) := by decide +kernel
theorem dX0_init_56 : decode cX0_init 56 = .ok (.newarray .int, 2) := by decide +kernel
theorem dX0_init_58 : decode cX0_init 58 = .ok (.putfield 34, 3) := by decide +kernel
theorem dX0_init_61 : decode cX0_init 61 = .ok (.aload_n 0, 1) := by decide +kernel
theorem dX0_init_62 : decode cX0_init 62 = .ok (.aload_n 1, 1) := by decide +kernel
theorem dX0_init_63 : decode cX0_init 63 = .ok (.putfield 37, 3) := by decide +kernel
theorem dX0_init_66 : decode cX0_init 66 = .ok (.return_, 1) := by decide +kernel
theorem dX0_becomeLike_0 : decode cX0_becomeLike 0 = .ok (.iconst 0, 1) := by decide +kernel
theorem dX0_becomeLike_1 : decode cX0_becomeLike 1 = .ok (.istore_n 2, 1) := by decide +kernel
theorem dX0_becomeLike_2 : decode cX0_becomeLike 2 = .ok (.iload_n 2, 1) := by decide +kernel
theorem dX0_becomeLike_3 : decode cX0_becomeLike 3 = .ok (.iconst 5, 1) := by decide +kernel
theorem dX0_becomeLike_4 : decode cX0_becomeLike 4 = .ok (.if_icmp .ge 45, 3) := by decide +kernel
theorem dX0_becomeLike_7 : decode cX0_becomeLike 7 = .ok (.aload_n 0, 1) := by decide +kernel
theorem dX0_becomeLike_8 : decode cX0_becomeLike 8 = .ok (.getfield 9, 3) := by decide +kernel
theorem dX0_becomeLike_11 : decode cX0_becomeLike 11 = .ok (.iload_n 2, 1) := by decide +kernel
theorem dX0_becomeLike_12 : decode cX0_becomeLike 12 = .ok (.aload_n 1, 1) := by decide +kernel
theorem dX0_becomeLike_13 : decode cX0_becomeLike 13 = .ok (.getfield 9, 3) := by decide +kernel
theorem dX0_becomeLike_16 : decode cX0_becomeLike 16 = .ok (.iload_n 2, 1) := by decide +kernel
theorem dX0_becomeLike_17 : decode cX0_becomeLike 17 = .ok (.iaload, 1) := by decide +kernel
theorem dX0_becomeLike_18 : decode cX0_becomeLike 18 = .ok (.iastore, 1) := by decide +kernel
theorem dX0_becomeLike_19 : decode cX0_becomeLike 19 = .ok (.aload_n 0, 1) := by decide +kernel
theorem dX0_becomeLike_20 : decode cX0_becomeLike 20 = .ok (.getfield 15, 3) := by decide +kernel
theorem dX0_becomeLike_23 : decode cX0_becomeLike 23 = .ok (.iload_n 2, 1) := by decide +kernel
theorem dX0_becomeLike_24 : decode cX0_becomeLike 24 = .ok (.aload_n 1, 1) := by decide +kernel
theorem dX0_becomeLike_25 : decode cX0_becomeLike 25 = .ok (.getfield 15, 3) := by decide +kernel
theorem dX0_becomeLike_28 : decode cX0_becomeLike 28 = .ok (.iload_n 2, 1) := by decide +kernel
theorem dX0_becomeLike_29 : decode cX0_becomeLike 29 = .ok (.iaload, 1) := by decide +kernel
theorem dX0_becomeLike_30 : decode cX0_becomeLike 30 = .ok (.iastore, 1) := by decide +kernel
theorem dX0_becomeLike_31 : decode cX0_becomeLike 31 = .ok (.aload_n 0, 1) := by decide +kernel
theorem dX0_becomeLike_32 : decode cX0_becomeLike 32 = .ok (.getfield 18, 3) := by decide +kernel
theorem dX0_becomeLike_35 : decode cX0_becomeLike 35 = .ok (.iload_n 2, 1) := by decide +kernel
theorem dX0_becomeLike_36 : decode cX0_becomeLike 36 = .ok (.aload_n 1, 1) := by decide +kernel
theorem dX0_becomeLike_37 : decode cX0_becomeLike 37 = .ok (.getfield 18, 3) := by decide +kernel
theorem dX0_becomeLike_40 : decode cX0_becomeLike 40 = .ok (.iload_n 2, 1) := by decide +kernel
theorem dX0_becomeLike_41 : decode cX0_becomeLike 41 = .ok (.iaload, 1) := by decide +kernel
theorem dX0_becomeLike_42 : decode cX0_becomeLike 42 = .ok (.iastore, 1) := by decide +kernel
theorem dX0_becomeLike_43 : decode cX0_becomeLike 43 = .ok (.iinc 2 1, 3) := by decide +kernel
theorem dX0_becomeLike_46 : decode cX0_becomeLike 46 = .ok (.goto (-44), 3) := by decide +kernel
theorem dX0_becomeLike_49 : decode cX0_becomeLike 49 = .ok (.aload_n 0, 1) := by decide +kernel
theorem dX0_becomeLike_50 : decode cX0_becomeLike 50 = .ok (.aload_n 1, 1) := by decide +kernel
theorem dX0_becomeLike_51 : decode cX0_becomeLike 51 = .ok (.getfield 41, 3) := by decide +kernel
theorem dX0_becomeLike_54 : decode cX0_becomeLike 54 = .ok (.putfield 41, 3) := by decide +kernel
theorem dX0_becomeLike_57 : decode cX0_becomeLike 57 = .ok (.aload_n 0, 1) := by decide +kernel
theorem dX0_becomeLike_58 : decode cX0_becomeLike 58 = .ok (.aload_n 1, 1) := by decide +kernel
theorem dX0_becomeLike_59 : decode cX0_becomeLike 59 = .ok (.getfield 24, 3) := by decide +kernel
theorem dX0_becomeLike_62 : decode cX0_becomeLike 62 = .ok (.putfield 24, 3) := by decide +kernel
theorem dX0_becomeLike_65 : decode cX0_becomeLike 65 = .ok (.aload_n 0, 1) := by decide +kernel
theorem dX0_becomeLike_66 : decode cX0_becomeLike 66 = .ok (.aload_n 1, 1) := by decide +kernel
theorem dX0_becomeLike_67 : decode cX0_becomeLike 67 = .ok (.getfield 44, 3) := by decide +kernel
theorem dX0_becomeLike_70 : decode cX0_becomeLike 70 = .ok (.putfield 44, 3) := by decide +kernel
theorem dX0_becomeLike_73 : decode cX0_becomeLike 73 = .ok (.aload_n 0, 1) := by decide +kernel
theorem dX0_becomeLike_74 : decode cX0_becomeLike 74 = .ok (.aload_n 1, 1) := by decide +kernel
theorem dX0_becomeLike_75 : decode cX0_becomeLike 75 = .ok (.getfield 47, 3) := by decide +kernel
theorem dX0_becomeLike_78 : decode cX0_becomeLike 78 = .ok (.putfield 47, 3) := by decide +kernel
theorem dX0_becomeLike_81 : decode cX0_becomeLike 81 = .ok (.aload_n 0, 1) := by decide +kernel
theorem dX0_becomeLike_82 : decode cX0_becomeLike 82 = .ok (.aload_n 1, 1) := by decide +kernel
theorem dX0_becomeLike_83 : decode cX0_becomeLike 83 = .ok (.getfield 28, 3) := by decide +kernel
theorem dX0_becomeLike_86 : decode cX0_becomeLike 86 = .ok (.putfield 28, 3) := by decide +kernel
theorem dX0_becomeLike_89 : decode cX0_becomeLike 89 = .ok (.return_, 1) := by decide +kernel
theorem dX0_takeIn_0 : decode cX0_takeIn 0 = .ok (.aload_n 0, 1) := by decide +kernel
theorem dX0_takeIn_1 : decode cX0_takeIn 1 = .ok (.getfield 41, 3) := by decide +kernel
theorem dX0_takeIn_4 : decode cX0_takeIn 4 = .ok (.iconst 5, 1) := by decide +kernel
theorem dX0_takeIn_5 : decode cX0_takeIn 5 = .ok (.if_icmp .lt 6, 3) := by decide +kernel
theorem dX0_takeIn_8 : decode cX0_takeIn 8 = .ok (.bipush (-4), 2) := by decide +kernel
theorem dX0_takeIn_10 : decode cX0_takeIn 10 = .ok (.ireturn, 1) := by decide +kernel
theorem dX0_takeIn_11 : decode cX0_takeIn 11 = .ok (.aload_n 0, 1) := by decide +kernel
theorem dX0_takeIn_12 : decode cX0_takeIn 12 = .ok (.getfield 9, 3) := by decide +kernel
theorem dX0_takeIn_15 : decode cX0_takeIn 15 = .ok (.aload_n 0, 1) := by decide +kernel
theorem dX0_takeIn_16 : decode cX0_takeIn 16 = .ok (.getfield 41, 3) := by decide +kernel
theorem dX0_takeIn_19 : decode cX0_takeIn 19 = .ok (.iload_n 1, 1) := by decide +kernel
theorem dX0_takeIn_20 : decode cX0_takeIn 20 = .ok (.iastore, 1) := by decide +kernel
theorem dX0_takeIn_21 : decode cX0_takeIn 21 = .ok (.aload_n 0, 1) := by decide +kernel
theorem dX0_takeIn_22 : decode cX0_takeIn 22 = .ok (.getfield 15, 3) := by decide +kernel
theorem dX0_takeIn_25 : decode cX0_takeIn 25 = .ok (.aload_n 0, 1) := by decide +kernel
theorem dX0_takeIn_26 : decode cX0_takeIn 26 = .ok (.getfield 41, 3) := by decide +kernel
theorem dX0_takeIn_29 : decode cX0_takeIn 29 = .ok (.iload_n 2, 1) := by decide +kernel
theorem dX0_takeIn_30 : decode cX0_takeIn 30 = .ok (.iastore, 1) := by decide +kernel
theorem dX0_takeIn_31 : decode cX0_takeIn 31 = .ok (.aload_n 0, 1) := by decide +kernel
theorem dX0_takeIn_32 : decode cX0_takeIn 32 = .ok (.getfield 18, 3) := by decide +kernel
theorem dX0_takeIn_35 : decode cX0_takeIn 35 = .ok (.aload_n 0, 1) := by decide +kernel
theorem dX0_takeIn_36 : decode cX0_takeIn 36 = .ok (.getfield 41, 3) := by decide +kernel
theorem dX0_takeIn_39 : decode cX0_takeIn 39 = .ok (.iconst 0, 1) := by decide +kernel
theorem dX0_takeIn_40 : decode cX0_takeIn 40 = .ok (.iastore, 1) := by decide +kernel
theorem dX0_takeIn_41 : decode cX0_takeIn 41 = .ok (.aload_n 0, 1) := by decide +kernel
theorem dX0_takeIn_42 : decode cX0_takeIn 42 = .ok (.dup, 1) := by decide +kernel
theorem dX0_takeIn_43 : decode cX0_takeIn 43 = .ok (.getfield 41, 3) := by decide +kernel
theorem dX0_takeIn_46 : decode cX0_takeIn 46 = .ok (.iconst 1, 1) := by decide +kernel
theorem dX0_takeIn_47 : decode cX0_takeIn 47 = .ok (.iadd, 1) := by decide +kernel
theorem dX0_takeIn_48 : decode cX0_takeIn 48 = .ok (.putfield 41, 3) := by decide +kernel
theorem dX0_takeIn_51 : decode cX0_takeIn 51 = .ok (.aload_n 0, 1) := by decide +kernel
theorem dX0_takeIn_52 : decode cX0_takeIn 52 = .ok (.getfield 41, 3) := by decide +kernel
theorem dX0_takeIn_55 : decode cX0_takeIn 55 = .ok (.iconst 1, 1) := by decide +kernel
theorem dX0_takeIn_56 : decode cX0_takeIn 56 = .ok (.isub, 1) := by decide +kernel
theorem dX0_takeIn_57 : decode cX0_takeIn 57 = .ok (.ireturn, 1) := by decide +kernel
theorem dX0_glad_0 : decode cX0_glad 0 = .ok (.iconst 0, 1) := by decide +kernel
theorem dX0_glad_1 : decode cX0_glad 1 = .ok (.istore_n 1, 1) := by decide +kernel
theorem dX0_glad_2 : decode cX0_glad 2 = .ok (.iconst 0, 1) := by decide +kernel
theorem dX0_glad_3 : decode cX0_glad 3 = .ok (.istore_n 2, 1) := by decide +kernel
theorem dX0_glad_4 : decode cX0_glad 4 = .ok (.iload_n 2, 1) := by decide +kernel
theorem dX0_glad_5 : decode cX0_glad 5 = .ok (.aload_n 0, 1) := by decide +kernel
theorem dX0_glad_6 : decode cX0_glad 6 = .ok (.getfield 41, 3) := by decide +kernel
theorem dX0_glad_9 : decode cX0_glad 9 = .ok (.if_icmp .ge 18, 3) := by decide +kernel
theorem dX0_glad_12 : decode cX0_glad 12 = .ok (.iload_n 1, 1) := by decide +kernel
theorem dX0_glad_13 : decode cX0_glad 13 = .ok (.aload_n 0, 1) := by decide +kernel
theorem dX0_glad_14 : decode cX0_glad 14 = .ok (.getfield 18, 3) := by decide +kernel
theorem dX0_glad_17 : decode cX0_glad 17 = .ok (.iload_n 2, 1) := by decide +kernel
theorem dX0_glad_18 : decode cX0_glad 18 = .ok (.iaload, 1) := by decide +kernel
theorem dX0_glad_19 : decode cX0_glad 19 = .ok (.iadd, 1) := by decide +kernel
theorem dX0_glad_20 : decode cX0_glad 20 = .ok (.istore_n 1, 1) := by decide +kernel
theorem dX0_glad_21 : decode cX0_glad 21 = .ok (.iinc 2 1, 3) := by decide +kernel
theorem dX0_glad_24 : decode cX0_glad 24 = .ok (.goto (-20), 3) := by decide +kernel
theorem dX0_glad_27 : decode cX0_glad 27 = .ok (.iload_n 1, 1) := by decide +kernel
theorem dX0_glad_28 : decode cX0_glad 28 = .ok (.ireturn, 1) := by decide +kernel
theorem dX0_allMoods_0 : decode cX0_allMoods 0 = .ok (.iconst 0, 1) := by decide +kernel
theorem dX0_allMoods_1 : decode cX0_allMoods 1 = .ok (.istore_n 1, 1) := by decide +kernel
theorem dX0_allMoods_2 : decode cX0_allMoods 2 = .ok (.iconst 0, 1) := by decide +kernel
theorem dX0_allMoods_3 : decode cX0_allMoods 3 = .ok (.istore_n 2, 1) := by decide +kernel
theorem dX0_allMoods_4 : decode cX0_allMoods 4 = .ok (.iload_n 2, 1) := by decide +kernel
theorem dX0_allMoods_5 : decode cX0_allMoods 5 = .ok (.aload_n 0, 1) := by decide +kernel
theorem dX0_allMoods_6 : decode cX0_allMoods 6 = .ok (.getfield 41, 3) := by decide +kernel
theorem dX0_allMoods_9 : decode cX0_allMoods 9 = .ok (.if_icmp .ge 24, 3) := by decide +kernel
theorem dX0_allMoods_12 : decode cX0_allMoods 12 = .ok (.iload_n 1, 1) := by decide +kernel
theorem dX0_allMoods_13 : decode cX0_allMoods 13 = .ok (.bipush 41, 2) := by decide +kernel
theorem dX0_allMoods_15 : decode cX0_allMoods 15 = .ok (.imul, 1) := by decide +kernel
theorem dX0_allMoods_16 : decode cX0_allMoods 16 = .ok (.aload_n 0, 1) := by decide +kernel
theorem dX0_allMoods_17 : decode cX0_allMoods 17 = .ok (.getfield 18, 3) := by decide +kernel
theorem dX0_allMoods_20 : decode cX0_allMoods 20 = .ok (.iload_n 2, 1) := by decide +kernel
theorem dX0_allMoods_21 : decode cX0_allMoods 21 = .ok (.iaload, 1) := by decide +kernel
theorem dX0_allMoods_22 : decode cX0_allMoods 22 = .ok (.iadd, 1) := by decide +kernel
theorem dX0_allMoods_23 : decode cX0_allMoods 23 = .ok (.bipush 20, 2) := by decide +kernel
theorem dX0_allMoods_25 : decode cX0_allMoods 25 = .ok (.iadd, 1) := by decide +kernel
theorem dX0_allMoods_26 : decode cX0_allMoods 26 = .ok (.istore_n 1, 1) := by decide +kernel
theorem dX0_allMoods_27 : decode cX0_allMoods 27 = .ok (.iinc 2 1, 3) := by decide +kernel
theorem dX0_allMoods_30 : decode cX0_allMoods 30 = .ok (.goto (-26), 3) := by decide +kernel
theorem dX0_allMoods_33 : decode cX0_allMoods 33 = .ok (.iload_n 1, 1) := by decide +kernel
theorem dX0_allMoods_34 : decode cX0_allMoods 34 = .ok (.ireturn, 1) := by decide +kernel
theorem dX0_drawMoods_0 : decode cX0_drawMoods 0 = .ok (.iload_n 1, 1) := by decide +kernel
theorem dX0_drawMoods_1 : decode cX0_drawMoods 1 = .ok (.istore_n 2, 1) := by decide +kernel
theorem dX0_drawMoods_2 : decode cX0_drawMoods 2 = .ok (.iconst 0, 1) := by decide +kernel
theorem dX0_drawMoods_3 : decode cX0_drawMoods 3 = .ok (.istore_n 3, 1) := by decide +kernel
theorem dX0_drawMoods_4 : decode cX0_drawMoods 4 = .ok (.iload_n 3, 1) := by decide +kernel
theorem dX0_drawMoods_5 : decode cX0_drawMoods 5 = .ok (.aload_n 0, 1) := by decide +kernel
theorem dX0_drawMoods_6 : decode cX0_drawMoods 6 = .ok (.getfield 41, 3) := by decide +kernel
theorem dX0_drawMoods_9 : decode cX0_drawMoods 9 = .ok (.if_icmp .ge 34, 3) := by decide +kernel
theorem dX0_drawMoods_12 : decode cX0_drawMoods 12 = .ok (.iload_n 2, 1) := by decide +kernel
theorem dX0_drawMoods_13 : decode cX0_drawMoods 13 = .ok (.ldc 50, 2) := by decide +kernel
theorem dX0_drawMoods_15 : decode cX0_drawMoods 15 = .ok (.imul, 1) := by decide +kernel
theorem dX0_drawMoods_16 : decode cX0_drawMoods 16 = .ok (.sipush 12345, 3) := by decide +kernel
theorem dX0_drawMoods_19 : decode cX0_drawMoods 19 = .ok (.iadd, 1) := by decide +kernel
theorem dX0_drawMoods_20 : decode cX0_drawMoods 20 = .ok (.istore_n 2, 1) := by decide +kernel
theorem dX0_drawMoods_21 : decode cX0_drawMoods 21 = .ok (.aload_n 0, 1) := by decide +kernel
theorem dX0_drawMoods_22 : decode cX0_drawMoods 22 = .ok (.getfield 18, 3) := by decide +kernel
theorem dX0_drawMoods_25 : decode cX0_drawMoods 25 = .ok (.iload_n 3, 1) := by decide +kernel
theorem dX0_drawMoods_26 : decode cX0_drawMoods 26 = .ok (.iload_n 2, 1) := by decide +kernel
theorem dX0_drawMoods_27 : decode cX0_drawMoods 27 = .ok (.bipush 9, 2) := by decide +kernel
theorem dX0_drawMoods_29 : decode cX0_drawMoods 29 = .ok (.iushr, 1) := by decide +kernel
theorem dX0_drawMoods_30 : decode cX0_drawMoods 30 = .ok (.bipush 41, 2) := by decide +kernel
theorem dX0_drawMoods_32 : decode cX0_drawMoods 32 = .ok (.irem, 1) := by decide +kernel
theorem dX0_drawMoods_33 : decode cX0_drawMoods 33 = .ok (.bipush 20, 2) := by decide +kernel
theorem dX0_drawMoods_35 : decode cX0_drawMoods 35 = .ok (.isub, 1) := by decide +kernel
theorem dX0_drawMoods_36 : decode cX0_drawMoods 36 = .ok (.iastore, 1) := by decide +kernel
theorem dX0_drawMoods_37 : decode cX0_drawMoods 37 = .ok (.iinc 3 1, 3) := by decide +kernel
theorem dX0_drawMoods_40 : decode cX0_drawMoods 40 = .ok (.goto (-36), 3) := by decide +kernel
theorem dX0_drawMoods_43 : decode cX0_drawMoods 43 = .ok (.return_, 1) := by decide +kernel
theorem dX0_sendsTo_0 : decode cX0_sendsTo 0 = .ok (.aload_n 0, 1) := by decide +kernel
theorem dX0_sendsTo_1 : decode cX0_sendsTo 1 = .ok (.iconst 0, 1) := by decide +kernel
theorem dX0_sendsTo_2 : decode cX0_sendsTo 2 = .ok (.iload_n 1, 1) := by decide +kernel
theorem dX0_sendsTo_3 : decode cX0_sendsTo 3 = .ok (.iload_n 2, 1) := by decide +kernel
theorem dX0_sendsTo_4 : decode cX0_sendsTo 4 = .ok (.iload_n 1, 1) := by decide +kernel
theorem dX0_sendsTo_5 : decode cX0_sendsTo 5 = .ok (.iload_n 2, 1) := by decide +kernel
theorem dX0_sendsTo_6 : decode cX0_sendsTo 6 = .ok (.invokevirtual 51, 3) := by decide +kernel
theorem dX0_sendsTo_9 : decode cX0_sendsTo 9 = .ok (.aload_n 0, 1) := by decide +kernel
theorem dX0_sendsTo_10 : decode cX0_sendsTo 10 = .ok (.getfield 37, 3) := by decide +kernel
theorem dX0_sendsTo_13 : decode cX0_sendsTo 13 = .ok (.aload_n 0, 1) := by decide +kernel
theorem dX0_sendsTo_14 : decode cX0_sendsTo 14 = .ok (.getfield 47, 3) := by decide +kernel
theorem dX0_sendsTo_17 : decode cX0_sendsTo 17 = .ok (.aaload, 1) := by decide +kernel
theorem dX0_sendsTo_18 : decode cX0_sendsTo 18 = .ok (.iconst 2, 1) := by decide +kernel
theorem dX0_sendsTo_19 : decode cX0_sendsTo 19 = .ok (.aload_n 0, 1) := by decide +kernel
theorem dX0_sendsTo_20 : decode cX0_sendsTo 20 = .ok (.getfield 31, 3) := by decide +kernel
theorem dX0_sendsTo_23 : decode cX0_sendsTo 23 = .ok (.aload_n 0, 1) := by decide +kernel
theorem dX0_sendsTo_24 : decode cX0_sendsTo 24 = .ok (.getfield 34, 3) := by decide +kernel
theorem dX0_sendsTo_27 : decode cX0_sendsTo 27 = .ok (.invokevirtual 55, 3) := by decide +kernel
theorem dX0_sendsTo_30 : decode cX0_sendsTo 30 = .ok (.ifCond .eq 7, 3) := by decide +kernel
theorem dX0_sendsTo_33 : decode cX0_sendsTo 33 = .ok (.iconst 1, 1) := by decide +kernel
theorem dX0_sendsTo_34 : decode cX0_sendsTo 34 = .ok (.goto 4, 3) := by decide +kernel
theorem dX0_sendsTo_37 : decode cX0_sendsTo 37 = .ok (.iconst 0, 1) := by decide +kernel
theorem dX0_sendsTo_38 : decode cX0_sendsTo 38 = .ok (.istore_n 3, 1) := by decide +kernel
theorem dX0_sendsTo_39 : decode cX0_sendsTo 39 = .ok (.aload_n 0, 1) := by decide +kernel
theorem dX0_sendsTo_40 : decode cX0_sendsTo 40 = .ok (.getfield 9, 3) := by decide +kernel
theorem dX0_sendsTo_43 : decode cX0_sendsTo 43 = .ok (.iload_n 1, 1) := by decide +kernel
theorem dX0_sendsTo_44 : decode cX0_sendsTo 44 = .ok (.iaload, 1) := by decide +kernel
theorem dX0_sendsTo_45 : decode cX0_sendsTo 45 = .ok (.tableswitch 65 1 4 #[31, 33, 31, 40], 31) := by decide +kernel
theorem dX0_sendsTo_76 : decode cX0_sendsTo 76 = .ok (.iconst 1, 1) := by decide +kernel
theorem dX0_sendsTo_77 : decode cX0_sendsTo 77 = .ok (.ireturn, 1) := by decide +kernel
theorem dX0_sendsTo_78 : decode cX0_sendsTo 78 = .ok (.aload_n 0, 1) := by decide +kernel
theorem dX0_sendsTo_79 : decode cX0_sendsTo 79 = .ok (.iload_n 1, 1) := by decide +kernel
theorem dX0_sendsTo_80 : decode cX0_sendsTo 80 = .ok (.iload_n 3, 1) := by decide +kernel
theorem dX0_sendsTo_81 : decode cX0_sendsTo 81 = .ok (.invokevirtual 61, 3) := by decide +kernel
theorem dX0_sendsTo_84 : decode cX0_sendsTo 84 = .ok (.ireturn, 1) := by decide +kernel
theorem dX0_sendsTo_85 : decode cX0_sendsTo 85 = .ok (.aload_n 0, 1) := by decide +kernel
theorem dX0_sendsTo_86 : decode cX0_sendsTo 86 = .ok (.iload_n 1, 1) := by decide +kernel
theorem dX0_sendsTo_87 : decode cX0_sendsTo 87 = .ok (.iload_n 3, 1) := by decide +kernel
theorem dX0_sendsTo_88 : decode cX0_sendsTo 88 = .ok (.invokevirtual 61, 3) := by decide +kernel
theorem dX0_sendsTo_91 : decode cX0_sendsTo 91 = .ok (.ifCond .ne 13, 3) := by decide +kernel
theorem dX0_sendsTo_94 : decode cX0_sendsTo 94 = .ok (.iload_n 2, 1) := by decide +kernel
theorem dX0_sendsTo_95 : decode cX0_sendsTo 95 = .ok (.aload_n 0, 1) := by decide +kernel
theorem dX0_sendsTo_96 : decode cX0_sendsTo 96 = .ok (.getfield 15, 3) := by decide +kernel
theorem dX0_sendsTo_99 : decode cX0_sendsTo 99 = .ok (.iload_n 1, 1) := by decide +kernel
theorem dX0_sendsTo_100 : decode cX0_sendsTo 100 = .ok (.iaload, 1) := by decide +kernel
theorem dX0_sendsTo_101 : decode cX0_sendsTo 101 = .ok (.if_icmp .ne 7, 3) := by decide +kernel
theorem dX0_sendsTo_104 : decode cX0_sendsTo 104 = .ok (.iconst 1, 1) := by decide +kernel
theorem dX0_sendsTo_105 : decode cX0_sendsTo 105 = .ok (.goto 4, 3) := by decide +kernel
theorem dX0_sendsTo_108 : decode cX0_sendsTo 108 = .ok (.iconst 0, 1) := by decide +kernel
theorem dX0_sendsTo_109 : decode cX0_sendsTo 109 = .ok (.ireturn, 1) := by decide +kernel
theorem dX0_sendsTo_110 : decode cX0_sendsTo 110 = .ok (.iload_n 3, 1) := by decide +kernel
theorem dX0_sendsTo_111 : decode cX0_sendsTo 111 = .ok (.ireturn, 1) := by decide +kernel
theorem dX0_inlawSends_0 : decode cX0_inlawSends 0 = .ok (.iload_n 2, 1) := by decide +kernel
theorem dX0_inlawSends_1 : decode cX0_inlawSends 1 = .ok (.ifCond .eq 18, 3) := by decide +kernel
theorem dX0_inlawSends_4 : decode cX0_inlawSends 4 = .ok (.aload_n 0, 1) := by decide +kernel
theorem dX0_inlawSends_5 : decode cX0_inlawSends 5 = .ok (.getfield 18, 3) := by decide +kernel
theorem dX0_inlawSends_8 : decode cX0_inlawSends 8 = .ok (.iload_n 1, 1) := by decide +kernel
theorem dX0_inlawSends_9 : decode cX0_inlawSends 9 = .ok (.iaload, 1) := by decide +kernel
theorem dX0_inlawSends_10 : decode cX0_inlawSends 10 = .ok (.bipush (-5), 2) := by decide +kernel
theorem dX0_inlawSends_12 : decode cX0_inlawSends 12 = .ok (.if_icmp .lt 7, 3) := by decide +kernel
theorem dX0_inlawSends_15 : decode cX0_inlawSends 15 = .ok (.iconst 1, 1) := by decide +kernel
theorem dX0_inlawSends_16 : decode cX0_inlawSends 16 = .ok (.goto 4, 3) := by decide +kernel
theorem dX0_inlawSends_19 : decode cX0_inlawSends 19 = .ok (.iconst 0, 1) := by decide +kernel
theorem dX0_inlawSends_20 : decode cX0_inlawSends 20 = .ok (.ireturn, 1) := by decide +kernel
theorem dX0_layersOf_0 : decode cX0_layersOf 0 = .ok (.iload_n 1, 1) := by decide +kernel
theorem dX0_layersOf_1 : decode cX0_layersOf 1 = .ok (.aload_n 0, 1) := by decide +kernel
theorem dX0_layersOf_2 : decode cX0_layersOf 2 = .ok (.getfield 28, 3) := by decide +kernel
theorem dX0_layersOf_5 : decode cX0_layersOf 5 = .ok (.if_icmp .eq 11, 3) := by decide +kernel
theorem dX0_layersOf_8 : decode cX0_layersOf 8 = .ok (.iload_n 2, 1) := by decide +kernel
theorem dX0_layersOf_9 : decode cX0_layersOf 9 = .ok (.aload_n 0, 1) := by decide +kernel
theorem dX0_layersOf_10 : decode cX0_layersOf 10 = .ok (.getfield 28, 3) := by decide +kernel
theorem dX0_layersOf_13 : decode cX0_layersOf 13 = .ok (.if_icmp .ne 7, 3) := by decide +kernel
theorem dX0_layersOf_16 : decode cX0_layersOf 16 = .ok (.iconst 1, 1) := by decide +kernel
theorem dX0_layersOf_17 : decode cX0_layersOf 17 = .ok (.goto 4, 3) := by decide +kernel
theorem dX0_layersOf_20 : decode cX0_layersOf 20 = .ok (.iconst 0, 1) := by decide +kernel
theorem dX0_layersOf_21 : decode cX0_layersOf 21 = .ok (.istore_n 3, 1) := by decide +kernel
theorem dX0_layersOf_22 : decode cX0_layersOf 22 = .ok (.iload_n 1, 1) := by decide +kernel
theorem dX0_layersOf_23 : decode cX0_layersOf 23 = .ok (.iload_n 2, 1) := by decide +kernel
theorem dX0_layersOf_24 : decode cX0_layersOf 24 = .ok (.if_icmp .eq 16, 3) := by decide +kernel
theorem dX0_layersOf_27 : decode cX0_layersOf 27 = .ok (.iload_n 3, 1) := by decide +kernel
theorem dX0_layersOf_28 : decode cX0_layersOf 28 = .ok (.ifCond .ne 12, 3) := by decide +kernel
theorem dX0_layersOf_31 : decode cX0_layersOf 31 = .ok (.aload_n 0, 1) := by decide +kernel
theorem dX0_layersOf_32 : decode cX0_layersOf 32 = .ok (.iload_n 1, 1) := by decide +kernel
theorem dX0_layersOf_33 : decode cX0_layersOf 33 = .ok (.iload_n 2, 1) := by decide +kernel
theorem dX0_layersOf_34 : decode cX0_layersOf 34 = .ok (.invokevirtual 65, 3) := by decide +kernel
theorem dX0_layersOf_37 : decode cX0_layersOf 37 = .ok (.ifCond .ne 5, 3) := by decide +kernel
theorem dX0_layersOf_40 : decode cX0_layersOf 40 = .ok (.iconst 0, 1) := by decide +kernel
theorem dX0_layersOf_41 : decode cX0_layersOf 41 = .ok (.ireturn, 1) := by decide +kernel
theorem dX0_layersOf_42 : decode cX0_layersOf 42 = .ok (.iconst 0, 1) := by decide +kernel
theorem dX0_layersOf_43 : decode cX0_layersOf 43 = .ok (.istore 4, 2) := by decide +kernel
theorem dX0_layersOf_45 : decode cX0_layersOf 45 = .ok (.iconst 0, 1) := by decide +kernel
theorem dX0_layersOf_46 : decode cX0_layersOf 46 = .ok (.istore 5, 2) := by decide +kernel
theorem dX0_layersOf_48 : decode cX0_layersOf 48 = .ok (.iload 5, 2) := by decide +kernel
theorem dX0_layersOf_50 : decode cX0_layersOf 50 = .ok (.bipush 8, 2) := by decide +kernel
theorem dX0_layersOf_52 : decode cX0_layersOf 52 = .ok (.if_icmp .ge 41, 3) := by decide +kernel
theorem dX0_layersOf_55 : decode cX0_layersOf 55 = .ok (.aload_n 0, 1) := by decide +kernel
theorem dX0_layersOf_56 : decode cX0_layersOf 56 = .ok (.getfield 24, 3) := by decide +kernel
theorem dX0_layersOf_59 : decode cX0_layersOf 59 = .ok (.iload 5, 2) := by decide +kernel
theorem dX0_layersOf_61 : decode cX0_layersOf 61 = .ok (.ishr, 1) := by decide +kernel
theorem dX0_layersOf_62 : decode cX0_layersOf 62 = .ok (.iconst 1, 1) := by decide +kernel
theorem dX0_layersOf_63 : decode cX0_layersOf 63 = .ok (.iand, 1) := by decide +kernel
theorem dX0_layersOf_64 : decode cX0_layersOf 64 = .ok (.ifCond .eq 23, 3) := by decide +kernel
theorem dX0_layersOf_67 : decode cX0_layersOf 67 = .ok (.aload_n 0, 1) := by decide +kernel
theorem dX0_layersOf_68 : decode cX0_layersOf 68 = .ok (.iload_n 1, 1) := by decide +kernel
theorem dX0_layersOf_69 : decode cX0_layersOf 69 = .ok (.iload_n 2, 1) := by decide +kernel
theorem dX0_layersOf_70 : decode cX0_layersOf 70 = .ok (.iload 5, 2) := by decide +kernel
theorem dX0_layersOf_72 : decode cX0_layersOf 72 = .ok (.invokevirtual 69, 3) := by decide +kernel
theorem dX0_layersOf_75 : decode cX0_layersOf 75 = .ok (.ifCond .eq 12, 3) := by decide +kernel
theorem dX0_layersOf_78 : decode cX0_layersOf 78 = .ok (.iload 4, 2) := by decide +kernel
theorem dX0_layersOf_80 : decode cX0_layersOf 80 = .ok (.iconst 1, 1) := by decide +kernel
theorem dX0_layersOf_81 : decode cX0_layersOf 81 = .ok (.iload 5, 2) := by decide +kernel
theorem dX0_layersOf_83 : decode cX0_layersOf 83 = .ok (.ishl, 1) := by decide +kernel
theorem dX0_layersOf_84 : decode cX0_layersOf 84 = .ok (.ior, 1) := by decide +kernel
theorem dX0_layersOf_85 : decode cX0_layersOf 85 = .ok (.istore 4, 2) := by decide +kernel
theorem dX0_layersOf_87 : decode cX0_layersOf 87 = .ok (.iinc 5 1, 3) := by decide +kernel
theorem dX0_layersOf_90 : decode cX0_layersOf 90 = .ok (.goto (-42), 3) := by decide +kernel
theorem dX0_layersOf_93 : decode cX0_layersOf 93 = .ok (.iload 4, 2) := by decide +kernel
theorem dX0_layersOf_95 : decode cX0_layersOf 95 = .ok (.ireturn, 1) := by decide +kernel
theorem dX0_cutsFor_0 : decode cX0_cutsFor 0 = .ok (.aload_n 0, 1) := by decide +kernel
theorem dX0_cutsFor_1 : decode cX0_cutsFor 1 = .ok (.iload_n 3, 1) := by decide +kernel
theorem dX0_cutsFor_2 : decode cX0_cutsFor 2 = .ok (.iload_n 1, 1) := by decide +kernel
theorem dX0_cutsFor_3 : decode cX0_cutsFor 3 = .ok (.iload_n 2, 1) := by decide +kernel
theorem dX0_cutsFor_4 : decode cX0_cutsFor 4 = .ok (.iload_n 1, 1) := by decide +kernel
theorem dX0_cutsFor_5 : decode cX0_cutsFor 5 = .ok (.iload_n 2, 1) := by decide +kernel
theorem dX0_cutsFor_6 : decode cX0_cutsFor 6 = .ok (.invokevirtual 51, 3) := by decide +kernel
theorem dX0_cutsFor_9 : decode cX0_cutsFor 9 = .ok (.aload_n 0, 1) := by decide +kernel
theorem dX0_cutsFor_10 : decode cX0_cutsFor 10 = .ok (.getfield 37, 3) := by decide +kernel
theorem dX0_cutsFor_13 : decode cX0_cutsFor 13 = .ok (.aload_n 0, 1) := by decide +kernel
theorem dX0_cutsFor_14 : decode cX0_cutsFor 14 = .ok (.getfield 47, 3) := by decide +kernel
theorem dX0_cutsFor_17 : decode cX0_cutsFor 17 = .ok (.aaload, 1) := by decide +kernel
theorem dX0_cutsFor_18 : decode cX0_cutsFor 18 = .ok (.iconst 0, 1) := by decide +kernel
theorem dX0_cutsFor_19 : decode cX0_cutsFor 19 = .ok (.aload_n 0, 1) := by decide +kernel
theorem dX0_cutsFor_20 : decode cX0_cutsFor 20 = .ok (.getfield 31, 3) := by decide +kernel
theorem dX0_cutsFor_23 : decode cX0_cutsFor 23 = .ok (.aload_n 0, 1) := by decide +kernel
theorem dX0_cutsFor_24 : decode cX0_cutsFor 24 = .ok (.getfield 34, 3) := by decide +kernel
theorem dX0_cutsFor_27 : decode cX0_cutsFor 27 = .ok (.invokevirtual 55, 3) := by decide +kernel
theorem dX0_cutsFor_30 : decode cX0_cutsFor 30 = .ok (.ifCond .eq 7, 3) := by decide +kernel
theorem dX0_cutsFor_33 : decode cX0_cutsFor 33 = .ok (.iconst 1, 1) := by decide +kernel
theorem dX0_cutsFor_34 : decode cX0_cutsFor 34 = .ok (.goto 4, 3) := by decide +kernel
theorem dX0_cutsFor_37 : decode cX0_cutsFor 37 = .ok (.iconst 0, 1) := by decide +kernel
theorem dX0_cutsFor_38 : decode cX0_cutsFor 38 = .ok (.istore 4, 2) := by decide +kernel
theorem dX0_cutsFor_40 : decode cX0_cutsFor 40 = .ok (.aload_n 0, 1) := by decide +kernel
theorem dX0_cutsFor_41 : decode cX0_cutsFor 41 = .ok (.getfield 9, 3) := by decide +kernel
theorem dX0_cutsFor_44 : decode cX0_cutsFor 44 = .ok (.iload_n 1, 1) := by decide +kernel
theorem dX0_cutsFor_45 : decode cX0_cutsFor 45 = .ok (.iaload, 1) := by decide +kernel
theorem dX0_cutsFor_46 : decode cX0_cutsFor 46 = .ok (.tableswitch 124 1 5 #[34, 43, 50, 73, 102], 34) := by decide +kernel
theorem dX0_cutsFor_80 : decode cX0_cutsFor 80 = .ok (.aload_n 0, 1) := by decide +kernel
theorem dX0_cutsFor_81 : decode cX0_cutsFor 81 = .ok (.iload_n 1, 1) := by decide +kernel
theorem dX0_cutsFor_82 : decode cX0_cutsFor 82 = .ok (.iload_n 3, 1) := by decide +kernel
theorem dX0_cutsFor_83 : decode cX0_cutsFor 83 = .ok (.iload 4, 2) := by decide +kernel
theorem dX0_cutsFor_85 : decode cX0_cutsFor 85 = .ok (.invokevirtual 73, 3) := by decide +kernel
theorem dX0_cutsFor_88 : decode cX0_cutsFor 88 = .ok (.ireturn, 1) := by decide +kernel
theorem dX0_cutsFor_89 : decode cX0_cutsFor 89 = .ok (.iload_n 3, 1) := by decide +kernel
theorem dX0_cutsFor_90 : decode cX0_cutsFor 90 = .ok (.iload 4, 2) := by decide +kernel
theorem dX0_cutsFor_92 : decode cX0_cutsFor 92 = .ok (.invokestatic 77, 3) := by decide +kernel
theorem dX0_cutsFor_95 : decode cX0_cutsFor 95 = .ok (.ireturn, 1) := by decide +kernel
theorem dX0_cutsFor_96 : decode cX0_cutsFor 96 = .ok (.aload_n 0, 1) := by decide +kernel
theorem dX0_cutsFor_97 : decode cX0_cutsFor 97 = .ok (.iload_n 1, 1) := by decide +kernel
theorem dX0_cutsFor_98 : decode cX0_cutsFor 98 = .ok (.iload_n 3, 1) := by decide +kernel
theorem dX0_cutsFor_99 : decode cX0_cutsFor 99 = .ok (.iload 4, 2) := by decide +kernel
theorem dX0_cutsFor_101 : decode cX0_cutsFor 101 = .ok (.invokevirtual 73, 3) := by decide +kernel
theorem dX0_cutsFor_104 : decode cX0_cutsFor 104 = .ok (.ifCond .eq 13, 3) := by decide +kernel
theorem dX0_cutsFor_107 : decode cX0_cutsFor 107 = .ok (.iload_n 3, 1) := by decide +kernel
theorem dX0_cutsFor_108 : decode cX0_cutsFor 108 = .ok (.bipush 7, 2) := by decide +kernel
theorem dX0_cutsFor_110 : decode cX0_cutsFor 110 = .ok (.if_icmp .eq 7, 3) := by decide +kernel
theorem dX0_cutsFor_113 : decode cX0_cutsFor 113 = .ok (.iconst 1, 1) := by decide +kernel
theorem dX0_cutsFor_114 : decode cX0_cutsFor 114 = .ok (.goto 4, 3) := by decide +kernel
theorem dX0_cutsFor_117 : decode cX0_cutsFor 117 = .ok (.iconst 0, 1) := by decide +kernel
theorem dX0_cutsFor_118 : decode cX0_cutsFor 118 = .ok (.ireturn, 1) := by decide +kernel
theorem dX0_cutsFor_119 : decode cX0_cutsFor 119 = .ok (.iload_n 3, 1) := by decide +kernel
theorem dX0_cutsFor_120 : decode cX0_cutsFor 120 = .ok (.iload 4, 2) := by decide +kernel
theorem dX0_cutsFor_122 : decode cX0_cutsFor 122 = .ok (.invokestatic 77, 3) := by decide +kernel
theorem dX0_cutsFor_125 : decode cX0_cutsFor 125 = .ok (.ifCond .ne 17, 3) := by decide +kernel
theorem dX0_cutsFor_128 : decode cX0_cutsFor 128 = .ok (.iload_n 3, 1) := by decide +kernel
theorem dX0_cutsFor_129 : decode cX0_cutsFor 129 = .ok (.iconst 3, 1) := by decide +kernel
theorem dX0_cutsFor_130 : decode cX0_cutsFor 130 = .ok (.if_icmp .ne 16, 3) := by decide +kernel
theorem dX0_cutsFor_133 : decode cX0_cutsFor 133 = .ok (.aload_n 0, 1) := by decide +kernel
theorem dX0_cutsFor_134 : decode cX0_cutsFor 134 = .ok (.getfield 18, 3) := by decide +kernel
theorem dX0_cutsFor_137 : decode cX0_cutsFor 137 = .ok (.iload_n 1, 1) := by decide +kernel
theorem dX0_cutsFor_138 : decode cX0_cutsFor 138 = .ok (.iaload, 1) := by decide +kernel
theorem dX0_cutsFor_139 : decode cX0_cutsFor 139 = .ok (.ifCond .ge 7, 3) := by decide +kernel
theorem dX0_cutsFor_142 : decode cX0_cutsFor 142 = .ok (.iconst 1, 1) := by decide +kernel
theorem dX0_cutsFor_143 : decode cX0_cutsFor 143 = .ok (.goto 4, 3) := by decide +kernel
theorem dX0_cutsFor_146 : decode cX0_cutsFor 146 = .ok (.iconst 0, 1) := by decide +kernel
theorem dX0_cutsFor_147 : decode cX0_cutsFor 147 = .ok (.ireturn, 1) := by decide +kernel
theorem dX0_cutsFor_148 : decode cX0_cutsFor 148 = .ok (.iload_n 3, 1) := by decide +kernel
theorem dX0_cutsFor_149 : decode cX0_cutsFor 149 = .ok (.iconst 3, 1) := by decide +kernel
theorem dX0_cutsFor_150 : decode cX0_cutsFor 150 = .ok (.if_icmp .lt 14, 3) := by decide +kernel
theorem dX0_cutsFor_153 : decode cX0_cutsFor 153 = .ok (.aload_n 0, 1) := by decide +kernel
theorem dX0_cutsFor_154 : decode cX0_cutsFor 154 = .ok (.getfield 18, 3) := by decide +kernel
theorem dX0_cutsFor_157 : decode cX0_cutsFor 157 = .ok (.iload_n 1, 1) := by decide +kernel
theorem dX0_cutsFor_158 : decode cX0_cutsFor 158 = .ok (.iaload, 1) := by decide +kernel
theorem dX0_cutsFor_159 : decode cX0_cutsFor 159 = .ok (.bipush 10, 2) := by decide +kernel
theorem dX0_cutsFor_161 : decode cX0_cutsFor 161 = .ok (.if_icmp .lt 7, 3) := by decide +kernel
theorem dX0_cutsFor_164 : decode cX0_cutsFor 164 = .ok (.iconst 1, 1) := by decide +kernel
theorem dX0_cutsFor_165 : decode cX0_cutsFor 165 = .ok (.goto 4, 3) := by decide +kernel
theorem dX0_cutsFor_168 : decode cX0_cutsFor 168 = .ok (.iconst 0, 1) := by decide +kernel
theorem dX0_cutsFor_169 : decode cX0_cutsFor 169 = .ok (.ireturn, 1) := by decide +kernel
theorem dX0_cutsFor_170 : decode cX0_cutsFor 170 = .ok (.iload 4, 2) := by decide +kernel
theorem dX0_cutsFor_172 : decode cX0_cutsFor 172 = .ok (.ireturn, 1) := by decide +kernel
theorem dX0_motherCuts_0 : decode cX0_motherCuts 0 = .ok (.iload_n 3, 1) := by decide +kernel
theorem dX0_motherCuts_1 : decode cX0_motherCuts 1 = .ok (.ifCond .ne 16, 3) := by decide +kernel
theorem dX0_motherCuts_4 : decode cX0_motherCuts 4 = .ok (.iload_n 2, 1) := by decide +kernel
theorem dX0_motherCuts_5 : decode cX0_motherCuts 5 = .ok (.aload_n 0, 1) := by decide +kernel
theorem dX0_motherCuts_6 : decode cX0_motherCuts 6 = .ok (.getfield 15, 3) := by decide +kernel
theorem dX0_motherCuts_9 : decode cX0_motherCuts 9 = .ok (.iload_n 1, 1) := by decide +kernel
theorem dX0_motherCuts_10 : decode cX0_motherCuts 10 = .ok (.iaload, 1) := by decide +kernel
theorem dX0_motherCuts_11 : decode cX0_motherCuts 11 = .ok (.bipush 8, 2) := by decide +kernel
theorem dX0_motherCuts_13 : decode cX0_motherCuts 13 = .ok (.irem, 1) := by decide +kernel
theorem dX0_motherCuts_14 : decode cX0_motherCuts 14 = .ok (.if_icmp .ne 7, 3) := by decide +kernel
theorem dX0_motherCuts_17 : decode cX0_motherCuts 17 = .ok (.iconst 1, 1) := by decide +kernel
theorem dX0_motherCuts_18 : decode cX0_motherCuts 18 = .ok (.goto 4, 3) := by decide +kernel
theorem dX0_motherCuts_21 : decode cX0_motherCuts 21 = .ok (.iconst 0, 1) := by decide +kernel
theorem dX0_motherCuts_22 : decode cX0_motherCuts 22 = .ok (.ireturn, 1) := by decide +kernel
theorem dX0_inlawCuts_0 : decode cX0_inlawCuts 0 = .ok (.iload_n 1, 1) := by decide +kernel
theorem dX0_inlawCuts_1 : decode cX0_inlawCuts 1 = .ok (.ifCond .eq 13, 3) := by decide +kernel
theorem dX0_inlawCuts_4 : decode cX0_inlawCuts 4 = .ok (.iload_n 0, 1) := by decide +kernel
theorem dX0_inlawCuts_5 : decode cX0_inlawCuts 5 = .ok (.iconst 2, 1) := by decide +kernel
theorem dX0_inlawCuts_6 : decode cX0_inlawCuts 6 = .ok (.irem, 1) := by decide +kernel
theorem dX0_inlawCuts_7 : decode cX0_inlawCuts 7 = .ok (.ifCond .ne 7, 3) := by decide +kernel
theorem dX0_inlawCuts_10 : decode cX0_inlawCuts 10 = .ok (.iconst 1, 1) := by decide +kernel
theorem dX0_inlawCuts_11 : decode cX0_inlawCuts 11 = .ok (.goto 4, 3) := by decide +kernel
theorem dX0_inlawCuts_14 : decode cX0_inlawCuts 14 = .ok (.iconst 0, 1) := by decide +kernel
theorem dX0_inlawCuts_15 : decode cX0_inlawCuts 15 = .ok (.ireturn, 1) := by decide +kernel
theorem dX0_feelsBy_0 : decode cX0_feelsBy 0 = .ok (.aload_n 0, 1) := by decide +kernel
theorem dX0_feelsBy_1 : decode cX0_feelsBy 1 = .ok (.iload_n 3, 1) := by decide +kernel
theorem dX0_feelsBy_2 : decode cX0_feelsBy 2 = .ok (.iload_n 1, 1) := by decide +kernel
theorem dX0_feelsBy_3 : decode cX0_feelsBy 3 = .ok (.iload_n 2, 1) := by decide +kernel
theorem dX0_feelsBy_4 : decode cX0_feelsBy 4 = .ok (.iload_n 2, 1) := by decide +kernel
theorem dX0_feelsBy_5 : decode cX0_feelsBy 5 = .ok (.iload_n 1, 1) := by decide +kernel
theorem dX0_feelsBy_6 : decode cX0_feelsBy 6 = .ok (.invokevirtual 51, 3) := by decide +kernel
theorem dX0_feelsBy_9 : decode cX0_feelsBy 9 = .ok (.aload_n 0, 1) := by decide +kernel
theorem dX0_feelsBy_10 : decode cX0_feelsBy 10 = .ok (.getfield 37, 3) := by decide +kernel
theorem dX0_feelsBy_13 : decode cX0_feelsBy 13 = .ok (.aload_n 0, 1) := by decide +kernel
theorem dX0_feelsBy_14 : decode cX0_feelsBy 14 = .ok (.getfield 47, 3) := by decide +kernel
theorem dX0_feelsBy_17 : decode cX0_feelsBy 17 = .ok (.aaload, 1) := by decide +kernel
theorem dX0_feelsBy_18 : decode cX0_feelsBy 18 = .ok (.iconst 1, 1) := by decide +kernel
theorem dX0_feelsBy_19 : decode cX0_feelsBy 19 = .ok (.aload_n 0, 1) := by decide +kernel
theorem dX0_feelsBy_20 : decode cX0_feelsBy 20 = .ok (.getfield 31, 3) := by decide +kernel
theorem dX0_feelsBy_23 : decode cX0_feelsBy 23 = .ok (.aload_n 0, 1) := by decide +kernel
theorem dX0_feelsBy_24 : decode cX0_feelsBy 24 = .ok (.getfield 34, 3) := by decide +kernel
theorem dX0_feelsBy_27 : decode cX0_feelsBy 27 = .ok (.invokevirtual 55, 3) := by decide +kernel
theorem dX0_feelsBy_30 : decode cX0_feelsBy 30 = .ok (.invokestatic 80, 3) := by decide +kernel
theorem dX0_feelsBy_33 : decode cX0_feelsBy 33 = .ok (.istore 4, 2) := by decide +kernel
theorem dX0_feelsBy_35 : decode cX0_feelsBy 35 = .ok (.aload_n 0, 1) := by decide +kernel
theorem dX0_feelsBy_36 : decode cX0_feelsBy 36 = .ok (.getfield 9, 3) := by decide +kernel
theorem dX0_feelsBy_39 : decode cX0_feelsBy 39 = .ok (.iload_n 1, 1) := by decide +kernel
theorem dX0_feelsBy_40 : decode cX0_feelsBy 40 = .ok (.iaload, 1) := by decide +kernel
theorem dX0_feelsBy_41 : decode cX0_feelsBy 41 = .ok (.tableswitch 94 1 5 #[35, 42, 50, 62, 82], 35) := by decide +kernel
theorem dX0_feelsBy_76 : decode cX0_feelsBy 76 = .ok (.iconst (-1), 1) := by decide +kernel
theorem dX0_feelsBy_77 : decode cX0_feelsBy 77 = .ok (.iload 4, 2) := by decide +kernel
theorem dX0_feelsBy_79 : decode cX0_feelsBy 79 = .ok (.invokestatic 84, 3) := by decide +kernel
theorem dX0_feelsBy_82 : decode cX0_feelsBy 82 = .ok (.ireturn, 1) := by decide +kernel
theorem dX0_feelsBy_83 : decode cX0_feelsBy 83 = .ok (.iconst 2, 1) := by decide +kernel
theorem dX0_feelsBy_84 : decode cX0_feelsBy 84 = .ok (.iload 4, 2) := by decide +kernel
theorem dX0_feelsBy_86 : decode cX0_feelsBy 86 = .ok (.imul, 1) := by decide +kernel
theorem dX0_feelsBy_87 : decode cX0_feelsBy 87 = .ok (.invokestatic 80, 3) := by decide +kernel
theorem dX0_feelsBy_90 : decode cX0_feelsBy 90 = .ok (.ireturn, 1) := by decide +kernel
theorem dX0_feelsBy_91 : decode cX0_feelsBy 91 = .ok (.iconst (-1), 1) := by decide +kernel
theorem dX0_feelsBy_92 : decode cX0_feelsBy 92 = .ok (.iload 4, 2) := by decide +kernel
theorem dX0_feelsBy_94 : decode cX0_feelsBy 94 = .ok (.invokestatic 84, 3) := by decide +kernel
theorem dX0_feelsBy_97 : decode cX0_feelsBy 97 = .ok (.iconst 1, 1) := by decide +kernel
theorem dX0_feelsBy_98 : decode cX0_feelsBy 98 = .ok (.iadd, 1) := by decide +kernel
theorem dX0_feelsBy_99 : decode cX0_feelsBy 99 = .ok (.invokestatic 80, 3) := by decide +kernel
theorem dX0_feelsBy_102 : decode cX0_feelsBy 102 = .ok (.ireturn, 1) := by decide +kernel
theorem dX0_feelsBy_103 : decode cX0_feelsBy 103 = .ok (.iconst 2, 1) := by decide +kernel
theorem dX0_feelsBy_104 : decode cX0_feelsBy 104 = .ok (.iload 4, 2) := by decide +kernel
theorem dX0_feelsBy_106 : decode cX0_feelsBy 106 = .ok (.imul, 1) := by decide +kernel
theorem dX0_feelsBy_107 : decode cX0_feelsBy 107 = .ok (.invokestatic 80, 3) := by decide +kernel
theorem dX0_feelsBy_110 : decode cX0_feelsBy 110 = .ok (.iconst 2, 1) := by decide +kernel
theorem dX0_feelsBy_111 : decode cX0_feelsBy 111 = .ok (.idiv, 1) := by decide +kernel
theorem dX0_feelsBy_112 : decode cX0_feelsBy 112 = .ok (.aload_n 0, 1) := by decide +kernel
theorem dX0_feelsBy_113 : decode cX0_feelsBy 113 = .ok (.getfield 15, 3) := by decide +kernel
theorem dX0_feelsBy_116 : decode cX0_feelsBy 116 = .ok (.iload_n 1, 1) := by decide +kernel
theorem dX0_feelsBy_117 : decode cX0_feelsBy 117 = .ok (.iaload, 1) := by decide +kernel
theorem dX0_feelsBy_118 : decode cX0_feelsBy 118 = .ok (.isub, 1) := by decide +kernel
theorem dX0_feelsBy_119 : decode cX0_feelsBy 119 = .ok (.invokestatic 80, 3) := by decide +kernel
theorem dX0_feelsBy_122 : decode cX0_feelsBy 122 = .ok (.ireturn, 1) := by decide +kernel
theorem dX0_feelsBy_123 : decode cX0_feelsBy 123 = .ok (.iload_n 3, 1) := by decide +kernel
theorem dX0_feelsBy_124 : decode cX0_feelsBy 124 = .ok (.iconst 4, 1) := by decide +kernel
theorem dX0_feelsBy_125 : decode cX0_feelsBy 125 = .ok (.if_icmp .lt 7, 3) := by decide +kernel
theorem dX0_feelsBy_128 : decode cX0_feelsBy 128 = .ok (.iconst 0, 1) := by decide +kernel
theorem dX0_feelsBy_129 : decode cX0_feelsBy 129 = .ok (.goto 5, 3) := by decide +kernel
theorem dX0_feelsBy_132 : decode cX0_feelsBy 132 = .ok (.iload 4, 2) := by decide +kernel
theorem dX0_feelsBy_134 : decode cX0_feelsBy 134 = .ok (.ireturn, 1) := by decide +kernel
theorem dX0_feelsBy_135 : decode cX0_feelsBy 135 = .ok (.iload 4, 2) := by decide +kernel
theorem dX0_feelsBy_137 : decode cX0_feelsBy 137 = .ok (.ireturn, 1) := by decide +kernel
theorem dX0_nameAll_0 : decode cX0_nameAll 0 = .ok (.aload_n 0, 1) := by decide +kernel
theorem dX0_nameAll_1 : decode cX0_nameAll 1 = .ok (.getfield 31, 3) := by decide +kernel
theorem dX0_nameAll_4 : decode cX0_nameAll 4 = .ok (.iconst 0, 1) := by decide +kernel
theorem dX0_nameAll_5 : decode cX0_nameAll 5 = .ok (.iload_n 1, 1) := by decide +kernel
theorem dX0_nameAll_6 : decode cX0_nameAll 6 = .ok (.iastore, 1) := by decide +kernel
theorem dX0_nameAll_7 : decode cX0_nameAll 7 = .ok (.aload_n 0, 1) := by decide +kernel
theorem dX0_nameAll_8 : decode cX0_nameAll 8 = .ok (.getfield 31, 3) := by decide +kernel
theorem dX0_nameAll_11 : decode cX0_nameAll 11 = .ok (.iconst 1, 1) := by decide +kernel
theorem dX0_nameAll_12 : decode cX0_nameAll 12 = .ok (.aload_n 0, 1) := by decide +kernel
theorem dX0_nameAll_13 : decode cX0_nameAll 13 = .ok (.getfield 18, 3) := by decide +kernel
theorem dX0_nameAll_16 : decode cX0_nameAll 16 = .ok (.iload_n 2, 1) := by decide +kernel
theorem dX0_nameAll_17 : decode cX0_nameAll 17 = .ok (.iaload, 1) := by decide +kernel
theorem dX0_nameAll_18 : decode cX0_nameAll 18 = .ok (.iastore, 1) := by decide +kernel
theorem dX0_nameAll_19 : decode cX0_nameAll 19 = .ok (.aload_n 0, 1) := by decide +kernel
theorem dX0_nameAll_20 : decode cX0_nameAll 20 = .ok (.getfield 31, 3) := by decide +kernel
theorem dX0_nameAll_23 : decode cX0_nameAll 23 = .ok (.iconst 2, 1) := by decide +kernel
theorem dX0_nameAll_24 : decode cX0_nameAll 24 = .ok (.aload_n 0, 1) := by decide +kernel
theorem dX0_nameAll_25 : decode cX0_nameAll 25 = .ok (.getfield 15, 3) := by decide +kernel
theorem dX0_nameAll_28 : decode cX0_nameAll 28 = .ok (.iload_n 2, 1) := by decide +kernel
theorem dX0_nameAll_29 : decode cX0_nameAll 29 = .ok (.iaload, 1) := by decide +kernel
theorem dX0_nameAll_30 : decode cX0_nameAll 30 = .ok (.iastore, 1) := by decide +kernel
theorem dX0_nameAll_31 : decode cX0_nameAll 31 = .ok (.aload_n 0, 1) := by decide +kernel
theorem dX0_nameAll_32 : decode cX0_nameAll 32 = .ok (.getfield 31, 3) := by decide +kernel
theorem dX0_nameAll_35 : decode cX0_nameAll 35 = .ok (.iconst 3, 1) := by decide +kernel
theorem dX0_nameAll_36 : decode cX0_nameAll 36 = .ok (.aload_n 0, 1) := by decide +kernel
theorem dX0_nameAll_37 : decode cX0_nameAll 37 = .ok (.getfield 18, 3) := by decide +kernel
theorem dX0_nameAll_40 : decode cX0_nameAll 40 = .ok (.iload_n 3, 1) := by decide +kernel
theorem dX0_nameAll_41 : decode cX0_nameAll 41 = .ok (.iaload, 1) := by decide +kernel
theorem dX0_nameAll_42 : decode cX0_nameAll 42 = .ok (.iastore, 1) := by decide +kernel
theorem dX0_nameAll_43 : decode cX0_nameAll 43 = .ok (.aload_n 0, 1) := by decide +kernel
theorem dX0_nameAll_44 : decode cX0_nameAll 44 = .ok (.getfield 31, 3) := by decide +kernel
theorem dX0_nameAll_47 : decode cX0_nameAll 47 = .ok (.iconst 4, 1) := by decide +kernel
theorem dX0_nameAll_48 : decode cX0_nameAll 48 = .ok (.iload 4, 2) := by decide +kernel
theorem dX0_nameAll_50 : decode cX0_nameAll 50 = .ok (.iastore, 1) := by decide +kernel
theorem dX0_nameAll_51 : decode cX0_nameAll 51 = .ok (.aload_n 0, 1) := by decide +kernel
theorem dX0_nameAll_52 : decode cX0_nameAll 52 = .ok (.getfield 31, 3) := by decide +kernel
theorem dX0_nameAll_55 : decode cX0_nameAll 55 = .ok (.iconst 5, 1) := by decide +kernel
theorem dX0_nameAll_56 : decode cX0_nameAll 56 = .ok (.iload 5, 2) := by decide +kernel
theorem dX0_nameAll_58 : decode cX0_nameAll 58 = .ok (.iastore, 1) := by decide +kernel
theorem dX0_nameAll_59 : decode cX0_nameAll 59 = .ok (.return_, 1) := by decide +kernel
theorem dX0_feltFrom_0 : decode cX0_feltFrom 0 = .ok (.aload_n 0, 1) := by decide +kernel
theorem dX0_feltFrom_1 : decode cX0_feltFrom 1 = .ok (.iload_n 1, 1) := by decide +kernel
theorem dX0_feltFrom_2 : decode cX0_feltFrom 2 = .ok (.iload_n 2, 1) := by decide +kernel
theorem dX0_feltFrom_3 : decode cX0_feltFrom 3 = .ok (.invokevirtual 90, 3) := by decide +kernel
theorem dX0_feltFrom_6 : decode cX0_feltFrom 6 = .ok (.istore_n 3, 1) := by decide +kernel
theorem dX0_feltFrom_7 : decode cX0_feltFrom 7 = .ok (.iconst 0, 1) := by decide +kernel
theorem dX0_feltFrom_8 : decode cX0_feltFrom 8 = .ok (.istore 4, 2) := by decide +kernel
theorem dX0_feltFrom_10 : decode cX0_feltFrom 10 = .ok (.iconst 0, 1) := by decide +kernel
theorem dX0_feltFrom_11 : decode cX0_feltFrom 11 = .ok (.istore 5, 2) := by decide +kernel
theorem dX0_feltFrom_13 : decode cX0_feltFrom 13 = .ok (.iload 5, 2) := by decide +kernel
theorem dX0_feltFrom_15 : decode cX0_feltFrom 15 = .ok (.bipush 8, 2) := by decide +kernel
theorem dX0_feltFrom_17 : decode cX0_feltFrom 17 = .ok (.if_icmp .ge 31, 3) := by decide +kernel
theorem dX0_feltFrom_20 : decode cX0_feltFrom 20 = .ok (.iload_n 3, 1) := by decide +kernel
theorem dX0_feltFrom_21 : decode cX0_feltFrom 21 = .ok (.iload 5, 2) := by decide +kernel
theorem dX0_feltFrom_23 : decode cX0_feltFrom 23 = .ok (.ishr, 1) := by decide +kernel
theorem dX0_feltFrom_24 : decode cX0_feltFrom 24 = .ok (.iconst 1, 1) := by decide +kernel
theorem dX0_feltFrom_25 : decode cX0_feltFrom 25 = .ok (.iand, 1) := by decide +kernel
theorem dX0_feltFrom_26 : decode cX0_feltFrom 26 = .ok (.ifCond .eq 16, 3) := by decide +kernel
theorem dX0_feltFrom_29 : decode cX0_feltFrom 29 = .ok (.iload 4, 2) := by decide +kernel
theorem dX0_feltFrom_31 : decode cX0_feltFrom 31 = .ok (.aload_n 0, 1) := by decide +kernel
theorem dX0_feltFrom_32 : decode cX0_feltFrom 32 = .ok (.iload_n 2, 1) := by decide +kernel
theorem dX0_feltFrom_33 : decode cX0_feltFrom 33 = .ok (.iload_n 1, 1) := by decide +kernel
theorem dX0_feltFrom_34 : decode cX0_feltFrom 34 = .ok (.iload 5, 2) := by decide +kernel
theorem dX0_feltFrom_36 : decode cX0_feltFrom 36 = .ok (.invokevirtual 93, 3) := by decide +kernel
theorem dX0_feltFrom_39 : decode cX0_feltFrom 39 = .ok (.iadd, 1) := by decide +kernel
theorem dX0_feltFrom_40 : decode cX0_feltFrom 40 = .ok (.istore 4, 2) := by decide +kernel
theorem dX0_feltFrom_42 : decode cX0_feltFrom 42 = .ok (.iinc 5 1, 3) := by decide +kernel
theorem dX0_feltFrom_45 : decode cX0_feltFrom 45 = .ok (.goto (-32), 3) := by decide +kernel
theorem dX0_feltFrom_48 : decode cX0_feltFrom 48 = .ok (.iload 4, 2) := by decide +kernel
theorem dX0_feltFrom_50 : decode cX0_feltFrom 50 = .ok (.ireturn, 1) := by decide +kernel
theorem dX0_passSunday_0 : decode cX0_passSunday 0 = .ok (.iconst 0, 1) := by decide +kernel
theorem dX0_passSunday_1 : decode cX0_passSunday 1 = .ok (.istore_n 1, 1) := by decide +kernel
theorem dX0_passSunday_2 : decode cX0_passSunday 2 = .ok (.iload_n 1, 1) := by decide +kernel
theorem dX0_passSunday_3 : decode cX0_passSunday 3 = .ok (.aload_n 0, 1) := by decide +kernel
theorem dX0_passSunday_4 : decode cX0_passSunday 4 = .ok (.getfield 41, 3) := by decide +kernel
theorem dX0_passSunday_7 : decode cX0_passSunday 7 = .ok (.if_icmp .ge 47, 3) := by decide +kernel
theorem dX0_passSunday_10 : decode cX0_passSunday 10 = .ok (.aload_n 0, 1) := by decide +kernel
theorem dX0_passSunday_11 : decode cX0_passSunday 11 = .ok (.getfield 21, 3) := by decide +kernel
theorem dX0_passSunday_14 : decode cX0_passSunday 14 = .ok (.iload_n 1, 1) := by decide +kernel
theorem dX0_passSunday_15 : decode cX0_passSunday 15 = .ok (.iconst 0, 1) := by decide +kernel
theorem dX0_passSunday_16 : decode cX0_passSunday 16 = .ok (.iastore, 1) := by decide +kernel
theorem dX0_passSunday_17 : decode cX0_passSunday 17 = .ok (.iconst 0, 1) := by decide +kernel
theorem dX0_passSunday_18 : decode cX0_passSunday 18 = .ok (.istore_n 2, 1) := by decide +kernel
theorem dX0_passSunday_19 : decode cX0_passSunday 19 = .ok (.iload_n 2, 1) := by decide +kernel
theorem dX0_passSunday_20 : decode cX0_passSunday 20 = .ok (.aload_n 0, 1) := by decide +kernel
theorem dX0_passSunday_21 : decode cX0_passSunday 21 = .ok (.getfield 41, 3) := by decide +kernel
theorem dX0_passSunday_24 : decode cX0_passSunday 24 = .ok (.if_icmp .ge 24, 3) := by decide +kernel
theorem dX0_passSunday_27 : decode cX0_passSunday 27 = .ok (.aload_n 0, 1) := by decide +kernel
theorem dX0_passSunday_28 : decode cX0_passSunday 28 = .ok (.getfield 21, 3) := by decide +kernel
theorem dX0_passSunday_31 : decode cX0_passSunday 31 = .ok (.iload_n 1, 1) := by decide +kernel
theorem dX0_passSunday_32 : decode cX0_passSunday 32 = .ok (.dup2, 1) := by decide +kernel
theorem dX0_passSunday_33 : decode cX0_passSunday 33 = .ok (.iaload, 1) := by decide +kernel
theorem dX0_passSunday_34 : decode cX0_passSunday 34 = .ok (.aload_n 0, 1) := by decide +kernel
theorem dX0_passSunday_35 : decode cX0_passSunday 35 = .ok (.iload_n 2, 1) := by decide +kernel
theorem dX0_passSunday_36 : decode cX0_passSunday 36 = .ok (.iload_n 1, 1) := by decide +kernel
theorem dX0_passSunday_37 : decode cX0_passSunday 37 = .ok (.invokevirtual 97, 3) := by decide +kernel
theorem dX0_passSunday_40 : decode cX0_passSunday 40 = .ok (.iadd, 1) := by decide +kernel
theorem dX0_passSunday_41 : decode cX0_passSunday 41 = .ok (.iastore, 1) := by decide +kernel
theorem dX0_passSunday_42 : decode cX0_passSunday 42 = .ok (.iinc 2 1, 3) := by decide +kernel
theorem dX0_passSunday_45 : decode cX0_passSunday 45 = .ok (.goto (-26), 3) := by decide +kernel
theorem dX0_passSunday_48 : decode cX0_passSunday 48 = .ok (.iinc 1 1, 3) := by decide +kernel
theorem dX0_passSunday_51 : decode cX0_passSunday 51 = .ok (.goto (-49), 3) := by decide +kernel
theorem dX0_passSunday_54 : decode cX0_passSunday 54 = .ok (.iconst 0, 1) := by decide +kernel
theorem dX0_passSunday_55 : decode cX0_passSunday 55 = .ok (.istore_n 1, 1) := by decide +kernel
theorem dX0_passSunday_56 : decode cX0_passSunday 56 = .ok (.iconst 0, 1) := by decide +kernel
theorem dX0_passSunday_57 : decode cX0_passSunday 57 = .ok (.istore_n 2, 1) := by decide +kernel
theorem dX0_passSunday_58 : decode cX0_passSunday 58 = .ok (.iload_n 2, 1) := by decide +kernel
theorem dX0_passSunday_59 : decode cX0_passSunday 59 = .ok (.aload_n 0, 1) := by decide +kernel
theorem dX0_passSunday_60 : decode cX0_passSunday 60 = .ok (.getfield 41, 3) := by decide +kernel
theorem dX0_passSunday_63 : decode cX0_passSunday 63 = .ok (.if_icmp .ge 53, 3) := by decide +kernel
theorem dX0_passSunday_66 : decode cX0_passSunday 66 = .ok (.aload_n 0, 1) := by decide +kernel
theorem dX0_passSunday_67 : decode cX0_passSunday 67 = .ok (.getfield 18, 3) := by decide +kernel
theorem dX0_passSunday_70 : decode cX0_passSunday 70 = .ok (.iload_n 2, 1) := by decide +kernel
theorem dX0_passSunday_71 : decode cX0_passSunday 71 = .ok (.iaload, 1) := by decide +kernel
theorem dX0_passSunday_72 : decode cX0_passSunday 72 = .ok (.aload_n 0, 1) := by decide +kernel
theorem dX0_passSunday_73 : decode cX0_passSunday 73 = .ok (.getfield 21, 3) := by decide +kernel
theorem dX0_passSunday_76 : decode cX0_passSunday 76 = .ok (.iload_n 2, 1) := by decide +kernel
theorem dX0_passSunday_77 : decode cX0_passSunday 77 = .ok (.iaload, 1) := by decide +kernel
theorem dX0_passSunday_78 : decode cX0_passSunday 78 = .ok (.iadd, 1) := by decide +kernel
theorem dX0_passSunday_79 : decode cX0_passSunday 79 = .ok (.invokestatic 80, 3) := by decide +kernel
theorem dX0_passSunday_82 : decode cX0_passSunday 82 = .ok (.istore_n 3, 1) := by decide +kernel
theorem dX0_passSunday_83 : decode cX0_passSunday 83 = .ok (.iload_n 1, 1) := by decide +kernel
theorem dX0_passSunday_84 : decode cX0_passSunday 84 = .ok (.ifCond .ne 13, 3) := by decide +kernel
theorem dX0_passSunday_87 : decode cX0_passSunday 87 = .ok (.iload_n 3, 1) := by decide +kernel
theorem dX0_passSunday_88 : decode cX0_passSunday 88 = .ok (.aload_n 0, 1) := by decide +kernel
theorem dX0_passSunday_89 : decode cX0_passSunday 89 = .ok (.getfield 18, 3) := by decide +kernel
theorem dX0_passSunday_92 : decode cX0_passSunday 92 = .ok (.iload_n 2, 1) := by decide +kernel
theorem dX0_passSunday_93 : decode cX0_passSunday 93 = .ok (.iaload, 1) := by decide +kernel
theorem dX0_passSunday_94 : decode cX0_passSunday 94 = .ok (.if_icmp .eq 7, 3) := by decide +kernel
theorem dX0_passSunday_97 : decode cX0_passSunday 97 = .ok (.iconst 1, 1) := by decide +kernel
theorem dX0_passSunday_98 : decode cX0_passSunday 98 = .ok (.goto 4, 3) := by decide +kernel
theorem dX0_passSunday_101 : decode cX0_passSunday 101 = .ok (.iconst 0, 1) := by decide +kernel
theorem dX0_passSunday_102 : decode cX0_passSunday 102 = .ok (.istore_n 1, 1) := by decide +kernel
theorem dX0_passSunday_103 : decode cX0_passSunday 103 = .ok (.aload_n 0, 1) := by decide +kernel
theorem dX0_passSunday_104 : decode cX0_passSunday 104 = .ok (.getfield 18, 3) := by decide +kernel
theorem dX0_passSunday_107 : decode cX0_passSunday 107 = .ok (.iload_n 2, 1) := by decide +kernel
theorem dX0_passSunday_108 : decode cX0_passSunday 108 = .ok (.iload_n 3, 1) := by decide +kernel
theorem dX0_passSunday_109 : decode cX0_passSunday 109 = .ok (.iastore, 1) := by decide +kernel
theorem dX0_passSunday_110 : decode cX0_passSunday 110 = .ok (.iinc 2 1, 3) := by decide +kernel
theorem dX0_passSunday_113 : decode cX0_passSunday 113 = .ok (.goto (-55), 3) := by decide +kernel
theorem dX0_passSunday_116 : decode cX0_passSunday 116 = .ok (.iload_n 1, 1) := by decide +kernel
theorem dX0_passSunday_117 : decode cX0_passSunday 117 = .ok (.ireturn, 1) := by decide +kernel
theorem dX0_gladBehind_0 : decode cX0_gladBehind 0 = .ok (.iconst 1, 1) := by decide +kernel
theorem dX0_gladBehind_1 : decode cX0_gladBehind 1 = .ok (.istore_n 2, 1) := by decide +kernel
theorem dX0_gladBehind_2 : decode cX0_gladBehind 2 = .ok (.iconst 0, 1) := by decide +kernel
theorem dX0_gladBehind_3 : decode cX0_gladBehind 3 = .ok (.istore_n 3, 1) := by decide +kernel
theorem dX0_gladBehind_4 : decode cX0_gladBehind 4 = .ok (.iload_n 3, 1) := by decide +kernel
theorem dX0_gladBehind_5 : decode cX0_gladBehind 5 = .ok (.iload_n 1, 1) := by decide +kernel
theorem dX0_gladBehind_6 : decode cX0_gladBehind 6 = .ok (.if_icmp .ge 18, 3) := by decide +kernel
theorem dX0_gladBehind_9 : decode cX0_gladBehind 9 = .ok (.iload_n 2, 1) := by decide +kernel
theorem dX0_gladBehind_10 : decode cX0_gladBehind 10 = .ok (.ifCond .eq 14, 3) := by decide +kernel
theorem dX0_gladBehind_13 : decode cX0_gladBehind 13 = .ok (.aload_n 0, 1) := by decide +kernel
theorem dX0_gladBehind_14 : decode cX0_gladBehind 14 = .ok (.invokevirtual 100, 3) := by decide +kernel
theorem dX0_gladBehind_17 : decode cX0_gladBehind 17 = .ok (.istore_n 2, 1) := by decide +kernel
theorem dX0_gladBehind_18 : decode cX0_gladBehind 18 = .ok (.iinc 3 1, 3) := by decide +kernel
theorem dX0_gladBehind_21 : decode cX0_gladBehind 21 = .ok (.goto (-17), 3) := by decide +kernel
theorem dX0_gladBehind_24 : decode cX0_gladBehind 24 = .ok (.aload_n 0, 1) := by decide +kernel
theorem dX0_gladBehind_25 : decode cX0_gladBehind 25 = .ok (.invokevirtual 104, 3) := by decide +kernel
theorem dX0_gladBehind_28 : decode cX0_gladBehind 28 = .ok (.ireturn, 1) := by decide +kernel
theorem dX0_emptyBehind_0 : decode cX0_emptyBehind 0 = .ok (.iconst 0, 1) := by decide +kernel
theorem dX0_emptyBehind_1 : decode cX0_emptyBehind 1 = .ok (.istore_n 2, 1) := by decide +kernel
theorem dX0_emptyBehind_2 : decode cX0_emptyBehind 2 = .ok (.iconst 0, 1) := by decide +kernel
theorem dX0_emptyBehind_3 : decode cX0_emptyBehind 3 = .ok (.istore_n 3, 1) := by decide +kernel
theorem dX0_emptyBehind_4 : decode cX0_emptyBehind 4 = .ok (.iload_n 3, 1) := by decide +kernel
theorem dX0_emptyBehind_5 : decode cX0_emptyBehind 5 = .ok (.iload_n 1, 1) := by decide +kernel
theorem dX0_emptyBehind_6 : decode cX0_emptyBehind 6 = .ok (.if_icmp .ge 48, 3) := by decide +kernel
theorem dX0_emptyBehind_9 : decode cX0_emptyBehind 9 = .ok (.iconst 0, 1) := by decide +kernel
theorem dX0_emptyBehind_10 : decode cX0_emptyBehind 10 = .ok (.istore 4, 2) := by decide +kernel
theorem dX0_emptyBehind_12 : decode cX0_emptyBehind 12 = .ok (.iload 4, 2) := by decide +kernel
theorem dX0_emptyBehind_14 : decode cX0_emptyBehind 14 = .ok (.aload_n 0, 1) := by decide +kernel
theorem dX0_emptyBehind_15 : decode cX0_emptyBehind 15 = .ok (.getfield 41, 3) := by decide +kernel
theorem dX0_emptyBehind_18 : decode cX0_emptyBehind 18 = .ok (.if_icmp .ge 25, 3) := by decide +kernel
theorem dX0_emptyBehind_21 : decode cX0_emptyBehind 21 = .ok (.iload_n 2, 1) := by decide +kernel
theorem dX0_emptyBehind_22 : decode cX0_emptyBehind 22 = .ok (.aload_n 0, 1) := by decide +kernel
theorem dX0_emptyBehind_23 : decode cX0_emptyBehind 23 = .ok (.getfield 41, 3) := by decide +kernel
theorem dX0_emptyBehind_26 : decode cX0_emptyBehind 26 = .ok (.iconst 1, 1) := by decide +kernel
theorem dX0_emptyBehind_27 : decode cX0_emptyBehind 27 = .ok (.isub, 1) := by decide +kernel
theorem dX0_emptyBehind_28 : decode cX0_emptyBehind 28 = .ok (.aload_n 0, 1) := by decide +kernel
theorem dX0_emptyBehind_29 : decode cX0_emptyBehind 29 = .ok (.iload 4, 2) := by decide +kernel
theorem dX0_emptyBehind_31 : decode cX0_emptyBehind 31 = .ok (.invokevirtual 108, 3) := by decide +kernel
theorem dX0_emptyBehind_34 : decode cX0_emptyBehind 34 = .ok (.isub, 1) := by decide +kernel
theorem dX0_emptyBehind_35 : decode cX0_emptyBehind 35 = .ok (.iadd, 1) := by decide +kernel
theorem dX0_emptyBehind_36 : decode cX0_emptyBehind 36 = .ok (.istore_n 2, 1) := by decide +kernel
theorem dX0_emptyBehind_37 : decode cX0_emptyBehind 37 = .ok (.iinc 4 1, 3) := by decide +kernel
theorem dX0_emptyBehind_40 : decode cX0_emptyBehind 40 = .ok (.goto (-28), 3) := by decide +kernel
theorem dX0_emptyBehind_43 : decode cX0_emptyBehind 43 = .ok (.aload_n 0, 1) := by decide +kernel
theorem dX0_emptyBehind_44 : decode cX0_emptyBehind 44 = .ok (.invokevirtual 100, 3) := by decide +kernel
theorem dX0_emptyBehind_47 : decode cX0_emptyBehind 47 = .ok (.pop, 1) := by decide +kernel
theorem dX0_emptyBehind_48 : decode cX0_emptyBehind 48 = .ok (.iinc 3 1, 3) := by decide +kernel
theorem dX0_emptyBehind_51 : decode cX0_emptyBehind 51 = .ok (.goto (-47), 3) := by decide +kernel
theorem dX0_emptyBehind_54 : decode cX0_emptyBehind 54 = .ok (.iload_n 2, 1) := by decide +kernel
theorem dX0_emptyBehind_55 : decode cX0_emptyBehind 55 = .ok (.ireturn, 1) := by decide +kernel
theorem dX0_firstOtherwise_0 : decode cX0_firstOtherwise 0 = .ok (.iconst 0, 1) := by decide +kernel
theorem dX0_firstOtherwise_1 : decode cX0_firstOtherwise 1 = .ok (.istore_n 3, 1) := by decide +kernel
theorem dX0_firstOtherwise_2 : decode cX0_firstOtherwise 2 = .ok (.iload_n 3, 1) := by decide +kernel
theorem dX0_firstOtherwise_3 : decode cX0_firstOtherwise 3 = .ok (.aload_n 1, 1) := by decide +kernel
theorem dX0_firstOtherwise_4 : decode cX0_firstOtherwise 4 = .ok (.getfield 111, 3) := by decide +kernel
theorem dX0_firstOtherwise_7 : decode cX0_firstOtherwise 7 = .ok (.if_icmp .ge 31, 3) := by decide +kernel
theorem dX0_firstOtherwise_10 : decode cX0_firstOtherwise 10 = .ok (.aload_n 0, 1) := by decide +kernel
theorem dX0_firstOtherwise_11 : decode cX0_firstOtherwise 11 = .ok (.invokevirtual 100, 3) := by decide +kernel
theorem dX0_firstOtherwise_14 : decode cX0_firstOtherwise 14 = .ok (.pop, 1) := by decide +kernel
theorem dX0_firstOtherwise_15 : decode cX0_firstOtherwise 15 = .ok (.aload_n 1, 1) := by decide +kernel
theorem dX0_firstOtherwise_16 : decode cX0_firstOtherwise 16 = .ok (.getfield 114, 3) := by decide +kernel
theorem dX0_firstOtherwise_19 : decode cX0_firstOtherwise 19 = .ok (.iload_n 3, 1) := by decide +kernel
theorem dX0_firstOtherwise_20 : decode cX0_firstOtherwise 20 = .ok (.iaload, 1) := by decide +kernel
theorem dX0_firstOtherwise_21 : decode cX0_firstOtherwise 21 = .ok (.aload_n 0, 1) := by decide +kernel
theorem dX0_firstOtherwise_22 : decode cX0_firstOtherwise 22 = .ok (.getfield 18, 3) := by decide +kernel
theorem dX0_firstOtherwise_25 : decode cX0_firstOtherwise 25 = .ok (.iload_n 2, 1) := by decide +kernel
theorem dX0_firstOtherwise_26 : decode cX0_firstOtherwise 26 = .ok (.iaload, 1) := by decide +kernel
theorem dX0_firstOtherwise_27 : decode cX0_firstOtherwise 27 = .ok (.if_icmp .eq 5, 3) := by decide +kernel
theorem dX0_firstOtherwise_30 : decode cX0_firstOtherwise 30 = .ok (.iload_n 3, 1) := by decide +kernel
theorem dX0_firstOtherwise_31 : decode cX0_firstOtherwise 31 = .ok (.ireturn, 1) := by decide +kernel
theorem dX0_firstOtherwise_32 : decode cX0_firstOtherwise 32 = .ok (.iinc 3 1, 3) := by decide +kernel
theorem dX0_firstOtherwise_35 : decode cX0_firstOtherwise 35 = .ok (.goto (-33), 3) := by decide +kernel
theorem dX0_firstOtherwise_38 : decode cX0_firstOtherwise 38 = .ok (.iconst (-1), 1) := by decide +kernel
theorem dX0_firstOtherwise_39 : decode cX0_firstOtherwise 39 = .ok (.ireturn, 1) := by decide +kernel
theorem dX0_filledFrom_0 : decode cX0_filledFrom 0 = .ok (.iconst 0, 1) := by decide +kernel
theorem dX0_filledFrom_1 : decode cX0_filledFrom 1 = .ok (.istore_n 2, 1) := by decide +kernel
theorem dX0_filledFrom_2 : decode cX0_filledFrom 2 = .ok (.iconst 0, 1) := by decide +kernel
theorem dX0_filledFrom_3 : decode cX0_filledFrom 3 = .ok (.istore_n 3, 1) := by decide +kernel
theorem dX0_filledFrom_4 : decode cX0_filledFrom 4 = .ok (.iload_n 3, 1) := by decide +kernel
theorem dX0_filledFrom_5 : decode cX0_filledFrom 5 = .ok (.aload_n 0, 1) := by decide +kernel
theorem dX0_filledFrom_6 : decode cX0_filledFrom 6 = .ok (.getfield 41, 3) := by decide +kernel
theorem dX0_filledFrom_9 : decode cX0_filledFrom 9 = .ok (.if_icmp .ge 21, 3) := by decide +kernel
theorem dX0_filledFrom_12 : decode cX0_filledFrom 12 = .ok (.aload_n 0, 1) := by decide +kernel
theorem dX0_filledFrom_13 : decode cX0_filledFrom 13 = .ok (.iload_n 1, 1) := by decide +kernel
theorem dX0_filledFrom_14 : decode cX0_filledFrom 14 = .ok (.iload_n 3, 1) := by decide +kernel
theorem dX0_filledFrom_15 : decode cX0_filledFrom 15 = .ok (.invokevirtual 90, 3) := by decide +kernel
theorem dX0_filledFrom_18 : decode cX0_filledFrom 18 = .ok (.ifCond .eq 6, 3) := by decide +kernel
theorem dX0_filledFrom_21 : decode cX0_filledFrom 21 = .ok (.iinc 2 1, 3) := by decide +kernel
theorem dX0_filledFrom_24 : decode cX0_filledFrom 24 = .ok (.iinc 3 1, 3) := by decide +kernel
theorem dX0_filledFrom_27 : decode cX0_filledFrom 27 = .ok (.goto (-23), 3) := by decide +kernel
theorem dX0_filledFrom_30 : decode cX0_filledFrom 30 = .ok (.iload_n 2, 1) := by decide +kernel
theorem dX0_filledFrom_31 : decode cX0_filledFrom 31 = .ok (.ireturn, 1) := by decide +kernel
theorem dX0_layersTo_0 : decode cX0_layersTo 0 = .ok (.iconst 0, 1) := by decide +kernel
theorem dX0_layersTo_1 : decode cX0_layersTo 1 = .ok (.istore_n 2, 1) := by decide +kernel
theorem dX0_layersTo_2 : decode cX0_layersTo 2 = .ok (.iconst 0, 1) := by decide +kernel
theorem dX0_layersTo_3 : decode cX0_layersTo 3 = .ok (.istore_n 3, 1) := by decide +kernel
theorem dX0_layersTo_4 : decode cX0_layersTo 4 = .ok (.iload_n 3, 1) := by decide +kernel
theorem dX0_layersTo_5 : decode cX0_layersTo 5 = .ok (.aload_n 0, 1) := by decide +kernel
theorem dX0_layersTo_6 : decode cX0_layersTo 6 = .ok (.getfield 41, 3) := by decide +kernel
theorem dX0_layersTo_9 : decode cX0_layersTo 9 = .ok (.if_icmp .ge 21, 3) := by decide +kernel
theorem dX0_layersTo_12 : decode cX0_layersTo 12 = .ok (.iload_n 2, 1) := by decide +kernel
theorem dX0_layersTo_13 : decode cX0_layersTo 13 = .ok (.aload_n 0, 1) := by decide +kernel
theorem dX0_layersTo_14 : decode cX0_layersTo 14 = .ok (.iload_n 3, 1) := by decide +kernel
theorem dX0_layersTo_15 : decode cX0_layersTo 15 = .ok (.iload_n 1, 1) := by decide +kernel
theorem dX0_layersTo_16 : decode cX0_layersTo 16 = .ok (.invokevirtual 90, 3) := by decide +kernel
theorem dX0_layersTo_19 : decode cX0_layersTo 19 = .ok (.invokestatic 117, 3) := by decide +kernel
theorem dX0_layersTo_22 : decode cX0_layersTo 22 = .ok (.iadd, 1) := by decide +kernel
theorem dX0_layersTo_23 : decode cX0_layersTo 23 = .ok (.istore_n 2, 1) := by decide +kernel
theorem dX0_layersTo_24 : decode cX0_layersTo 24 = .ok (.iinc 3 1, 3) := by decide +kernel
theorem dX0_layersTo_27 : decode cX0_layersTo 27 = .ok (.goto (-23), 3) := by decide +kernel
theorem dX0_layersTo_30 : decode cX0_layersTo 30 = .ok (.iload_n 2, 1) := by decide +kernel
theorem dX0_layersTo_31 : decode cX0_layersTo 31 = .ok (.ireturn, 1) := by decide +kernel
theorem dX0_lettuceCount_0 : decode cX0_lettuceCount 0 = .ok (.iconst 0, 1) := by decide +kernel
theorem dX0_lettuceCount_1 : decode cX0_lettuceCount 1 = .ok (.istore_n 1, 1) := by decide +kernel
theorem dX0_lettuceCount_2 : decode cX0_lettuceCount 2 = .ok (.iconst 0, 1) := by decide +kernel
theorem dX0_lettuceCount_3 : decode cX0_lettuceCount 3 = .ok (.istore_n 2, 1) := by decide +kernel
theorem dX0_lettuceCount_4 : decode cX0_lettuceCount 4 = .ok (.iload_n 2, 1) := by decide +kernel
theorem dX0_lettuceCount_5 : decode cX0_lettuceCount 5 = .ok (.aload_n 0, 1) := by decide +kernel
theorem dX0_lettuceCount_6 : decode cX0_lettuceCount 6 = .ok (.getfield 41, 3) := by decide +kernel
theorem dX0_lettuceCount_9 : decode cX0_lettuceCount 9 = .ok (.if_icmp .ge 38, 3) := by decide +kernel
theorem dX0_lettuceCount_12 : decode cX0_lettuceCount 12 = .ok (.iconst 0, 1) := by decide +kernel
theorem dX0_lettuceCount_13 : decode cX0_lettuceCount 13 = .ok (.istore_n 3, 1) := by decide +kernel
theorem dX0_lettuceCount_14 : decode cX0_lettuceCount 14 = .ok (.iload_n 3, 1) := by decide +kernel
theorem dX0_lettuceCount_15 : decode cX0_lettuceCount 15 = .ok (.aload_n 0, 1) := by decide +kernel
theorem dX0_lettuceCount_16 : decode cX0_lettuceCount 16 = .ok (.getfield 41, 3) := by decide +kernel
theorem dX0_lettuceCount_19 : decode cX0_lettuceCount 19 = .ok (.if_icmp .ge 22, 3) := by decide +kernel
theorem dX0_lettuceCount_22 : decode cX0_lettuceCount 22 = .ok (.aload_n 0, 1) := by decide +kernel
theorem dX0_lettuceCount_23 : decode cX0_lettuceCount 23 = .ok (.iload_n 2, 1) := by decide +kernel
theorem dX0_lettuceCount_24 : decode cX0_lettuceCount 24 = .ok (.iload_n 3, 1) := by decide +kernel
theorem dX0_lettuceCount_25 : decode cX0_lettuceCount 25 = .ok (.invokevirtual 90, 3) := by decide +kernel
theorem dX0_lettuceCount_28 : decode cX0_lettuceCount 28 = .ok (.iconst 1, 1) := by decide +kernel
theorem dX0_lettuceCount_29 : decode cX0_lettuceCount 29 = .ok (.if_icmp .ne 6, 3) := by decide +kernel
theorem dX0_lettuceCount_32 : decode cX0_lettuceCount 32 = .ok (.iinc 1 1, 3) := by decide +kernel
theorem dX0_lettuceCount_35 : decode cX0_lettuceCount 35 = .ok (.iinc 3 1, 3) := by decide +kernel
theorem dX0_lettuceCount_38 : decode cX0_lettuceCount 38 = .ok (.goto (-24), 3) := by decide +kernel
theorem dX0_lettuceCount_41 : decode cX0_lettuceCount 41 = .ok (.iinc 2 1, 3) := by decide +kernel
theorem dX0_lettuceCount_44 : decode cX0_lettuceCount 44 = .ok (.goto (-40), 3) := by decide +kernel
theorem dX0_lettuceCount_47 : decode cX0_lettuceCount 47 = .ok (.iload_n 1, 1) := by decide +kernel
theorem dX0_lettuceCount_48 : decode cX0_lettuceCount 48 = .ok (.ireturn, 1) := by decide +kernel
theorem dX0_lettuceFirst_0 : decode cX0_lettuceFirst 0 = .ok (.iconst 0, 1) := by decide +kernel
theorem dX0_lettuceFirst_1 : decode cX0_lettuceFirst 1 = .ok (.istore_n 1, 1) := by decide +kernel
theorem dX0_lettuceFirst_2 : decode cX0_lettuceFirst 2 = .ok (.iload_n 1, 1) := by decide +kernel
theorem dX0_lettuceFirst_3 : decode cX0_lettuceFirst 3 = .ok (.aload_n 0, 1) := by decide +kernel
theorem dX0_lettuceFirst_4 : decode cX0_lettuceFirst 4 = .ok (.getfield 41, 3) := by decide +kernel
theorem dX0_lettuceFirst_7 : decode cX0_lettuceFirst 7 = .ok (.if_icmp .ge 42, 3) := by decide +kernel
theorem dX0_lettuceFirst_10 : decode cX0_lettuceFirst 10 = .ok (.iconst 0, 1) := by decide +kernel
theorem dX0_lettuceFirst_11 : decode cX0_lettuceFirst 11 = .ok (.istore_n 2, 1) := by decide +kernel
theorem dX0_lettuceFirst_12 : decode cX0_lettuceFirst 12 = .ok (.iload_n 2, 1) := by decide +kernel
theorem dX0_lettuceFirst_13 : decode cX0_lettuceFirst 13 = .ok (.aload_n 0, 1) := by decide +kernel
theorem dX0_lettuceFirst_14 : decode cX0_lettuceFirst 14 = .ok (.getfield 41, 3) := by decide +kernel
theorem dX0_lettuceFirst_17 : decode cX0_lettuceFirst 17 = .ok (.if_icmp .ge 26, 3) := by decide +kernel
theorem dX0_lettuceFirst_20 : decode cX0_lettuceFirst 20 = .ok (.aload_n 0, 1) := by decide +kernel
theorem dX0_lettuceFirst_21 : decode cX0_lettuceFirst 21 = .ok (.iload_n 1, 1) := by decide +kernel
theorem dX0_lettuceFirst_22 : decode cX0_lettuceFirst 22 = .ok (.iload_n 2, 1) := by decide +kernel
theorem dX0_lettuceFirst_23 : decode cX0_lettuceFirst 23 = .ok (.invokevirtual 90, 3) := by decide +kernel
theorem dX0_lettuceFirst_26 : decode cX0_lettuceFirst 26 = .ok (.iconst 1, 1) := by decide +kernel
theorem dX0_lettuceFirst_27 : decode cX0_lettuceFirst 27 = .ok (.if_icmp .ne 10, 3) := by decide +kernel
theorem dX0_lettuceFirst_30 : decode cX0_lettuceFirst 30 = .ok (.bipush 10, 2) := by decide +kernel
theorem dX0_lettuceFirst_32 : decode cX0_lettuceFirst 32 = .ok (.iload_n 1, 1) := by decide +kernel
theorem dX0_lettuceFirst_33 : decode cX0_lettuceFirst 33 = .ok (.imul, 1) := by decide +kernel
theorem dX0_lettuceFirst_34 : decode cX0_lettuceFirst 34 = .ok (.iload_n 2, 1) := by decide +kernel
theorem dX0_lettuceFirst_35 : decode cX0_lettuceFirst 35 = .ok (.iadd, 1) := by decide +kernel
theorem dX0_lettuceFirst_36 : decode cX0_lettuceFirst 36 = .ok (.ireturn, 1) := by decide +kernel
theorem dX0_lettuceFirst_37 : decode cX0_lettuceFirst 37 = .ok (.iinc 2 1, 3) := by decide +kernel
theorem dX0_lettuceFirst_40 : decode cX0_lettuceFirst 40 = .ok (.goto (-28), 3) := by decide +kernel
theorem dX0_lettuceFirst_43 : decode cX0_lettuceFirst 43 = .ok (.iinc 1 1, 3) := by decide +kernel
theorem dX0_lettuceFirst_46 : decode cX0_lettuceFirst 46 = .ok (.goto (-44), 3) := by decide +kernel
theorem dX0_lettuceFirst_49 : decode cX0_lettuceFirst 49 = .ok (.iconst (-1), 1) := by decide +kernel
theorem dX0_lettuceFirst_50 : decode cX0_lettuceFirst 50 = .ok (.ireturn, 1) := by decide +kernel
theorem dX0_leftAlone_0 : decode cX0_leftAlone 0 = .ok (.iconst 0, 1) := by decide +kernel
theorem dX0_leftAlone_1 : decode cX0_leftAlone 1 = .ok (.istore_n 1, 1) := by decide +kernel
theorem dX0_leftAlone_2 : decode cX0_leftAlone 2 = .ok (.iconst 0, 1) := by decide +kernel
theorem dX0_leftAlone_3 : decode cX0_leftAlone 3 = .ok (.istore_n 2, 1) := by decide +kernel
theorem dX0_leftAlone_4 : decode cX0_leftAlone 4 = .ok (.iload_n 2, 1) := by decide +kernel
theorem dX0_leftAlone_5 : decode cX0_leftAlone 5 = .ok (.aload_n 0, 1) := by decide +kernel
theorem dX0_leftAlone_6 : decode cX0_leftAlone 6 = .ok (.getfield 41, 3) := by decide +kernel
theorem dX0_leftAlone_9 : decode cX0_leftAlone 9 = .ok (.if_icmp .ge 23, 3) := by decide +kernel
theorem dX0_leftAlone_12 : decode cX0_leftAlone 12 = .ok (.aload_n 0, 1) := by decide +kernel
theorem dX0_leftAlone_13 : decode cX0_leftAlone 13 = .ok (.iload_n 2, 1) := by decide +kernel
theorem dX0_leftAlone_14 : decode cX0_leftAlone 14 = .ok (.invokevirtual 122, 3) := by decide +kernel
theorem dX0_leftAlone_17 : decode cX0_leftAlone 17 = .ok (.ifCond .ne 9, 3) := by decide +kernel
theorem dX0_leftAlone_20 : decode cX0_leftAlone 20 = .ok (.iload_n 1, 1) := by decide +kernel
theorem dX0_leftAlone_21 : decode cX0_leftAlone 21 = .ok (.iconst 1, 1) := by decide +kernel
theorem dX0_leftAlone_22 : decode cX0_leftAlone 22 = .ok (.iload_n 2, 1) := by decide +kernel
theorem dX0_leftAlone_23 : decode cX0_leftAlone 23 = .ok (.ishl, 1) := by decide +kernel
theorem dX0_leftAlone_24 : decode cX0_leftAlone 24 = .ok (.ior, 1) := by decide +kernel
theorem dX0_leftAlone_25 : decode cX0_leftAlone 25 = .ok (.istore_n 1, 1) := by decide +kernel
theorem dX0_leftAlone_26 : decode cX0_leftAlone 26 = .ok (.iinc 2 1, 3) := by decide +kernel
theorem dX0_leftAlone_29 : decode cX0_leftAlone 29 = .ok (.goto (-25), 3) := by decide +kernel
theorem dX0_leftAlone_32 : decode cX0_leftAlone 32 = .ok (.iload_n 1, 1) := by decide +kernel
theorem dX0_leftAlone_33 : decode cX0_leftAlone 33 = .ok (.ireturn, 1) := by decide +kernel
theorem dX1_init_0 : decode cX1_init 0 = .ok (.aload_n 0, 1) := by decide +kernel
theorem dX1_init_1 : decode cX1_init 1 = .ok (.invokespecial 3, 3) := by decide +kernel
theorem dX1_init_4 : decode cX1_init 4 = .ok (.aload_n 0, 1) := by decide +kernel
theorem dX1_init_5 : decode cX1_init 5 = .ok (.sipush 160, 3) := by decide +kernel
theorem dX1_init_8 : decode cX1_init 8 = .ok (.newarray .int, 2) := by decide +kernel
theorem dX1_init_10 : decode cX1_init 10 = .ok (.putfield 9, 3) := by decide +kernel
theorem dX1_init_13 : decode cX1_init 13 = .ok (.return_, 1) := by decide +kernel
theorem dX1_takeByte_0 : decode cX1_takeByte 0 = .ok (.aload_n 0, 1) := by decide +kernel
theorem dX1_takeByte_1 : decode cX1_takeByte 1 = .ok (.getfield 15, 3) := by decide +kernel
theorem dX1_takeByte_4 : decode cX1_takeByte 4 = .ok (.sipush 160, 3) := by decide +kernel
theorem dX1_takeByte_7 : decode cX1_takeByte 7 = .ok (.if_icmp .lt 5, 3) := by decide +kernel
theorem dX1_takeByte_10 : decode cX1_takeByte 10 = .ok (.iconst 0, 1) := by decide +kernel
theorem dX1_takeByte_11 : decode cX1_takeByte 11 = .ok (.ireturn, 1) := by decide +kernel
theorem dX1_takeByte_12 : decode cX1_takeByte 12 = .ok (.aload_n 0, 1) := by decide +kernel
theorem dX1_takeByte_13 : decode cX1_takeByte 13 = .ok (.getfield 9, 3) := by decide +kernel
theorem dX1_takeByte_16 : decode cX1_takeByte 16 = .ok (.aload_n 0, 1) := by decide +kernel
theorem dX1_takeByte_17 : decode cX1_takeByte 17 = .ok (.getfield 15, 3) := by decide +kernel
theorem dX1_takeByte_20 : decode cX1_takeByte 20 = .ok (.iload_n 1, 1) := by decide +kernel
theorem dX1_takeByte_21 : decode cX1_takeByte 21 = .ok (.iastore, 1) := by decide +kernel
theorem dX1_takeByte_22 : decode cX1_takeByte 22 = .ok (.aload_n 0, 1) := by decide +kernel
theorem dX1_takeByte_23 : decode cX1_takeByte 23 = .ok (.dup, 1) := by decide +kernel
theorem dX1_takeByte_24 : decode cX1_takeByte 24 = .ok (.getfield 15, 3) := by decide +kernel
theorem dX1_takeByte_27 : decode cX1_takeByte 27 = .ok (.iconst 1, 1) := by decide +kernel
theorem dX1_takeByte_28 : decode cX1_takeByte 28 = .ok (.iadd, 1) := by decide +kernel
theorem dX1_takeByte_29 : decode cX1_takeByte 29 = .ok (.putfield 15, 3) := by decide +kernel
theorem dX1_takeByte_32 : decode cX1_takeByte 32 = .ok (.iconst 1, 1) := by decide +kernel
theorem dX1_takeByte_33 : decode cX1_takeByte 33 = .ok (.ireturn, 1) := by decide +kernel
theorem dX1_readInto_0 : decode cX1_readInto 0 = .ok (.aload_n 0, 1) := by decide +kernel
theorem dX1_readInto_1 : decode cX1_readInto 1 = .ok (.aload_n 1, 1) := by decide +kernel
theorem dX1_readInto_2 : decode cX1_readInto 2 = .ok (.putfield 19, 3) := by decide +kernel
theorem dX1_readInto_5 : decode cX1_readInto 5 = .ok (.aload_n 0, 1) := by decide +kernel
theorem dX1_readInto_6 : decode cX1_readInto 6 = .ok (.getfield 19, 3) := by decide +kernel
theorem dX1_readInto_9 : decode cX1_readInto 9 = .ok (.invokevirtual 23, 3) := by decide +kernel
theorem dX1_readInto_12 : decode cX1_readInto 12 = .ok (.aload_n 0, 1) := by decide +kernel
theorem dX1_readInto_13 : decode cX1_readInto 13 = .ok (.iconst 0, 1) := by decide +kernel
theorem dX1_readInto_14 : decode cX1_readInto 14 = .ok (.putfield 28, 3) := by decide +kernel
theorem dX1_readInto_17 : decode cX1_readInto 17 = .ok (.aload_n 0, 1) := by decide +kernel
theorem dX1_readInto_18 : decode cX1_readInto 18 = .ok (.iconst 0, 1) := by decide +kernel
theorem dX1_readInto_19 : decode cX1_readInto 19 = .ok (.putfield 31, 3) := by decide +kernel
theorem dX1_readInto_22 : decode cX1_readInto 22 = .ok (.aload_n 0, 1) := by decide +kernel
theorem dX1_readInto_23 : decode cX1_readInto 23 = .ok (.iconst (-1), 1) := by decide +kernel
theorem dX1_readInto_24 : decode cX1_readInto 24 = .ok (.putfield 34, 3) := by decide +kernel
theorem dX1_readInto_27 : decode cX1_readInto 27 = .ok (.aload_n 0, 1) := by decide +kernel
theorem dX1_readInto_28 : decode cX1_readInto 28 = .ok (.invokevirtual 37, 3) := by decide +kernel
theorem dX1_readInto_31 : decode cX1_readInto 31 = .ok (.iconst 0, 1) := by decide +kernel
theorem dX1_readInto_32 : decode cX1_readInto 32 = .ok (.istore_n 2, 1) := by decide +kernel
theorem dX1_readInto_33 : decode cX1_readInto 33 = .ok (.iload_n 2, 1) := by decide +kernel
theorem dX1_readInto_34 : decode cX1_readInto 34 = .ok (.iconst 3, 1) := by decide +kernel
theorem dX1_readInto_35 : decode cX1_readInto 35 = .ok (.if_icmp .ge 34, 3) := by decide +kernel
theorem dX1_readInto_38 : decode cX1_readInto 38 = .ok (.aload_n 0, 1) := by decide +kernel
theorem dX1_readInto_39 : decode cX1_readInto 39 = .ok (.getfield 19, 3) := by decide +kernel
theorem dX1_readInto_42 : decode cX1_readInto 42 = .ok (.iload_n 2, 1) := by decide +kernel
theorem dX1_readInto_43 : decode cX1_readInto 43 = .ok (.invokevirtual 40, 3) := by decide +kernel
theorem dX1_readInto_46 : decode cX1_readInto 46 = .ok (.aload_n 0, 1) := by decide +kernel
theorem dX1_readInto_47 : decode cX1_readInto 47 = .ok (.iconst 4, 1) := by decide +kernel
theorem dX1_readInto_48 : decode cX1_readInto 48 = .ok (.iload_n 2, 1) := by decide +kernel
theorem dX1_readInto_49 : decode cX1_readInto 49 = .ok (.iadd, 1) := by decide +kernel
theorem dX1_readInto_50 : decode cX1_readInto 50 = .ok (.invokevirtual 44, 3) := by decide +kernel
theorem dX1_readInto_53 : decode cX1_readInto 53 = .ok (.aload_n 0, 1) := by decide +kernel
theorem dX1_readInto_54 : decode cX1_readInto 54 = .ok (.invokevirtual 47, 3) := by decide +kernel
theorem dX1_readInto_57 : decode cX1_readInto 57 = .ok (.aload_n 0, 1) := by decide +kernel
theorem dX1_readInto_58 : decode cX1_readInto 58 = .ok (.bipush 59, 2) := by decide +kernel
theorem dX1_readInto_60 : decode cX1_readInto 60 = .ok (.invokevirtual 44, 3) := by decide +kernel
theorem dX1_readInto_63 : decode cX1_readInto 63 = .ok (.iinc 2 1, 3) := by decide +kernel
theorem dX1_readInto_66 : decode cX1_readInto 66 = .ok (.goto (-33), 3) := by decide +kernel
theorem dX1_readInto_69 : decode cX1_readInto 69 = .ok (.aload_n 0, 1) := by decide +kernel
theorem dX1_readInto_70 : decode cX1_readInto 70 = .ok (.getfield 19, 3) := by decide +kernel
theorem dX1_readInto_73 : decode cX1_readInto 73 = .ok (.iconst 3, 1) := by decide +kernel
theorem dX1_readInto_74 : decode cX1_readInto 74 = .ok (.invokevirtual 40, 3) := by decide +kernel
theorem dX1_readInto_77 : decode cX1_readInto 77 = .ok (.aload_n 0, 1) := by decide +kernel
theorem dX1_readInto_78 : decode cX1_readInto 78 = .ok (.iconst 0, 1) := by decide +kernel
theorem dX1_readInto_79 : decode cX1_readInto 79 = .ok (.invokevirtual 44, 3) := by decide +kernel
theorem dX1_readInto_82 : decode cX1_readInto 82 = .ok (.aload_n 0, 1) := by decide +kernel
theorem dX1_readInto_83 : decode cX1_readInto 83 = .ok (.getfield 34, 3) := by decide +kernel
theorem dX1_readInto_86 : decode cX1_readInto 86 = .ok (.ireturn, 1) := by decide +kernel
theorem dX1_pass_0 : decode cX1_pass 0 = .ok (.aload_n 0, 1) := by decide +kernel
theorem dX1_pass_1 : decode cX1_pass 1 = .ok (.getfield 50, 3) := by decide +kernel
theorem dX1_pass_4 : decode cX1_pass 4 = .ok (.iload_n 1, 1) := by decide +kernel
theorem dX1_pass_5 : decode cX1_pass 5 = .ok (.if_icmp .ne 10, 3) := by decide +kernel
theorem dX1_pass_8 : decode cX1_pass 8 = .ok (.aload_n 0, 1) := by decide +kernel
theorem dX1_pass_9 : decode cX1_pass 9 = .ok (.invokevirtual 37, 3) := by decide +kernel
theorem dX1_pass_12 : decode cX1_pass 12 = .ok (.goto 7, 3) := by decide +kernel
theorem dX1_pass_15 : decode cX1_pass 15 = .ok (.aload_n 0, 1) := by decide +kernel
theorem dX1_pass_16 : decode cX1_pass 16 = .ok (.invokevirtual 53, 3) := by decide +kernel
theorem dX1_pass_19 : decode cX1_pass 19 = .ok (.return_, 1) := by decide +kernel
theorem dX1_fail_0 : decode cX1_fail 0 = .ok (.aload_n 0, 1) := by decide +kernel
theorem dX1_fail_1 : decode cX1_fail 1 = .ok (.getfield 34, 3) := by decide +kernel
theorem dX1_fail_4 : decode cX1_fail 4 = .ok (.iconst (-1), 1) := by decide +kernel
theorem dX1_fail_5 : decode cX1_fail 5 = .ok (.if_icmp .ne 11, 3) := by decide +kernel
theorem dX1_fail_8 : decode cX1_fail 8 = .ok (.aload_n 0, 1) := by decide +kernel
theorem dX1_fail_9 : decode cX1_fail 9 = .ok (.aload_n 0, 1) := by decide +kernel
theorem dX1_fail_10 : decode cX1_fail 10 = .ok (.getfield 56, 3) := by decide +kernel
theorem dX1_fail_13 : decode cX1_fail 13 = .ok (.putfield 34, 3) := by decide +kernel
theorem dX1_fail_16 : decode cX1_fail 16 = .ok (.aload_n 0, 1) := by decide +kernel
theorem dX1_fail_17 : decode cX1_fail 17 = .ok (.iconst 1, 1) := by decide +kernel
theorem dX1_fail_18 : decode cX1_fail 18 = .ok (.putfield 50, 3) := by decide +kernel
theorem dX1_fail_21 : decode cX1_fail 21 = .ok (.return_, 1) := by decide +kernel
theorem dX1_readOr_0 : decode cX1_readOr 0 = .ok (.aload_n 0, 1) := by decide +kernel
theorem dX1_readOr_1 : decode cX1_readOr 1 = .ok (.invokevirtual 59, 3) := by decide +kernel
theorem dX1_readOr_4 : decode cX1_readOr 4 = .ok (.iconst 0, 1) := by decide +kernel
theorem dX1_readOr_5 : decode cX1_readOr 5 = .ok (.istore_n 1, 1) := by decide +kernel
theorem dX1_readOr_6 : decode cX1_readOr 6 = .ok (.iload_n 1, 1) := by decide +kernel
theorem dX1_readOr_7 : decode cX1_readOr 7 = .ok (.sipush 160, 3) := by decide +kernel
theorem dX1_readOr_10 : decode cX1_readOr 10 = .ok (.if_icmp .ge 35, 3) := by decide +kernel
theorem dX1_readOr_13 : decode cX1_readOr 13 = .ok (.aload_n 0, 1) := by decide +kernel
theorem dX1_readOr_14 : decode cX1_readOr 14 = .ok (.getfield 50, 3) := by decide +kernel
theorem dX1_readOr_17 : decode cX1_readOr 17 = .ok (.bipush 7, 2) := by decide +kernel
theorem dX1_readOr_19 : decode cX1_readOr 19 = .ok (.if_icmp .ne 26, 3) := by decide +kernel
theorem dX1_readOr_22 : decode cX1_readOr 22 = .ok (.aload_n 0, 1) := by decide +kernel
theorem dX1_readOr_23 : decode cX1_readOr 23 = .ok (.invokevirtual 37, 3) := by decide +kernel
theorem dX1_readOr_26 : decode cX1_readOr 26 = .ok (.aload_n 0, 1) := by decide +kernel
theorem dX1_readOr_27 : decode cX1_readOr 27 = .ok (.invokevirtual 59, 3) := by decide +kernel
theorem dX1_readOr_30 : decode cX1_readOr 30 = .ok (.aload_n 0, 1) := by decide +kernel
theorem dX1_readOr_31 : decode cX1_readOr 31 = .ok (.getfield 19, 3) := by decide +kernel
theorem dX1_readOr_34 : decode cX1_readOr 34 = .ok (.bipush (-9), 2) := by decide +kernel
theorem dX1_readOr_36 : decode cX1_readOr 36 = .ok (.invokevirtual 62, 3) := by decide +kernel
theorem dX1_readOr_39 : decode cX1_readOr 39 = .ok (.iinc 1 1, 3) := by decide +kernel
theorem dX1_readOr_42 : decode cX1_readOr 42 = .ok (.goto (-36), 3) := by decide +kernel
theorem dX1_readOr_45 : decode cX1_readOr 45 = .ok (.return_, 1) := by decide +kernel
theorem dX1_readAnd_0 : decode cX1_readAnd 0 = .ok (.aload_n 0, 1) := by decide +kernel
theorem dX1_readAnd_1 : decode cX1_readAnd 1 = .ok (.invokevirtual 65, 3) := by decide +kernel
theorem dX1_readAnd_4 : decode cX1_readAnd 4 = .ok (.iconst 0, 1) := by decide +kernel
theorem dX1_readAnd_5 : decode cX1_readAnd 5 = .ok (.istore_n 1, 1) := by decide +kernel
theorem dX1_readAnd_6 : decode cX1_readAnd 6 = .ok (.iload_n 1, 1) := by decide +kernel
theorem dX1_readAnd_7 : decode cX1_readAnd 7 = .ok (.sipush 160, 3) := by decide +kernel
theorem dX1_readAnd_10 : decode cX1_readAnd 10 = .ok (.if_icmp .ge 35, 3) := by decide +kernel
theorem dX1_readAnd_13 : decode cX1_readAnd 13 = .ok (.aload_n 0, 1) := by decide +kernel
theorem dX1_readAnd_14 : decode cX1_readAnd 14 = .ok (.getfield 50, 3) := by decide +kernel
theorem dX1_readAnd_17 : decode cX1_readAnd 17 = .ok (.bipush 8, 2) := by decide +kernel
theorem dX1_readAnd_19 : decode cX1_readAnd 19 = .ok (.if_icmp .ne 26, 3) := by decide +kernel
theorem dX1_readAnd_22 : decode cX1_readAnd 22 = .ok (.aload_n 0, 1) := by decide +kernel
theorem dX1_readAnd_23 : decode cX1_readAnd 23 = .ok (.invokevirtual 37, 3) := by decide +kernel
theorem dX1_readAnd_26 : decode cX1_readAnd 26 = .ok (.aload_n 0, 1) := by decide +kernel
theorem dX1_readAnd_27 : decode cX1_readAnd 27 = .ok (.invokevirtual 65, 3) := by decide +kernel
theorem dX1_readAnd_30 : decode cX1_readAnd 30 = .ok (.aload_n 0, 1) := by decide +kernel
theorem dX1_readAnd_31 : decode cX1_readAnd 31 = .ok (.getfield 19, 3) := by decide +kernel
theorem dX1_readAnd_34 : decode cX1_readAnd 34 = .ok (.bipush (-10), 2) := by decide +kernel
theorem dX1_readAnd_36 : decode cX1_readAnd 36 = .ok (.invokevirtual 62, 3) := by decide +kernel
theorem dX1_readAnd_39 : decode cX1_readAnd 39 = .ok (.iinc 1 1, 3) := by decide +kernel
theorem dX1_readAnd_42 : decode cX1_readAnd 42 = .ok (.goto (-36), 3) := by decide +kernel
theorem dX1_readAnd_45 : decode cX1_readAnd 45 = .ok (.return_, 1) := by decide +kernel
theorem dX1_readNot_0 : decode cX1_readNot 0 = .ok (.aload_n 0, 1) := by decide +kernel
theorem dX1_readNot_1 : decode cX1_readNot 1 = .ok (.getfield 50, 3) := by decide +kernel
theorem dX1_readNot_4 : decode cX1_readNot 4 = .ok (.bipush 9, 2) := by decide +kernel
theorem dX1_readNot_6 : decode cX1_readNot 6 = .ok (.if_icmp .eq 10, 3) := by decide +kernel
theorem dX1_readNot_9 : decode cX1_readNot 9 = .ok (.aload_n 0, 1) := by decide +kernel
theorem dX1_readNot_10 : decode cX1_readNot 10 = .ok (.invokevirtual 68, 3) := by decide +kernel
theorem dX1_readNot_13 : decode cX1_readNot 13 = .ok (.goto 33, 3) := by decide +kernel
theorem dX1_readNot_16 : decode cX1_readNot 16 = .ok (.aload_n 0, 1) := by decide +kernel
theorem dX1_readNot_17 : decode cX1_readNot 17 = .ok (.invokevirtual 71, 3) := by decide +kernel
theorem dX1_readNot_20 : decode cX1_readNot 20 = .ok (.ifCond .eq 26, 3) := by decide +kernel
theorem dX1_readNot_23 : decode cX1_readNot 23 = .ok (.aload_n 0, 1) := by decide +kernel
theorem dX1_readNot_24 : decode cX1_readNot 24 = .ok (.invokevirtual 65, 3) := by decide +kernel
theorem dX1_readNot_27 : decode cX1_readNot 27 = .ok (.aload_n 0, 1) := by decide +kernel
theorem dX1_readNot_28 : decode cX1_readNot 28 = .ok (.getfield 19, 3) := by decide +kernel
theorem dX1_readNot_31 : decode cX1_readNot 31 = .ok (.bipush (-7), 2) := by decide +kernel
theorem dX1_readNot_33 : decode cX1_readNot 33 = .ok (.invokevirtual 62, 3) := by decide +kernel
theorem dX1_readNot_36 : decode cX1_readNot 36 = .ok (.aload_n 0, 1) := by decide +kernel
theorem dX1_readNot_37 : decode cX1_readNot 37 = .ok (.dup, 1) := by decide +kernel
theorem dX1_readNot_38 : decode cX1_readNot 38 = .ok (.getfield 31, 3) := by decide +kernel
theorem dX1_readNot_41 : decode cX1_readNot 41 = .ok (.iconst 1, 1) := by decide +kernel
theorem dX1_readNot_42 : decode cX1_readNot 42 = .ok (.isub, 1) := by decide +kernel
theorem dX1_readNot_43 : decode cX1_readNot 43 = .ok (.putfield 31, 3) := by decide +kernel
theorem dX1_readNot_46 : decode cX1_readNot 46 = .ok (.return_, 1) := by decide +kernel
theorem dX1_readCompared_0 : decode cX1_readCompared 0 = .ok (.aload_n 0, 1) := by decide +kernel
theorem dX1_readCompared_1 : decode cX1_readCompared 1 = .ok (.invokevirtual 75, 3) := by decide +kernel
theorem dX1_readCompared_4 : decode cX1_readCompared 4 = .ok (.aload_n 0, 1) := by decide +kernel
theorem dX1_readCompared_5 : decode cX1_readCompared 5 = .ok (.getfield 50, 3) := by decide +kernel
theorem dX1_readCompared_8 : decode cX1_readCompared 8 = .ok (.bipush 60, 2) := by decide +kernel
theorem dX1_readCompared_10 : decode cX1_readCompared 10 = .ok (.if_icmp .eq 12, 3) := by decide +kernel
theorem dX1_readCompared_13 : decode cX1_readCompared 13 = .ok (.aload_n 0, 1) := by decide +kernel
theorem dX1_readCompared_14 : decode cX1_readCompared 14 = .ok (.getfield 50, 3) := by decide +kernel
theorem dX1_readCompared_17 : decode cX1_readCompared 17 = .ok (.bipush 61, 2) := by decide +kernel
theorem dX1_readCompared_19 : decode cX1_readCompared 19 = .ok (.if_icmp .ne 36, 3) := by decide +kernel
theorem dX1_readCompared_22 : decode cX1_readCompared 22 = .ok (.aload_n 0, 1) := by decide +kernel
theorem dX1_readCompared_23 : decode cX1_readCompared 23 = .ok (.getfield 50, 3) := by decide +kernel
theorem dX1_readCompared_26 : decode cX1_readCompared 26 = .ok (.bipush 60, 2) := by decide +kernel
theorem dX1_readCompared_28 : decode cX1_readCompared 28 = .ok (.if_icmp .ne 8, 3) := by decide +kernel
theorem dX1_readCompared_31 : decode cX1_readCompared 31 = .ok (.bipush (-11), 2) := by decide +kernel
theorem dX1_readCompared_33 : decode cX1_readCompared 33 = .ok (.goto 5, 3) := by decide +kernel
theorem dX1_readCompared_36 : decode cX1_readCompared 36 = .ok (.bipush (-12), 2) := by decide +kernel
theorem dX1_readCompared_38 : decode cX1_readCompared 38 = .ok (.istore_n 1, 1) := by decide +kernel
theorem dX1_readCompared_39 : decode cX1_readCompared 39 = .ok (.aload_n 0, 1) := by decide +kernel
theorem dX1_readCompared_40 : decode cX1_readCompared 40 = .ok (.invokevirtual 37, 3) := by decide +kernel
theorem dX1_readCompared_43 : decode cX1_readCompared 43 = .ok (.aload_n 0, 1) := by decide +kernel
theorem dX1_readCompared_44 : decode cX1_readCompared 44 = .ok (.invokevirtual 75, 3) := by decide +kernel
theorem dX1_readCompared_47 : decode cX1_readCompared 47 = .ok (.aload_n 0, 1) := by decide +kernel
theorem dX1_readCompared_48 : decode cX1_readCompared 48 = .ok (.getfield 19, 3) := by decide +kernel
theorem dX1_readCompared_51 : decode cX1_readCompared 51 = .ok (.iload_n 1, 1) := by decide +kernel
theorem dX1_readCompared_52 : decode cX1_readCompared 52 = .ok (.invokevirtual 62, 3) := by decide +kernel
theorem dX1_readCompared_55 : decode cX1_readCompared 55 = .ok (.return_, 1) := by decide +kernel
theorem dX1_readSum_0 : decode cX1_readSum 0 = .ok (.aload_n 0, 1) := by decide +kernel
theorem dX1_readSum_1 : decode cX1_readSum 1 = .ok (.invokevirtual 78, 3) := by decide +kernel
theorem dX1_readSum_4 : decode cX1_readSum 4 = .ok (.iconst 0, 1) := by decide +kernel
theorem dX1_readSum_5 : decode cX1_readSum 5 = .ok (.istore_n 1, 1) := by decide +kernel
theorem dX1_readSum_6 : decode cX1_readSum 6 = .ok (.iload_n 1, 1) := by decide +kernel
theorem dX1_readSum_7 : decode cX1_readSum 7 = .ok (.sipush 160, 3) := by decide +kernel
theorem dX1_readSum_10 : decode cX1_readSum 10 = .ok (.if_icmp .ge 60, 3) := by decide +kernel
theorem dX1_readSum_13 : decode cX1_readSum 13 = .ok (.aload_n 0, 1) := by decide +kernel
theorem dX1_readSum_14 : decode cX1_readSum 14 = .ok (.getfield 50, 3) := by decide +kernel
theorem dX1_readSum_17 : decode cX1_readSum 17 = .ok (.bipush 43, 2) := by decide +kernel
theorem dX1_readSum_19 : decode cX1_readSum 19 = .ok (.if_icmp .eq 12, 3) := by decide +kernel
theorem dX1_readSum_22 : decode cX1_readSum 22 = .ok (.aload_n 0, 1) := by decide +kernel
theorem dX1_readSum_23 : decode cX1_readSum 23 = .ok (.getfield 50, 3) := by decide +kernel
theorem dX1_readSum_26 : decode cX1_readSum 26 = .ok (.bipush 45, 2) := by decide +kernel
theorem dX1_readSum_28 : decode cX1_readSum 28 = .ok (.if_icmp .ne 42, 3) := by decide +kernel
theorem dX1_readSum_31 : decode cX1_readSum 31 = .ok (.aload_n 0, 1) := by decide +kernel
theorem dX1_readSum_32 : decode cX1_readSum 32 = .ok (.getfield 50, 3) := by decide +kernel
theorem dX1_readSum_35 : decode cX1_readSum 35 = .ok (.bipush 43, 2) := by decide +kernel
theorem dX1_readSum_37 : decode cX1_readSum 37 = .ok (.if_icmp .ne 8, 3) := by decide +kernel
theorem dX1_readSum_40 : decode cX1_readSum 40 = .ok (.bipush (-13), 2) := by decide +kernel
theorem dX1_readSum_42 : decode cX1_readSum 42 = .ok (.goto 5, 3) := by decide +kernel
theorem dX1_readSum_45 : decode cX1_readSum 45 = .ok (.bipush (-14), 2) := by decide +kernel
theorem dX1_readSum_47 : decode cX1_readSum 47 = .ok (.istore_n 2, 1) := by decide +kernel
theorem dX1_readSum_48 : decode cX1_readSum 48 = .ok (.aload_n 0, 1) := by decide +kernel
theorem dX1_readSum_49 : decode cX1_readSum 49 = .ok (.invokevirtual 37, 3) := by decide +kernel
theorem dX1_readSum_52 : decode cX1_readSum 52 = .ok (.aload_n 0, 1) := by decide +kernel
theorem dX1_readSum_53 : decode cX1_readSum 53 = .ok (.invokevirtual 78, 3) := by decide +kernel
theorem dX1_readSum_56 : decode cX1_readSum 56 = .ok (.aload_n 0, 1) := by decide +kernel
theorem dX1_readSum_57 : decode cX1_readSum 57 = .ok (.getfield 19, 3) := by decide +kernel
theorem dX1_readSum_60 : decode cX1_readSum 60 = .ok (.iload_n 2, 1) := by decide +kernel
theorem dX1_readSum_61 : decode cX1_readSum 61 = .ok (.invokevirtual 62, 3) := by decide +kernel
theorem dX1_readSum_64 : decode cX1_readSum 64 = .ok (.iinc 1 1, 3) := by decide +kernel
theorem dX1_readSum_67 : decode cX1_readSum 67 = .ok (.goto (-61), 3) := by decide +kernel
theorem dX1_readSum_70 : decode cX1_readSum 70 = .ok (.return_, 1) := by decide +kernel
theorem dX1_readTerm_0 : decode cX1_readTerm 0 = .ok (.aload_n 0, 1) := by decide +kernel
theorem dX1_readTerm_1 : decode cX1_readTerm 1 = .ok (.invokevirtual 81, 3) := by decide +kernel
theorem dX1_readTerm_4 : decode cX1_readTerm 4 = .ok (.iconst 0, 1) := by decide +kernel
theorem dX1_readTerm_5 : decode cX1_readTerm 5 = .ok (.istore_n 1, 1) := by decide +kernel
theorem dX1_readTerm_6 : decode cX1_readTerm 6 = .ok (.iload_n 1, 1) := by decide +kernel
theorem dX1_readTerm_7 : decode cX1_readTerm 7 = .ok (.sipush 160, 3) := by decide +kernel
theorem dX1_readTerm_10 : decode cX1_readTerm 10 = .ok (.if_icmp .ge 35, 3) := by decide +kernel
theorem dX1_readTerm_13 : decode cX1_readTerm 13 = .ok (.aload_n 0, 1) := by decide +kernel
theorem dX1_readTerm_14 : decode cX1_readTerm 14 = .ok (.getfield 50, 3) := by decide +kernel
theorem dX1_readTerm_17 : decode cX1_readTerm 17 = .ok (.bipush 42, 2) := by decide +kernel
theorem dX1_readTerm_19 : decode cX1_readTerm 19 = .ok (.if_icmp .ne 26, 3) := by decide +kernel
theorem dX1_readTerm_22 : decode cX1_readTerm 22 = .ok (.aload_n 0, 1) := by decide +kernel
theorem dX1_readTerm_23 : decode cX1_readTerm 23 = .ok (.invokevirtual 37, 3) := by decide +kernel
theorem dX1_readTerm_26 : decode cX1_readTerm 26 = .ok (.aload_n 0, 1) := by decide +kernel
theorem dX1_readTerm_27 : decode cX1_readTerm 27 = .ok (.invokevirtual 81, 3) := by decide +kernel
theorem dX1_readTerm_30 : decode cX1_readTerm 30 = .ok (.aload_n 0, 1) := by decide +kernel
theorem dX1_readTerm_31 : decode cX1_readTerm 31 = .ok (.getfield 19, 3) := by decide +kernel
theorem dX1_readTerm_34 : decode cX1_readTerm 34 = .ok (.bipush (-15), 2) := by decide +kernel
theorem dX1_readTerm_36 : decode cX1_readTerm 36 = .ok (.invokevirtual 62, 3) := by decide +kernel
theorem dX1_readTerm_39 : decode cX1_readTerm 39 = .ok (.iinc 1 1, 3) := by decide +kernel
theorem dX1_readTerm_42 : decode cX1_readTerm 42 = .ok (.goto (-36), 3) := by decide +kernel
theorem dX1_readTerm_45 : decode cX1_readTerm 45 = .ok (.return_, 1) := by decide +kernel
theorem dX1_readOne_0 : decode cX1_readOne 0 = .ok (.aload_n 0, 1) := by decide +kernel
theorem dX1_readOne_1 : decode cX1_readOne 1 = .ok (.getfield 50, 3) := by decide +kernel
theorem dX1_readOne_4 : decode cX1_readOne 4 = .ok (.lookupswitch 145 #[(2, 44), (3, 62), (40, 115), (45, 82)], 44) := by decide +kernel
theorem dX1_readOne_48 : decode cX1_readOne 48 = .ok (.aload_n 0, 1) := by decide +kernel
theorem dX1_readOne_49 : decode cX1_readOne 49 = .ok (.getfield 19, 3) := by decide +kernel
theorem dX1_readOne_52 : decode cX1_readOne 52 = .ok (.aload_n 0, 1) := by decide +kernel
theorem dX1_readOne_53 : decode cX1_readOne 53 = .ok (.getfield 84, 3) := by decide +kernel
theorem dX1_readOne_56 : decode cX1_readOne 56 = .ok (.invokevirtual 62, 3) := by decide +kernel
theorem dX1_readOne_59 : decode cX1_readOne 59 = .ok (.aload_n 0, 1) := by decide +kernel
theorem dX1_readOne_60 : decode cX1_readOne 60 = .ok (.invokevirtual 37, 3) := by decide +kernel
theorem dX1_readOne_63 : decode cX1_readOne 63 = .ok (.goto 90, 3) := by decide +kernel
theorem dX1_readOne_66 : decode cX1_readOne 66 = .ok (.aload_n 0, 1) := by decide +kernel
theorem dX1_readOne_67 : decode cX1_readOne 67 = .ok (.getfield 19, 3) := by decide +kernel
theorem dX1_readOne_70 : decode cX1_readOne 70 = .ok (.iconst (-1), 1) := by decide +kernel
theorem dX1_readOne_71 : decode cX1_readOne 71 = .ok (.aload_n 0, 1) := by decide +kernel
theorem dX1_readOne_72 : decode cX1_readOne 72 = .ok (.getfield 84, 3) := by decide +kernel
theorem dX1_readOne_75 : decode cX1_readOne 75 = .ok (.isub, 1) := by decide +kernel
theorem dX1_readOne_76 : decode cX1_readOne 76 = .ok (.invokevirtual 62, 3) := by decide +kernel
theorem dX1_readOne_79 : decode cX1_readOne 79 = .ok (.aload_n 0, 1) := by decide +kernel
theorem dX1_readOne_80 : decode cX1_readOne 80 = .ok (.invokevirtual 37, 3) := by decide +kernel
theorem dX1_readOne_83 : decode cX1_readOne 83 = .ok (.goto 70, 3) := by decide +kernel
theorem dX1_readOne_86 : decode cX1_readOne 86 = .ok (.aload_n 0, 1) := by decide +kernel
theorem dX1_readOne_87 : decode cX1_readOne 87 = .ok (.invokevirtual 71, 3) := by decide +kernel
theorem dX1_readOne_90 : decode cX1_readOne 90 = .ok (.ifCond .eq 63, 3) := by decide +kernel
theorem dX1_readOne_93 : decode cX1_readOne 93 = .ok (.aload_n 0, 1) := by decide +kernel
theorem dX1_readOne_94 : decode cX1_readOne 94 = .ok (.invokevirtual 81, 3) := by decide +kernel
theorem dX1_readOne_97 : decode cX1_readOne 97 = .ok (.aload_n 0, 1) := by decide +kernel
theorem dX1_readOne_98 : decode cX1_readOne 98 = .ok (.getfield 19, 3) := by decide +kernel
theorem dX1_readOne_101 : decode cX1_readOne 101 = .ok (.bipush (-8), 2) := by decide +kernel
theorem dX1_readOne_103 : decode cX1_readOne 103 = .ok (.invokevirtual 62, 3) := by decide +kernel
theorem dX1_readOne_106 : decode cX1_readOne 106 = .ok (.aload_n 0, 1) := by decide +kernel
theorem dX1_readOne_107 : decode cX1_readOne 107 = .ok (.dup, 1) := by decide +kernel
theorem dX1_readOne_108 : decode cX1_readOne 108 = .ok (.getfield 31, 3) := by decide +kernel
theorem dX1_readOne_111 : decode cX1_readOne 111 = .ok (.iconst 1, 1) := by decide +kernel
theorem dX1_readOne_112 : decode cX1_readOne 112 = .ok (.isub, 1) := by decide +kernel
theorem dX1_readOne_113 : decode cX1_readOne 113 = .ok (.putfield 31, 3) := by decide +kernel
theorem dX1_readOne_116 : decode cX1_readOne 116 = .ok (.goto 37, 3) := by decide +kernel
theorem dX1_readOne_119 : decode cX1_readOne 119 = .ok (.aload_n 0, 1) := by decide +kernel
theorem dX1_readOne_120 : decode cX1_readOne 120 = .ok (.invokevirtual 71, 3) := by decide +kernel
theorem dX1_readOne_123 : decode cX1_readOne 123 = .ok (.ifCond .eq 30, 3) := by decide +kernel
theorem dX1_readOne_126 : decode cX1_readOne 126 = .ok (.aload_n 0, 1) := by decide +kernel
theorem dX1_readOne_127 : decode cX1_readOne 127 = .ok (.invokevirtual 47, 3) := by decide +kernel
theorem dX1_readOne_130 : decode cX1_readOne 130 = .ok (.aload_n 0, 1) := by decide +kernel
theorem dX1_readOne_131 : decode cX1_readOne 131 = .ok (.bipush 41, 2) := by decide +kernel
theorem dX1_readOne_133 : decode cX1_readOne 133 = .ok (.invokevirtual 44, 3) := by decide +kernel
theorem dX1_readOne_136 : decode cX1_readOne 136 = .ok (.aload_n 0, 1) := by decide +kernel
theorem dX1_readOne_137 : decode cX1_readOne 137 = .ok (.dup, 1) := by decide +kernel
theorem dX1_readOne_138 : decode cX1_readOne 138 = .ok (.getfield 31, 3) := by decide +kernel
theorem dX1_readOne_141 : decode cX1_readOne 141 = .ok (.iconst 1, 1) := by decide +kernel
theorem dX1_readOne_142 : decode cX1_readOne 142 = .ok (.isub, 1) := by decide +kernel
theorem dX1_readOne_143 : decode cX1_readOne 143 = .ok (.putfield 31, 3) := by decide +kernel
theorem dX1_readOne_146 : decode cX1_readOne 146 = .ok (.goto 7, 3) := by decide +kernel
theorem dX1_readOne_149 : decode cX1_readOne 149 = .ok (.aload_n 0, 1) := by decide +kernel
theorem dX1_readOne_150 : decode cX1_readOne 150 = .ok (.invokevirtual 53, 3) := by decide +kernel
theorem dX1_readOne_153 : decode cX1_readOne 153 = .ok (.return_, 1) := by decide +kernel
theorem dX1_opens_0 : decode cX1_opens 0 = .ok (.aload_n 0, 1) := by decide +kernel
theorem dX1_opens_1 : decode cX1_opens 1 = .ok (.getfield 31, 3) := by decide +kernel
theorem dX1_opens_4 : decode cX1_opens 4 = .ok (.iconst 5, 1) := by decide +kernel
theorem dX1_opens_5 : decode cX1_opens 5 = .ok (.if_icmp .lt 9, 3) := by decide +kernel
theorem dX1_opens_8 : decode cX1_opens 8 = .ok (.aload_n 0, 1) := by decide +kernel
theorem dX1_opens_9 : decode cX1_opens 9 = .ok (.invokevirtual 53, 3) := by decide +kernel
theorem dX1_opens_12 : decode cX1_opens 12 = .ok (.iconst 0, 1) := by decide +kernel
theorem dX1_opens_13 : decode cX1_opens 13 = .ok (.ireturn, 1) := by decide +kernel
theorem dX1_opens_14 : decode cX1_opens 14 = .ok (.aload_n 0, 1) := by decide +kernel
theorem dX1_opens_15 : decode cX1_opens 15 = .ok (.dup, 1) := by decide +kernel
theorem dX1_opens_16 : decode cX1_opens 16 = .ok (.getfield 31, 3) := by decide +kernel
theorem dX1_opens_19 : decode cX1_opens 19 = .ok (.iconst 1, 1) := by decide +kernel
theorem dX1_opens_20 : decode cX1_opens 20 = .ok (.iadd, 1) := by decide +kernel
theorem dX1_opens_21 : decode cX1_opens 21 = .ok (.putfield 31, 3) := by decide +kernel
theorem dX1_opens_24 : decode cX1_opens 24 = .ok (.aload_n 0, 1) := by decide +kernel
theorem dX1_opens_25 : decode cX1_opens 25 = .ok (.invokevirtual 37, 3) := by decide +kernel
theorem dX1_opens_28 : decode cX1_opens 28 = .ok (.iconst 1, 1) := by decide +kernel
theorem dX1_opens_29 : decode cX1_opens 29 = .ok (.ireturn, 1) := by decide +kernel
theorem dX1_readToken_0 : decode cX1_readToken 0 = .ok (.aload_n 0, 1) := by decide +kernel
theorem dX1_readToken_1 : decode cX1_readToken 1 = .ok (.getfield 34, 3) := by decide +kernel
theorem dX1_readToken_4 : decode cX1_readToken 4 = .ok (.iconst (-1), 1) := by decide +kernel
theorem dX1_readToken_5 : decode cX1_readToken 5 = .ok (.if_icmp .eq 4, 3) := by decide +kernel
theorem dX1_readToken_8 : decode cX1_readToken 8 = .ok (.return_, 1) := by decide +kernel
theorem dX1_readToken_9 : decode cX1_readToken 9 = .ok (.aload_n 0, 1) := by decide +kernel
theorem dX1_readToken_10 : decode cX1_readToken 10 = .ok (.getfield 28, 3) := by decide +kernel
theorem dX1_readToken_13 : decode cX1_readToken 13 = .ok (.aload_n 0, 1) := by decide +kernel
theorem dX1_readToken_14 : decode cX1_readToken 14 = .ok (.getfield 15, 3) := by decide +kernel
theorem dX1_readToken_17 : decode cX1_readToken 17 = .ok (.if_icmp .ge 44, 3) := by decide +kernel
theorem dX1_readToken_20 : decode cX1_readToken 20 = .ok (.aload_n 0, 1) := by decide +kernel
theorem dX1_readToken_21 : decode cX1_readToken 21 = .ok (.getfield 9, 3) := by decide +kernel
theorem dX1_readToken_24 : decode cX1_readToken 24 = .ok (.aload_n 0, 1) := by decide +kernel
theorem dX1_readToken_25 : decode cX1_readToken 25 = .ok (.getfield 28, 3) := by decide +kernel
theorem dX1_readToken_28 : decode cX1_readToken 28 = .ok (.iaload, 1) := by decide +kernel
theorem dX1_readToken_29 : decode cX1_readToken 29 = .ok (.bipush 32, 2) := by decide +kernel
theorem dX1_readToken_31 : decode cX1_readToken 31 = .ok (.if_icmp .eq 17, 3) := by decide +kernel
theorem dX1_readToken_34 : decode cX1_readToken 34 = .ok (.aload_n 0, 1) := by decide +kernel
theorem dX1_readToken_35 : decode cX1_readToken 35 = .ok (.getfield 9, 3) := by decide +kernel
theorem dX1_readToken_38 : decode cX1_readToken 38 = .ok (.aload_n 0, 1) := by decide +kernel
theorem dX1_readToken_39 : decode cX1_readToken 39 = .ok (.getfield 28, 3) := by decide +kernel
theorem dX1_readToken_42 : decode cX1_readToken 42 = .ok (.iaload, 1) := by decide +kernel
theorem dX1_readToken_43 : decode cX1_readToken 43 = .ok (.bipush 10, 2) := by decide +kernel
theorem dX1_readToken_45 : decode cX1_readToken 45 = .ok (.if_icmp .ne 16, 3) := by decide +kernel
theorem dX1_readToken_48 : decode cX1_readToken 48 = .ok (.aload_n 0, 1) := by decide +kernel
theorem dX1_readToken_49 : decode cX1_readToken 49 = .ok (.dup, 1) := by decide +kernel
theorem dX1_readToken_50 : decode cX1_readToken 50 = .ok (.getfield 28, 3) := by decide +kernel
theorem dX1_readToken_53 : decode cX1_readToken 53 = .ok (.iconst 1, 1) := by decide +kernel
theorem dX1_readToken_54 : decode cX1_readToken 54 = .ok (.iadd, 1) := by decide +kernel
theorem dX1_readToken_55 : decode cX1_readToken 55 = .ok (.putfield 28, 3) := by decide +kernel
theorem dX1_readToken_58 : decode cX1_readToken 58 = .ok (.goto (-49), 3) := by decide +kernel
theorem dX1_readToken_61 : decode cX1_readToken 61 = .ok (.aload_n 0, 1) := by decide +kernel
theorem dX1_readToken_62 : decode cX1_readToken 62 = .ok (.aload_n 0, 1) := by decide +kernel
theorem dX1_readToken_63 : decode cX1_readToken 63 = .ok (.getfield 28, 3) := by decide +kernel
theorem dX1_readToken_66 : decode cX1_readToken 66 = .ok (.putfield 56, 3) := by decide +kernel
theorem dX1_readToken_69 : decode cX1_readToken 69 = .ok (.aload_n 0, 1) := by decide +kernel
theorem dX1_readToken_70 : decode cX1_readToken 70 = .ok (.getfield 28, 3) := by decide +kernel
theorem dX1_readToken_73 : decode cX1_readToken 73 = .ok (.aload_n 0, 1) := by decide +kernel
theorem dX1_readToken_74 : decode cX1_readToken 74 = .ok (.getfield 15, 3) := by decide +kernel
theorem dX1_readToken_77 : decode cX1_readToken 77 = .ok (.if_icmp .lt 11, 3) := by decide +kernel
theorem dX1_readToken_80 : decode cX1_readToken 80 = .ok (.aload_n 0, 1) := by decide +kernel
theorem dX1_readToken_81 : decode cX1_readToken 81 = .ok (.iconst 0, 1) := by decide +kernel
theorem dX1_readToken_82 : decode cX1_readToken 82 = .ok (.putfield 50, 3) := by decide +kernel
theorem dX1_readToken_85 : decode cX1_readToken 85 = .ok (.goto 100, 3) := by decide +kernel
theorem dX1_readToken_88 : decode cX1_readToken 88 = .ok (.aload_n 0, 1) := by decide +kernel
theorem dX1_readToken_89 : decode cX1_readToken 89 = .ok (.getfield 9, 3) := by decide +kernel
theorem dX1_readToken_92 : decode cX1_readToken 92 = .ok (.aload_n 0, 1) := by decide +kernel
theorem dX1_readToken_93 : decode cX1_readToken 93 = .ok (.getfield 28, 3) := by decide +kernel
theorem dX1_readToken_96 : decode cX1_readToken 96 = .ok (.iaload, 1) := by decide +kernel
theorem dX1_readToken_97 : decode cX1_readToken 97 = .ok (.bipush 97, 2) := by decide +kernel
theorem dX1_readToken_99 : decode cX1_readToken 99 = .ok (.bipush 122, 2) := by decide +kernel
theorem dX1_readToken_101 : decode cX1_readToken 101 = .ok (.invokestatic 87, 3) := by decide +kernel
theorem dX1_readToken_104 : decode cX1_readToken 104 = .ok (.ifCond .eq 10, 3) := by decide +kernel
theorem dX1_readToken_107 : decode cX1_readToken 107 = .ok (.aload_n 0, 1) := by decide +kernel
theorem dX1_readToken_108 : decode cX1_readToken 108 = .ok (.invokevirtual 91, 3) := by decide +kernel
theorem dX1_readToken_111 : decode cX1_readToken 111 = .ok (.goto 74, 3) := by decide +kernel
theorem dX1_readToken_114 : decode cX1_readToken 114 = .ok (.aload_n 0, 1) := by decide +kernel
theorem dX1_readToken_115 : decode cX1_readToken 115 = .ok (.getfield 9, 3) := by decide +kernel
theorem dX1_readToken_118 : decode cX1_readToken 118 = .ok (.aload_n 0, 1) := by decide +kernel
theorem dX1_readToken_119 : decode cX1_readToken 119 = .ok (.getfield 28, 3) := by decide +kernel
theorem dX1_readToken_122 : decode cX1_readToken 122 = .ok (.iaload, 1) := by decide +kernel
theorem dX1_readToken_123 : decode cX1_readToken 123 = .ok (.bipush 48, 2) := by decide +kernel
theorem dX1_readToken_125 : decode cX1_readToken 125 = .ok (.bipush 57, 2) := by decide +kernel
theorem dX1_readToken_127 : decode cX1_readToken 127 = .ok (.invokestatic 87, 3) := by decide +kernel
theorem dX1_readToken_130 : decode cX1_readToken 130 = .ok (.ifCond .eq 10, 3) := by decide +kernel
theorem dX1_readToken_133 : decode cX1_readToken 133 = .ok (.aload_n 0, 1) := by decide +kernel
theorem dX1_readToken_134 : decode cX1_readToken 134 = .ok (.invokevirtual 94, 3) := by decide +kernel
theorem dX1_readToken_137 : decode cX1_readToken 137 = .ok (.goto 48, 3) := by decide +kernel
theorem dX1_readToken_140 : decode cX1_readToken 140 = .ok (.aload_n 0, 1) := by decide +kernel
theorem dX1_readToken_141 : decode cX1_readToken 141 = .ok (.ldc 97, 2) := by decide +kernel
theorem dX1_readToken_143 : decode cX1_readToken 143 = .ok (.aload_n 0, 1) := by decide +kernel
theorem dX1_readToken_144 : decode cX1_readToken 144 = .ok (.getfield 9, 3) := by decide +kernel
theorem dX1_readToken_147 : decode cX1_readToken 147 = .ok (.aload_n 0, 1) := by decide +kernel
theorem dX1_readToken_148 : decode cX1_readToken 148 = .ok (.getfield 28, 3) := by decide +kernel
theorem dX1_readToken_151 : decode cX1_readToken 151 = .ok (.iaload, 1) := by decide +kernel
theorem dX1_readToken_152 : decode cX1_readToken 152 = .ok (.i2c, 1) := by decide +kernel
theorem dX1_readToken_153 : decode cX1_readToken 153 = .ok (.invokevirtual 99, 3) := by decide +kernel
theorem dX1_readToken_156 : decode cX1_readToken 156 = .ok (.ifCond .lt 15, 3) := by decide +kernel
theorem dX1_readToken_159 : decode cX1_readToken 159 = .ok (.aload_n 0, 1) := by decide +kernel
theorem dX1_readToken_160 : decode cX1_readToken 160 = .ok (.getfield 9, 3) := by decide +kernel
theorem dX1_readToken_163 : decode cX1_readToken 163 = .ok (.aload_n 0, 1) := by decide +kernel
theorem dX1_readToken_164 : decode cX1_readToken 164 = .ok (.getfield 28, 3) := by decide +kernel
theorem dX1_readToken_167 : decode cX1_readToken 167 = .ok (.iaload, 1) := by decide +kernel
theorem dX1_readToken_168 : decode cX1_readToken 168 = .ok (.goto 4, 3) := by decide +kernel
theorem dX1_readToken_171 : decode cX1_readToken 171 = .ok (.iconst 1, 1) := by decide +kernel
theorem dX1_readToken_172 : decode cX1_readToken 172 = .ok (.putfield 50, 3) := by decide +kernel
theorem dX1_readToken_175 : decode cX1_readToken 175 = .ok (.aload_n 0, 1) := by decide +kernel
theorem dX1_readToken_176 : decode cX1_readToken 176 = .ok (.dup, 1) := by decide +kernel
theorem dX1_readToken_177 : decode cX1_readToken 177 = .ok (.getfield 28, 3) := by decide +kernel
theorem dX1_readToken_180 : decode cX1_readToken 180 = .ok (.iconst 1, 1) := by decide +kernel
theorem dX1_readToken_181 : decode cX1_readToken 181 = .ok (.iadd, 1) := by decide +kernel
theorem dX1_readToken_182 : decode cX1_readToken 182 = .ok (.putfield 28, 3) := by decide +kernel
theorem dX1_readToken_185 : decode cX1_readToken 185 = .ok (.return_, 1) := by decide +kernel
theorem dX1_readNumeral_0 : decode cX1_readNumeral 0 = .ok (.aload_n 0, 1) := by decide +kernel
theorem dX1_readNumeral_1 : decode cX1_readNumeral 1 = .ok (.iconst 0, 1) := by decide +kernel
theorem dX1_readNumeral_2 : decode cX1_readNumeral 2 = .ok (.putfield 84, 3) := by decide +kernel
theorem dX1_readNumeral_5 : decode cX1_readNumeral 5 = .ok (.aload_n 0, 1) := by decide +kernel
theorem dX1_readNumeral_6 : decode cX1_readNumeral 6 = .ok (.getfield 28, 3) := by decide +kernel
theorem dX1_readNumeral_9 : decode cX1_readNumeral 9 = .ok (.aload_n 0, 1) := by decide +kernel
theorem dX1_readNumeral_10 : decode cX1_readNumeral 10 = .ok (.getfield 15, 3) := by decide +kernel
theorem dX1_readNumeral_13 : decode cX1_readNumeral 13 = .ok (.if_icmp .ge 59, 3) := by decide +kernel
theorem dX1_readNumeral_16 : decode cX1_readNumeral 16 = .ok (.aload_n 0, 1) := by decide +kernel
theorem dX1_readNumeral_17 : decode cX1_readNumeral 17 = .ok (.getfield 9, 3) := by decide +kernel
theorem dX1_readNumeral_20 : decode cX1_readNumeral 20 = .ok (.aload_n 0, 1) := by decide +kernel
theorem dX1_readNumeral_21 : decode cX1_readNumeral 21 = .ok (.getfield 28, 3) := by decide +kernel
theorem dX1_readNumeral_24 : decode cX1_readNumeral 24 = .ok (.iaload, 1) := by decide +kernel
theorem dX1_readNumeral_25 : decode cX1_readNumeral 25 = .ok (.bipush 48, 2) := by decide +kernel
theorem dX1_readNumeral_27 : decode cX1_readNumeral 27 = .ok (.bipush 57, 2) := by decide +kernel
theorem dX1_readNumeral_29 : decode cX1_readNumeral 29 = .ok (.invokestatic 87, 3) := by decide +kernel
theorem dX1_readNumeral_32 : decode cX1_readNumeral 32 = .ok (.ifCond .eq 40, 3) := by decide +kernel
theorem dX1_readNumeral_35 : decode cX1_readNumeral 35 = .ok (.aload_n 0, 1) := by decide +kernel
theorem dX1_readNumeral_36 : decode cX1_readNumeral 36 = .ok (.aload_n 0, 1) := by decide +kernel
theorem dX1_readNumeral_37 : decode cX1_readNumeral 37 = .ok (.getfield 84, 3) := by decide +kernel
theorem dX1_readNumeral_40 : decode cX1_readNumeral 40 = .ok (.bipush 10, 2) := by decide +kernel
theorem dX1_readNumeral_42 : decode cX1_readNumeral 42 = .ok (.imul, 1) := by decide +kernel
theorem dX1_readNumeral_43 : decode cX1_readNumeral 43 = .ok (.aload_n 0, 1) := by decide +kernel
theorem dX1_readNumeral_44 : decode cX1_readNumeral 44 = .ok (.getfield 9, 3) := by decide +kernel
theorem dX1_readNumeral_47 : decode cX1_readNumeral 47 = .ok (.aload_n 0, 1) := by decide +kernel
theorem dX1_readNumeral_48 : decode cX1_readNumeral 48 = .ok (.getfield 28, 3) := by decide +kernel
theorem dX1_readNumeral_51 : decode cX1_readNumeral 51 = .ok (.iaload, 1) := by decide +kernel
theorem dX1_readNumeral_52 : decode cX1_readNumeral 52 = .ok (.iadd, 1) := by decide +kernel
theorem dX1_readNumeral_53 : decode cX1_readNumeral 53 = .ok (.bipush 48, 2) := by decide +kernel
theorem dX1_readNumeral_55 : decode cX1_readNumeral 55 = .ok (.isub, 1) := by decide +kernel
theorem dX1_readNumeral_56 : decode cX1_readNumeral 56 = .ok (.putfield 84, 3) := by decide +kernel
theorem dX1_readNumeral_59 : decode cX1_readNumeral 59 = .ok (.aload_n 0, 1) := by decide +kernel
theorem dX1_readNumeral_60 : decode cX1_readNumeral 60 = .ok (.dup, 1) := by decide +kernel
theorem dX1_readNumeral_61 : decode cX1_readNumeral 61 = .ok (.getfield 28, 3) := by decide +kernel
theorem dX1_readNumeral_64 : decode cX1_readNumeral 64 = .ok (.iconst 1, 1) := by decide +kernel
theorem dX1_readNumeral_65 : decode cX1_readNumeral 65 = .ok (.iadd, 1) := by decide +kernel
theorem dX1_readNumeral_66 : decode cX1_readNumeral 66 = .ok (.putfield 28, 3) := by decide +kernel
theorem dX1_readNumeral_69 : decode cX1_readNumeral 69 = .ok (.goto (-64), 3) := by decide +kernel
theorem dX1_readNumeral_72 : decode cX1_readNumeral 72 = .ok (.aload_n 0, 1) := by decide +kernel
theorem dX1_readNumeral_73 : decode cX1_readNumeral 73 = .ok (.aload_n 0, 1) := by decide +kernel
theorem dX1_readNumeral_74 : decode cX1_readNumeral 74 = .ok (.getfield 28, 3) := by decide +kernel
theorem dX1_readNumeral_77 : decode cX1_readNumeral 77 = .ok (.aload_n 0, 1) := by decide +kernel
theorem dX1_readNumeral_78 : decode cX1_readNumeral 78 = .ok (.getfield 56, 3) := by decide +kernel
theorem dX1_readNumeral_81 : decode cX1_readNumeral 81 = .ok (.isub, 1) := by decide +kernel
theorem dX1_readNumeral_82 : decode cX1_readNumeral 82 = .ok (.iconst 4, 1) := by decide +kernel
theorem dX1_readNumeral_83 : decode cX1_readNumeral 83 = .ok (.if_icmp .gt 7, 3) := by decide +kernel
theorem dX1_readNumeral_86 : decode cX1_readNumeral 86 = .ok (.iconst 2, 1) := by decide +kernel
theorem dX1_readNumeral_87 : decode cX1_readNumeral 87 = .ok (.goto 4, 3) := by decide +kernel
theorem dX1_readNumeral_90 : decode cX1_readNumeral 90 = .ok (.iconst 1, 1) := by decide +kernel
theorem dX1_readNumeral_91 : decode cX1_readNumeral 91 = .ok (.putfield 50, 3) := by decide +kernel
theorem dX1_readNumeral_94 : decode cX1_readNumeral 94 = .ok (.return_, 1) := by decide +kernel
theorem dX1_readWord_0 : decode cX1_readWord 0 = .ok (.aload_n 0, 1) := by decide +kernel
theorem dX1_readWord_1 : decode cX1_readWord 1 = .ok (.getfield 28, 3) := by decide +kernel
theorem dX1_readWord_4 : decode cX1_readWord 4 = .ok (.aload_n 0, 1) := by decide +kernel
theorem dX1_readWord_5 : decode cX1_readWord 5 = .ok (.getfield 15, 3) := by decide +kernel
theorem dX1_readWord_8 : decode cX1_readWord 8 = .ok (.if_icmp .ge 35, 3) := by decide +kernel
theorem dX1_readWord_11 : decode cX1_readWord 11 = .ok (.aload_n 0, 1) := by decide +kernel
theorem dX1_readWord_12 : decode cX1_readWord 12 = .ok (.getfield 9, 3) := by decide +kernel
theorem dX1_readWord_15 : decode cX1_readWord 15 = .ok (.aload_n 0, 1) := by decide +kernel
theorem dX1_readWord_16 : decode cX1_readWord 16 = .ok (.getfield 28, 3) := by decide +kernel
theorem dX1_readWord_19 : decode cX1_readWord 19 = .ok (.iaload, 1) := by decide +kernel
theorem dX1_readWord_20 : decode cX1_readWord 20 = .ok (.bipush 97, 2) := by decide +kernel
theorem dX1_readWord_22 : decode cX1_readWord 22 = .ok (.bipush 122, 2) := by decide +kernel
theorem dX1_readWord_24 : decode cX1_readWord 24 = .ok (.invokestatic 87, 3) := by decide +kernel
theorem dX1_readWord_27 : decode cX1_readWord 27 = .ok (.ifCond .eq 16, 3) := by decide +kernel
theorem dX1_readWord_30 : decode cX1_readWord 30 = .ok (.aload_n 0, 1) := by decide +kernel
theorem dX1_readWord_31 : decode cX1_readWord 31 = .ok (.dup, 1) := by decide +kernel
theorem dX1_readWord_32 : decode cX1_readWord 32 = .ok (.getfield 28, 3) := by decide +kernel
theorem dX1_readWord_35 : decode cX1_readWord 35 = .ok (.iconst 1, 1) := by decide +kernel
theorem dX1_readWord_36 : decode cX1_readWord 36 = .ok (.iadd, 1) := by decide +kernel
theorem dX1_readWord_37 : decode cX1_readWord 37 = .ok (.putfield 28, 3) := by decide +kernel
theorem dX1_readWord_40 : decode cX1_readWord 40 = .ok (.goto (-40), 3) := by decide +kernel
theorem dX1_readWord_43 : decode cX1_readWord 43 = .ok (.aload_n 0, 1) := by decide +kernel
theorem dX1_readWord_44 : decode cX1_readWord 44 = .ok (.aload_n 0, 1) := by decide +kernel
theorem dX1_readWord_45 : decode cX1_readWord 45 = .ok (.invokevirtual 105, 3) := by decide +kernel
theorem dX1_readWord_48 : decode cX1_readWord 48 = .ok (.putfield 84, 3) := by decide +kernel
theorem dX1_readWord_51 : decode cX1_readWord 51 = .ok (.aload_n 0, 1) := by decide +kernel
theorem dX1_readWord_52 : decode cX1_readWord 52 = .ok (.getfield 84, 3) := by decide +kernel
theorem dX1_readWord_55 : decode cX1_readWord 55 = .ok (.iconst (-1), 1) := by decide +kernel
theorem dX1_readWord_56 : decode cX1_readWord 56 = .ok (.if_icmp .ne 11, 3) := by decide +kernel
theorem dX1_readWord_59 : decode cX1_readWord 59 = .ok (.aload_n 0, 1) := by decide +kernel
theorem dX1_readWord_60 : decode cX1_readWord 60 = .ok (.iconst 1, 1) := by decide +kernel
theorem dX1_readWord_61 : decode cX1_readWord 61 = .ok (.putfield 50, 3) := by decide +kernel
theorem dX1_readWord_64 : decode cX1_readWord 64 = .ok (.goto 29, 3) := by decide +kernel
theorem dX1_readWord_67 : decode cX1_readWord 67 = .ok (.aload_n 0, 1) := by decide +kernel
theorem dX1_readWord_68 : decode cX1_readWord 68 = .ok (.aload_n 0, 1) := by decide +kernel
theorem dX1_readWord_69 : decode cX1_readWord 69 = .ok (.getfield 84, 3) := by decide +kernel
theorem dX1_readWord_72 : decode cX1_readWord 72 = .ok (.bipush 6, 2) := by decide +kernel
theorem dX1_readWord_74 : decode cX1_readWord 74 = .ok (.if_icmp .ge 7, 3) := by decide +kernel
theorem dX1_readWord_77 : decode cX1_readWord 77 = .ok (.iconst 3, 1) := by decide +kernel
theorem dX1_readWord_78 : decode cX1_readWord 78 = .ok (.goto 12, 3) := by decide +kernel
theorem dX1_readWord_81 : decode cX1_readWord 81 = .ok (.iconst 4, 1) := by decide +kernel
theorem dX1_readWord_82 : decode cX1_readWord 82 = .ok (.aload_n 0, 1) := by decide +kernel
theorem dX1_readWord_83 : decode cX1_readWord 83 = .ok (.getfield 84, 3) := by decide +kernel
theorem dX1_readWord_86 : decode cX1_readWord 86 = .ok (.iadd, 1) := by decide +kernel
theorem dX1_readWord_87 : decode cX1_readWord 87 = .ok (.bipush 6, 2) := by decide +kernel
theorem dX1_readWord_89 : decode cX1_readWord 89 = .ok (.isub, 1) := by decide +kernel
theorem dX1_readWord_90 : decode cX1_readWord 90 = .ok (.putfield 50, 3) := by decide +kernel
theorem dX1_readWord_93 : decode cX1_readWord 93 = .ok (.return_, 1) := by decide +kernel
theorem dX1_wordNumber_0 : decode cX1_wordNumber 0 = .ok (.iconst 0, 1) := by decide +kernel
theorem dX1_wordNumber_1 : decode cX1_wordNumber 1 = .ok (.istore_n 1, 1) := by decide +kernel
theorem dX1_wordNumber_2 : decode cX1_wordNumber 2 = .ok (.aload_n 0, 1) := by decide +kernel
theorem dX1_wordNumber_3 : decode cX1_wordNumber 3 = .ok (.getfield 56, 3) := by decide +kernel
theorem dX1_wordNumber_6 : decode cX1_wordNumber 6 = .ok (.istore_n 2, 1) := by decide +kernel
theorem dX1_wordNumber_7 : decode cX1_wordNumber 7 = .ok (.iconst 1, 1) := by decide +kernel
theorem dX1_wordNumber_8 : decode cX1_wordNumber 8 = .ok (.istore_n 3, 1) := by decide +kernel
theorem dX1_wordNumber_9 : decode cX1_wordNumber 9 = .ok (.iconst 0, 1) := by decide +kernel
theorem dX1_wordNumber_10 : decode cX1_wordNumber 10 = .ok (.istore 4, 2) := by decide +kernel
theorem dX1_wordNumber_12 : decode cX1_wordNumber 12 = .ok (.iload 4, 2) := by decide +kernel
theorem dX1_wordNumber_14 : decode cX1_wordNumber 14 = .ok (.ldc 109, 2) := by decide +kernel
theorem dX1_wordNumber_16 : decode cX1_wordNumber 16 = .ok (.invokevirtual 111, 3) := by decide +kernel
theorem dX1_wordNumber_19 : decode cX1_wordNumber 19 = .ok (.if_icmp .ge 84, 3) := by decide +kernel
theorem dX1_wordNumber_22 : decode cX1_wordNumber 22 = .ok (.ldc 109, 2) := by decide +kernel
theorem dX1_wordNumber_24 : decode cX1_wordNumber 24 = .ok (.iload 4, 2) := by decide +kernel
theorem dX1_wordNumber_26 : decode cX1_wordNumber 26 = .ok (.invokevirtual 114, 3) := by decide +kernel
theorem dX1_wordNumber_29 : decode cX1_wordNumber 29 = .ok (.istore 5, 2) := by decide +kernel
theorem dX1_wordNumber_31 : decode cX1_wordNumber 31 = .ok (.iload 5, 2) := by decide +kernel
theorem dX1_wordNumber_33 : decode cX1_wordNumber 33 = .ok (.bipush 32, 2) := by decide +kernel
theorem dX1_wordNumber_35 : decode cX1_wordNumber 35 = .ok (.if_icmp .eq 38, 3) := by decide +kernel
theorem dX1_wordNumber_38 : decode cX1_wordNumber 38 = .ok (.iload_n 3, 1) := by decide +kernel
theorem dX1_wordNumber_39 : decode cX1_wordNumber 39 = .ok (.ifCond .eq 26, 3) := by decide +kernel
theorem dX1_wordNumber_42 : decode cX1_wordNumber 42 = .ok (.iload_n 2, 1) := by decide +kernel
theorem dX1_wordNumber_43 : decode cX1_wordNumber 43 = .ok (.aload_n 0, 1) := by decide +kernel
theorem dX1_wordNumber_44 : decode cX1_wordNumber 44 = .ok (.getfield 28, 3) := by decide +kernel
theorem dX1_wordNumber_47 : decode cX1_wordNumber 47 = .ok (.if_icmp .ge 18, 3) := by decide +kernel
theorem dX1_wordNumber_50 : decode cX1_wordNumber 50 = .ok (.aload_n 0, 1) := by decide +kernel
theorem dX1_wordNumber_51 : decode cX1_wordNumber 51 = .ok (.getfield 9, 3) := by decide +kernel
theorem dX1_wordNumber_54 : decode cX1_wordNumber 54 = .ok (.iload_n 2, 1) := by decide +kernel
theorem dX1_wordNumber_55 : decode cX1_wordNumber 55 = .ok (.iaload, 1) := by decide +kernel
theorem dX1_wordNumber_56 : decode cX1_wordNumber 56 = .ok (.iload 5, 2) := by decide +kernel
theorem dX1_wordNumber_58 : decode cX1_wordNumber 58 = .ok (.if_icmp .ne 7, 3) := by decide +kernel
theorem dX1_wordNumber_61 : decode cX1_wordNumber 61 = .ok (.iconst 1, 1) := by decide +kernel
theorem dX1_wordNumber_62 : decode cX1_wordNumber 62 = .ok (.goto 4, 3) := by decide +kernel
theorem dX1_wordNumber_65 : decode cX1_wordNumber 65 = .ok (.iconst 0, 1) := by decide +kernel
theorem dX1_wordNumber_66 : decode cX1_wordNumber 66 = .ok (.istore_n 3, 1) := by decide +kernel
theorem dX1_wordNumber_67 : decode cX1_wordNumber 67 = .ok (.iinc 2 1, 3) := by decide +kernel
theorem dX1_wordNumber_70 : decode cX1_wordNumber 70 = .ok (.goto 27, 3) := by decide +kernel
theorem dX1_wordNumber_73 : decode cX1_wordNumber 73 = .ok (.iload_n 3, 1) := by decide +kernel
theorem dX1_wordNumber_74 : decode cX1_wordNumber 74 = .ok (.ifCond .eq 13, 3) := by decide +kernel
theorem dX1_wordNumber_77 : decode cX1_wordNumber 77 = .ok (.iload_n 2, 1) := by decide +kernel
theorem dX1_wordNumber_78 : decode cX1_wordNumber 78 = .ok (.aload_n 0, 1) := by decide +kernel
theorem dX1_wordNumber_79 : decode cX1_wordNumber 79 = .ok (.getfield 28, 3) := by decide +kernel
theorem dX1_wordNumber_82 : decode cX1_wordNumber 82 = .ok (.if_icmp .ne 5, 3) := by decide +kernel
theorem dX1_wordNumber_85 : decode cX1_wordNumber 85 = .ok (.iload_n 1, 1) := by decide +kernel
theorem dX1_wordNumber_86 : decode cX1_wordNumber 86 = .ok (.ireturn, 1) := by decide +kernel
theorem dX1_wordNumber_87 : decode cX1_wordNumber 87 = .ok (.iinc 1 1, 3) := by decide +kernel
theorem dX1_wordNumber_90 : decode cX1_wordNumber 90 = .ok (.aload_n 0, 1) := by decide +kernel
theorem dX1_wordNumber_91 : decode cX1_wordNumber 91 = .ok (.getfield 56, 3) := by decide +kernel
theorem dX1_wordNumber_94 : decode cX1_wordNumber 94 = .ok (.istore_n 2, 1) := by decide +kernel
theorem dX1_wordNumber_95 : decode cX1_wordNumber 95 = .ok (.iconst 1, 1) := by decide +kernel
theorem dX1_wordNumber_96 : decode cX1_wordNumber 96 = .ok (.istore_n 3, 1) := by decide +kernel
theorem dX1_wordNumber_97 : decode cX1_wordNumber 97 = .ok (.iinc 4 1, 3) := by decide +kernel
theorem dX1_wordNumber_100 : decode cX1_wordNumber 100 = .ok (.goto (-88), 3) := by decide +kernel
theorem dX1_wordNumber_103 : decode cX1_wordNumber 103 = .ok (.iconst (-1), 1) := by decide +kernel
theorem dX1_wordNumber_104 : decode cX1_wordNumber 104 = .ok (.ireturn, 1) := by decide +kernel
theorem dX2_init_0 : decode cX2_init 0 = .ok (.aload_n 0, 1) := by decide +kernel
theorem dX2_init_1 : decode cX2_init 1 = .ok (.invokespecial 3, 3) := by decide +kernel
theorem dX2_init_4 : decode cX2_init 4 = .ok (.aload_n 0, 1) := by decide +kernel
theorem dX2_init_5 : decode cX2_init 5 = .ok (.bipush 40, 2) := by decide +kernel
theorem dX2_init_7 : decode cX2_init 7 = .ok (.newarray .int, 2) := by decide +kernel
theorem dX2_init_9 : decode cX2_init 9 = .ok (.putfield 9, 3) := by decide +kernel
theorem dX2_init_12 : decode cX2_init 12 = .ok (.aload_n 0, 1) := by decide +kernel
theorem dX2_init_13 : decode cX2_init 13 = .ok (.iconst (-1), 1) := by decide +kernel
theorem dX2_init_14 : decode cX2_init 14 = .ok (.putfield 15, 3) := by decide +kernel
theorem dX2_init_17 : decode cX2_init 17 = .ok (.return_, 1) := by decide +kernel
theorem dX2_isMissing_0 : decode cX2_isMissing 0 = .ok (.aload_n 0, 1) := by decide +kernel
theorem dX2_isMissing_1 : decode cX2_isMissing 1 = .ok (.getfield 15, 3) := by decide +kernel
theorem dX2_isMissing_4 : decode cX2_isMissing 4 = .ok (.iconst (-1), 1) := by decide +kernel
theorem dX2_isMissing_5 : decode cX2_isMissing 5 = .ok (.if_icmp .ne 7, 3) := by decide +kernel
theorem dX2_isMissing_8 : decode cX2_isMissing 8 = .ok (.iconst 1, 1) := by decide +kernel
theorem dX2_isMissing_9 : decode cX2_isMissing 9 = .ok (.goto 4, 3) := by decide +kernel
theorem dX2_isMissing_12 : decode cX2_isMissing 12 = .ok (.iconst 0, 1) := by decide +kernel
theorem dX2_isMissing_13 : decode cX2_isMissing 13 = .ok (.ireturn, 1) := by decide +kernel
theorem dX2_clear_0 : decode cX2_clear 0 = .ok (.aload_n 0, 1) := by decide +kernel
theorem dX2_clear_1 : decode cX2_clear 1 = .ok (.iload_n 1, 1) := by decide +kernel
theorem dX2_clear_2 : decode cX2_clear 2 = .ok (.putfield 15, 3) := by decide +kernel
theorem dX2_clear_5 : decode cX2_clear 5 = .ok (.aload_n 0, 1) := by decide +kernel
theorem dX2_clear_6 : decode cX2_clear 6 = .ok (.iload_n 2, 1) := by decide +kernel
theorem dX2_clear_7 : decode cX2_clear 7 = .ok (.putfield 19, 3) := by decide +kernel
theorem dX2_clear_10 : decode cX2_clear 10 = .ok (.iconst 0, 1) := by decide +kernel
theorem dX2_clear_11 : decode cX2_clear 11 = .ok (.istore_n 3, 1) := by decide +kernel
theorem dX2_clear_12 : decode cX2_clear 12 = .ok (.iload_n 3, 1) := by decide +kernel
theorem dX2_clear_13 : decode cX2_clear 13 = .ok (.bipush 40, 2) := by decide +kernel
theorem dX2_clear_15 : decode cX2_clear 15 = .ok (.if_icmp .ge 16, 3) := by decide +kernel
theorem dX2_clear_18 : decode cX2_clear 18 = .ok (.aload_n 0, 1) := by decide +kernel
theorem dX2_clear_19 : decode cX2_clear 19 = .ok (.getfield 9, 3) := by decide +kernel
theorem dX2_clear_22 : decode cX2_clear 22 = .ok (.iload_n 3, 1) := by decide +kernel
theorem dX2_clear_23 : decode cX2_clear 23 = .ok (.iconst 0, 1) := by decide +kernel
theorem dX2_clear_24 : decode cX2_clear 24 = .ok (.iastore, 1) := by decide +kernel
theorem dX2_clear_25 : decode cX2_clear 25 = .ok (.iinc 3 1, 3) := by decide +kernel
theorem dX2_clear_28 : decode cX2_clear 28 = .ok (.goto (-16), 3) := by decide +kernel
theorem dX2_clear_31 : decode cX2_clear 31 = .ok (.return_, 1) := by decide +kernel
theorem dX2_hasItem_0 : decode cX2_hasItem 0 = .ok (.iload_n 1, 1) := by decide +kernel
theorem dX2_hasItem_1 : decode cX2_hasItem 1 = .ok (.ifCond .lt 15, 3) := by decide +kernel
theorem dX2_hasItem_4 : decode cX2_hasItem 4 = .ok (.iload_n 1, 1) := by decide +kernel
theorem dX2_hasItem_5 : decode cX2_hasItem 5 = .ok (.aload_n 0, 1) := by decide +kernel
theorem dX2_hasItem_6 : decode cX2_hasItem 6 = .ok (.getfield 19, 3) := by decide +kernel
theorem dX2_hasItem_9 : decode cX2_hasItem 9 = .ok (.if_icmp .ge 7, 3) := by decide +kernel
theorem dX2_hasItem_12 : decode cX2_hasItem 12 = .ok (.iconst 1, 1) := by decide +kernel
theorem dX2_hasItem_13 : decode cX2_hasItem 13 = .ok (.goto 4, 3) := by decide +kernel
theorem dX2_hasItem_16 : decode cX2_hasItem 16 = .ok (.iconst 0, 1) := by decide +kernel
theorem dX2_hasItem_17 : decode cX2_hasItem 17 = .ok (.ireturn, 1) := by decide +kernel
theorem dX2_hasPiece_0 : decode cX2_hasPiece 0 = .ok (.iload_n 1, 1) := by decide +kernel
theorem dX2_hasPiece_1 : decode cX2_hasPiece 1 = .ok (.ifCond .lt 21, 3) := by decide +kernel
theorem dX2_hasPiece_4 : decode cX2_hasPiece 4 = .ok (.iload_n 2, 1) := by decide +kernel
theorem dX2_hasPiece_5 : decode cX2_hasPiece 5 = .ok (.ifCond .lt 17, 3) := by decide +kernel
theorem dX2_hasPiece_8 : decode cX2_hasPiece 8 = .ok (.iload_n 1, 1) := by decide +kernel
theorem dX2_hasPiece_9 : decode cX2_hasPiece 9 = .ok (.aload_n 0, 1) := by decide +kernel
theorem dX2_hasPiece_10 : decode cX2_hasPiece 10 = .ok (.getfield 19, 3) := by decide +kernel
theorem dX2_hasPiece_13 : decode cX2_hasPiece 13 = .ok (.iload_n 2, 1) := by decide +kernel
theorem dX2_hasPiece_14 : decode cX2_hasPiece 14 = .ok (.isub, 1) := by decide +kernel
theorem dX2_hasPiece_15 : decode cX2_hasPiece 15 = .ok (.if_icmp .gt 7, 3) := by decide +kernel
theorem dX2_hasPiece_18 : decode cX2_hasPiece 18 = .ok (.iconst 1, 1) := by decide +kernel
theorem dX2_hasPiece_19 : decode cX2_hasPiece 19 = .ok (.goto 4, 3) := by decide +kernel
theorem dX2_hasPiece_22 : decode cX2_hasPiece 22 = .ok (.iconst 0, 1) := by decide +kernel
theorem dX2_hasPiece_23 : decode cX2_hasPiece 23 = .ok (.ireturn, 1) := by decide +kernel
theorem dX2_put_0 : decode cX2_put 0 = .ok (.aload_n 0, 1) := by decide +kernel
theorem dX2_put_1 : decode cX2_put 1 = .ok (.getfield 15, 3) := by decide +kernel
theorem dX2_put_4 : decode cX2_put 4 = .ok (.lookupswitch 50 #[(0, 28), (1, 39)], 28) := by decide +kernel
theorem dX2_put_32 : decode cX2_put 32 = .ok (.aload_n 0, 1) := by decide +kernel
theorem dX2_put_33 : decode cX2_put 33 = .ok (.getfield 9, 3) := by decide +kernel
theorem dX2_put_36 : decode cX2_put 36 = .ok (.iload_n 1, 1) := by decide +kernel
theorem dX2_put_37 : decode cX2_put 37 = .ok (.iload_n 2, 1) := by decide +kernel
theorem dX2_put_38 : decode cX2_put 38 = .ok (.i2b, 1) := by decide +kernel
theorem dX2_put_39 : decode cX2_put 39 = .ok (.iastore, 1) := by decide +kernel
theorem dX2_put_40 : decode cX2_put 40 = .ok (.goto 21, 3) := by decide +kernel
theorem dX2_put_43 : decode cX2_put 43 = .ok (.aload_n 0, 1) := by decide +kernel
theorem dX2_put_44 : decode cX2_put 44 = .ok (.getfield 9, 3) := by decide +kernel
theorem dX2_put_47 : decode cX2_put 47 = .ok (.iload_n 1, 1) := by decide +kernel
theorem dX2_put_48 : decode cX2_put 48 = .ok (.iload_n 2, 1) := by decide +kernel
theorem dX2_put_49 : decode cX2_put 49 = .ok (.i2s, 1) := by decide +kernel
theorem dX2_put_50 : decode cX2_put 50 = .ok (.iastore, 1) := by decide +kernel
theorem dX2_put_51 : decode cX2_put 51 = .ok (.goto 10, 3) := by decide +kernel
theorem dX2_put_54 : decode cX2_put 54 = .ok (.aload_n 0, 1) := by decide +kernel
theorem dX2_put_55 : decode cX2_put 55 = .ok (.getfield 9, 3) := by decide +kernel
theorem dX2_put_58 : decode cX2_put 58 = .ok (.iload_n 1, 1) := by decide +kernel
theorem dX2_put_59 : decode cX2_put 59 = .ok (.iload_n 2, 1) := by decide +kernel
theorem dX2_put_60 : decode cX2_put 60 = .ok (.iastore, 1) := by decide +kernel
theorem dX2_put_61 : decode cX2_put 61 = .ok (.return_, 1) := by decide +kernel
theorem dX3_init_0 : decode cX3_init 0 = .ok (.aload_n 0, 1) := by decide +kernel
theorem dX3_init_1 : decode cX3_init 1 = .ok (.invokespecial 3, 3) := by decide +kernel
theorem dX3_init_4 : decode cX3_init 4 = .ok (.aload_n 0, 1) := by decide +kernel
theorem dX3_init_5 : decode cX3_init 5 = .ok (.sipush 160, 3) := by decide +kernel
theorem dX3_init_8 : decode cX3_init 8 = .ok (.newarray .int, 2) := by decide +kernel
theorem dX3_init_10 : decode cX3_init 10 = .ok (.putfield 9, 3) := by decide +kernel
theorem dX3_init_13 : decode cX3_init 13 = .ok (.aload_n 0, 1) := by decide +kernel
theorem dX3_init_14 : decode cX3_init 14 = .ok (.iconst 4, 1) := by decide +kernel
theorem dX3_init_15 : decode cX3_init 15 = .ok (.newarray .int, 2) := by decide +kernel
theorem dX3_init_17 : decode cX3_init 17 = .ok (.putfield 15, 3) := by decide +kernel
theorem dX3_init_20 : decode cX3_init 20 = .ok (.return_, 1) := by decide +kernel
theorem dX3_empty_0 : decode cX3_empty 0 = .ok (.aload_n 0, 1) := by decide +kernel
theorem dX3_empty_1 : decode cX3_empty 1 = .ok (.iconst 0, 1) := by decide +kernel
theorem dX3_empty_2 : decode cX3_empty 2 = .ok (.putfield 18, 3) := by decide +kernel
theorem dX3_empty_5 : decode cX3_empty 5 = .ok (.return_, 1) := by decide +kernel
theorem dX3_beginPart_0 : decode cX3_beginPart 0 = .ok (.aload_n 0, 1) := by decide +kernel
theorem dX3_beginPart_1 : decode cX3_beginPart 1 = .ok (.getfield 15, 3) := by decide +kernel
theorem dX3_beginPart_4 : decode cX3_beginPart 4 = .ok (.iload_n 1, 1) := by decide +kernel
theorem dX3_beginPart_5 : decode cX3_beginPart 5 = .ok (.aload_n 0, 1) := by decide +kernel
theorem dX3_beginPart_6 : decode cX3_beginPart 6 = .ok (.getfield 18, 3) := by decide +kernel
theorem dX3_beginPart_9 : decode cX3_beginPart 9 = .ok (.iastore, 1) := by decide +kernel
theorem dX3_beginPart_10 : decode cX3_beginPart 10 = .ok (.return_, 1) := by decide +kernel
theorem dX3_takeStep_0 : decode cX3_takeStep 0 = .ok (.aload_n 0, 1) := by decide +kernel
theorem dX3_takeStep_1 : decode cX3_takeStep 1 = .ok (.getfield 18, 3) := by decide +kernel
theorem dX3_takeStep_4 : decode cX3_takeStep 4 = .ok (.aload_n 0, 1) := by decide +kernel
theorem dX3_takeStep_5 : decode cX3_takeStep 5 = .ok (.getfield 9, 3) := by decide +kernel
theorem dX3_takeStep_8 : decode cX3_takeStep 8 = .ok (.arraylength, 1) := by decide +kernel
theorem dX3_takeStep_9 : decode cX3_takeStep 9 = .ok (.if_icmp .ge 23, 3) := by decide +kernel
theorem dX3_takeStep_12 : decode cX3_takeStep 12 = .ok (.aload_n 0, 1) := by decide +kernel
theorem dX3_takeStep_13 : decode cX3_takeStep 13 = .ok (.getfield 9, 3) := by decide +kernel
theorem dX3_takeStep_16 : decode cX3_takeStep 16 = .ok (.aload_n 0, 1) := by decide +kernel
theorem dX3_takeStep_17 : decode cX3_takeStep 17 = .ok (.getfield 18, 3) := by decide +kernel
theorem dX3_takeStep_20 : decode cX3_takeStep 20 = .ok (.iload_n 1, 1) := by decide +kernel
theorem dX3_takeStep_21 : decode cX3_takeStep 21 = .ok (.iastore, 1) := by decide +kernel
theorem dX3_takeStep_22 : decode cX3_takeStep 22 = .ok (.aload_n 0, 1) := by decide +kernel
theorem dX3_takeStep_23 : decode cX3_takeStep 23 = .ok (.dup, 1) := by decide +kernel
theorem dX3_takeStep_24 : decode cX3_takeStep 24 = .ok (.getfield 18, 3) := by decide +kernel
theorem dX3_takeStep_27 : decode cX3_takeStep 27 = .ok (.iconst 1, 1) := by decide +kernel
theorem dX3_takeStep_28 : decode cX3_takeStep 28 = .ok (.iadd, 1) := by decide +kernel
theorem dX3_takeStep_29 : decode cX3_takeStep 29 = .ok (.putfield 18, 3) := by decide +kernel
theorem dX3_takeStep_32 : decode cX3_takeStep 32 = .ok (.return_, 1) := by decide +kernel
theorem dX3_valueOf_0 : decode cX3_valueOf 0 = .ok (.iconst 0, 1) := by decide +kernel
theorem dX3_valueOf_1 : decode cX3_valueOf 1 = .ok (.istore 4, 2) := by decide +kernel
theorem dX3_valueOf_3 : decode cX3_valueOf 3 = .ok (.aload_n 3, 1) := by decide +kernel
theorem dX3_valueOf_4 : decode cX3_valueOf 4 = .ok (.iconst 0, 1) := by decide +kernel
theorem dX3_valueOf_5 : decode cX3_valueOf 5 = .ok (.iconst 0, 1) := by decide +kernel
theorem dX3_valueOf_6 : decode cX3_valueOf 6 = .ok (.iastore, 1) := by decide +kernel
theorem dX3_valueOf_7 : decode cX3_valueOf 7 = .ok (.aload_n 0, 1) := by decide +kernel
theorem dX3_valueOf_8 : decode cX3_valueOf 8 = .ok (.getfield 15, 3) := by decide +kernel
theorem dX3_valueOf_11 : decode cX3_valueOf 11 = .ok (.iload_n 1, 1) := by decide +kernel
theorem dX3_valueOf_12 : decode cX3_valueOf 12 = .ok (.iaload, 1) := by decide +kernel
theorem dX3_valueOf_13 : decode cX3_valueOf 13 = .ok (.istore 5, 2) := by decide +kernel
theorem dX3_valueOf_15 : decode cX3_valueOf 15 = .ok (.iload 5, 2) := by decide +kernel
theorem dX3_valueOf_17 : decode cX3_valueOf 17 = .ok (.aload_n 0, 1) := by decide +kernel
theorem dX3_valueOf_18 : decode cX3_valueOf 18 = .ok (.getfield 15, 3) := by decide +kernel
theorem dX3_valueOf_21 : decode cX3_valueOf 21 = .ok (.iload_n 1, 1) := by decide +kernel
theorem dX3_valueOf_22 : decode cX3_valueOf 22 = .ok (.iconst 1, 1) := by decide +kernel
theorem dX3_valueOf_23 : decode cX3_valueOf 23 = .ok (.iadd, 1) := by decide +kernel
theorem dX3_valueOf_24 : decode cX3_valueOf 24 = .ok (.iaload, 1) := by decide +kernel
theorem dX3_valueOf_25 : decode cX3_valueOf 25 = .ok (.if_icmp .ge 302, 3) := by decide +kernel
theorem dX3_valueOf_28 : decode cX3_valueOf 28 = .ok (.aload_n 0, 1) := by decide +kernel
theorem dX3_valueOf_29 : decode cX3_valueOf 29 = .ok (.getfield 9, 3) := by decide +kernel
theorem dX3_valueOf_32 : decode cX3_valueOf 32 = .ok (.iload 5, 2) := by decide +kernel
theorem dX3_valueOf_34 : decode cX3_valueOf 34 = .ok (.iaload, 1) := by decide +kernel
theorem dX3_valueOf_35 : decode cX3_valueOf 35 = .ok (.istore 6, 2) := by decide +kernel
theorem dX3_valueOf_37 : decode cX3_valueOf 37 = .ok (.iload 6, 2) := by decide +kernel
theorem dX3_valueOf_39 : decode cX3_valueOf 39 = .ok (.bipush (-7), 2) := by decide +kernel
theorem dX3_valueOf_41 : decode cX3_valueOf 41 = .ok (.if_icmp .le 36, 3) := by decide +kernel
theorem dX3_valueOf_44 : decode cX3_valueOf 44 = .ok (.iload 4, 2) := by decide +kernel
theorem dX3_valueOf_46 : decode cX3_valueOf 46 = .ok (.aload_n 3, 1) := by decide +kernel
theorem dX3_valueOf_47 : decode cX3_valueOf 47 = .ok (.arraylength, 1) := by decide +kernel
theorem dX3_valueOf_48 : decode cX3_valueOf 48 = .ok (.if_icmp .ge 29, 3) := by decide +kernel
theorem dX3_valueOf_51 : decode cX3_valueOf 51 = .ok (.aload_n 3, 1) := by decide +kernel
theorem dX3_valueOf_52 : decode cX3_valueOf 52 = .ok (.iload 4, 2) := by decide +kernel
theorem dX3_valueOf_54 : decode cX3_valueOf 54 = .ok (.iload 6, 2) := by decide +kernel
theorem dX3_valueOf_56 : decode cX3_valueOf 56 = .ok (.ifCond .lt 8, 3) := by decide +kernel
theorem dX3_valueOf_59 : decode cX3_valueOf 59 = .ok (.iload 6, 2) := by decide +kernel
theorem dX3_valueOf_61 : decode cX3_valueOf 61 = .ok (.goto 9, 3) := by decide +kernel
theorem dX3_valueOf_64 : decode cX3_valueOf 64 = .ok (.aload_n 2, 1) := by decide +kernel
theorem dX3_valueOf_65 : decode cX3_valueOf 65 = .ok (.iconst (-1), 1) := by decide +kernel
theorem dX3_valueOf_66 : decode cX3_valueOf 66 = .ok (.iload 6, 2) := by decide +kernel
theorem dX3_valueOf_68 : decode cX3_valueOf 68 = .ok (.isub, 1) := by decide +kernel
theorem dX3_valueOf_69 : decode cX3_valueOf 69 = .ok (.iaload, 1) := by decide +kernel
theorem dX3_valueOf_70 : decode cX3_valueOf 70 = .ok (.iastore, 1) := by decide +kernel
theorem dX3_valueOf_71 : decode cX3_valueOf 71 = .ok (.iinc 4 1, 3) := by decide +kernel
theorem dX3_valueOf_74 : decode cX3_valueOf 74 = .ok (.goto 247, 3) := by decide +kernel
theorem dX3_valueOf_77 : decode cX3_valueOf 77 = .ok (.iload 6, 2) := by decide +kernel
theorem dX3_valueOf_79 : decode cX3_valueOf 79 = .ok (.bipush (-8), 2) := by decide +kernel
theorem dX3_valueOf_81 : decode cX3_valueOf 81 = .ok (.if_icmp .lt 49, 3) := by decide +kernel
theorem dX3_valueOf_84 : decode cX3_valueOf 84 = .ok (.iload 4, 2) := by decide +kernel
theorem dX3_valueOf_86 : decode cX3_valueOf 86 = .ok (.iconst 1, 1) := by decide +kernel
theorem dX3_valueOf_87 : decode cX3_valueOf 87 = .ok (.if_icmp .lt 43, 3) := by decide +kernel
theorem dX3_valueOf_90 : decode cX3_valueOf 90 = .ok (.aload_n 3, 1) := by decide +kernel
theorem dX3_valueOf_91 : decode cX3_valueOf 91 = .ok (.iload 4, 2) := by decide +kernel
theorem dX3_valueOf_93 : decode cX3_valueOf 93 = .ok (.iconst 1, 1) := by decide +kernel
theorem dX3_valueOf_94 : decode cX3_valueOf 94 = .ok (.isub, 1) := by decide +kernel
theorem dX3_valueOf_95 : decode cX3_valueOf 95 = .ok (.iaload, 1) := by decide +kernel
theorem dX3_valueOf_96 : decode cX3_valueOf 96 = .ok (.istore 7, 2) := by decide +kernel
theorem dX3_valueOf_98 : decode cX3_valueOf 98 = .ok (.aload_n 3, 1) := by decide +kernel
theorem dX3_valueOf_99 : decode cX3_valueOf 99 = .ok (.iload 4, 2) := by decide +kernel
theorem dX3_valueOf_101 : decode cX3_valueOf 101 = .ok (.iconst 1, 1) := by decide +kernel
theorem dX3_valueOf_102 : decode cX3_valueOf 102 = .ok (.isub, 1) := by decide +kernel
theorem dX3_valueOf_103 : decode cX3_valueOf 103 = .ok (.iload 6, 2) := by decide +kernel
theorem dX3_valueOf_105 : decode cX3_valueOf 105 = .ok (.bipush (-8), 2) := by decide +kernel
theorem dX3_valueOf_107 : decode cX3_valueOf 107 = .ok (.if_icmp .ne 9, 3) := by decide +kernel
theorem dX3_valueOf_110 : decode cX3_valueOf 110 = .ok (.iload 7, 2) := by decide +kernel
theorem dX3_valueOf_112 : decode cX3_valueOf 112 = .ok (.ineg, 1) := by decide +kernel
theorem dX3_valueOf_113 : decode cX3_valueOf 113 = .ok (.goto 13, 3) := by decide +kernel
theorem dX3_valueOf_116 : decode cX3_valueOf 116 = .ok (.iload 7, 2) := by decide +kernel
theorem dX3_valueOf_118 : decode cX3_valueOf 118 = .ok (.ifCond .ne 7, 3) := by decide +kernel
theorem dX3_valueOf_121 : decode cX3_valueOf 121 = .ok (.iconst 1, 1) := by decide +kernel
theorem dX3_valueOf_122 : decode cX3_valueOf 122 = .ok (.goto 4, 3) := by decide +kernel
theorem dX3_valueOf_125 : decode cX3_valueOf 125 = .ok (.iconst 0, 1) := by decide +kernel
theorem dX3_valueOf_126 : decode cX3_valueOf 126 = .ok (.iastore, 1) := by decide +kernel
theorem dX3_valueOf_127 : decode cX3_valueOf 127 = .ok (.goto 194, 3) := by decide +kernel
theorem dX3_valueOf_130 : decode cX3_valueOf 130 = .ok (.iload 4, 2) := by decide +kernel
theorem dX3_valueOf_132 : decode cX3_valueOf 132 = .ok (.iconst 2, 1) := by decide +kernel
theorem dX3_valueOf_133 : decode cX3_valueOf 133 = .ok (.if_icmp .lt 188, 3) := by decide +kernel
theorem dX3_valueOf_136 : decode cX3_valueOf 136 = .ok (.iinc 4 (-1), 3) := by decide +kernel
theorem dX3_valueOf_139 : decode cX3_valueOf 139 = .ok (.aload_n 3, 1) := by decide +kernel
theorem dX3_valueOf_140 : decode cX3_valueOf 140 = .ok (.iload 4, 2) := by decide +kernel
theorem dX3_valueOf_142 : decode cX3_valueOf 142 = .ok (.iconst 1, 1) := by decide +kernel
theorem dX3_valueOf_143 : decode cX3_valueOf 143 = .ok (.isub, 1) := by decide +kernel
theorem dX3_valueOf_144 : decode cX3_valueOf 144 = .ok (.iaload, 1) := by decide +kernel
theorem dX3_valueOf_145 : decode cX3_valueOf 145 = .ok (.istore 7, 2) := by decide +kernel
theorem dX3_valueOf_147 : decode cX3_valueOf 147 = .ok (.aload_n 3, 1) := by decide +kernel
theorem dX3_valueOf_148 : decode cX3_valueOf 148 = .ok (.iload 4, 2) := by decide +kernel
theorem dX3_valueOf_150 : decode cX3_valueOf 150 = .ok (.iaload, 1) := by decide +kernel
theorem dX3_valueOf_151 : decode cX3_valueOf 151 = .ok (.istore 8, 2) := by decide +kernel
theorem dX3_valueOf_153 : decode cX3_valueOf 153 = .ok (.iload 6, 2) := by decide +kernel
theorem dX3_valueOf_155 : decode cX3_valueOf 155 = .ok (.tableswitch 155 (-14) (-9) #[141, 127, 106, 85, 61, 37], 37) := by decide +kernel
theorem dX3_valueOf_192 : decode cX3_valueOf 192 = .ok (.aload_n 3, 1) := by decide +kernel
theorem dX3_valueOf_193 : decode cX3_valueOf 193 = .ok (.iload 4, 2) := by decide +kernel
theorem dX3_valueOf_195 : decode cX3_valueOf 195 = .ok (.iconst 1, 1) := by decide +kernel
theorem dX3_valueOf_196 : decode cX3_valueOf 196 = .ok (.isub, 1) := by decide +kernel
theorem dX3_valueOf_197 : decode cX3_valueOf 197 = .ok (.iload 7, 2) := by decide +kernel
theorem dX3_valueOf_199 : decode cX3_valueOf 199 = .ok (.ifCond .ne 8, 3) := by decide +kernel
theorem dX3_valueOf_202 : decode cX3_valueOf 202 = .ok (.iload 8, 2) := by decide +kernel
theorem dX3_valueOf_204 : decode cX3_valueOf 204 = .ok (.ifCond .eq 7, 3) := by decide +kernel
theorem dX3_valueOf_207 : decode cX3_valueOf 207 = .ok (.iconst 1, 1) := by decide +kernel
theorem dX3_valueOf_208 : decode cX3_valueOf 208 = .ok (.goto 4, 3) := by decide +kernel
theorem dX3_valueOf_211 : decode cX3_valueOf 211 = .ok (.iconst 0, 1) := by decide +kernel
theorem dX3_valueOf_212 : decode cX3_valueOf 212 = .ok (.iastore, 1) := by decide +kernel
theorem dX3_valueOf_213 : decode cX3_valueOf 213 = .ok (.goto 108, 3) := by decide +kernel
theorem dX3_valueOf_216 : decode cX3_valueOf 216 = .ok (.aload_n 3, 1) := by decide +kernel
theorem dX3_valueOf_217 : decode cX3_valueOf 217 = .ok (.iload 4, 2) := by decide +kernel
theorem dX3_valueOf_219 : decode cX3_valueOf 219 = .ok (.iconst 1, 1) := by decide +kernel
theorem dX3_valueOf_220 : decode cX3_valueOf 220 = .ok (.isub, 1) := by decide +kernel
theorem dX3_valueOf_221 : decode cX3_valueOf 221 = .ok (.iload 7, 2) := by decide +kernel
theorem dX3_valueOf_223 : decode cX3_valueOf 223 = .ok (.ifCond .eq 12, 3) := by decide +kernel
theorem dX3_valueOf_226 : decode cX3_valueOf 226 = .ok (.iload 8, 2) := by decide +kernel
theorem dX3_valueOf_228 : decode cX3_valueOf 228 = .ok (.ifCond .eq 7, 3) := by decide +kernel
theorem dX3_valueOf_231 : decode cX3_valueOf 231 = .ok (.iconst 1, 1) := by decide +kernel
theorem dX3_valueOf_232 : decode cX3_valueOf 232 = .ok (.goto 4, 3) := by decide +kernel
theorem dX3_valueOf_235 : decode cX3_valueOf 235 = .ok (.iconst 0, 1) := by decide +kernel
theorem dX3_valueOf_236 : decode cX3_valueOf 236 = .ok (.iastore, 1) := by decide +kernel
theorem dX3_valueOf_237 : decode cX3_valueOf 237 = .ok (.goto 84, 3) := by decide +kernel
theorem dX3_valueOf_240 : decode cX3_valueOf 240 = .ok (.aload_n 3, 1) := by decide +kernel
theorem dX3_valueOf_241 : decode cX3_valueOf 241 = .ok (.iload 4, 2) := by decide +kernel
theorem dX3_valueOf_243 : decode cX3_valueOf 243 = .ok (.iconst 1, 1) := by decide +kernel
theorem dX3_valueOf_244 : decode cX3_valueOf 244 = .ok (.isub, 1) := by decide +kernel
theorem dX3_valueOf_245 : decode cX3_valueOf 245 = .ok (.iload 7, 2) := by decide +kernel
theorem dX3_valueOf_247 : decode cX3_valueOf 247 = .ok (.iload 8, 2) := by decide +kernel
theorem dX3_valueOf_249 : decode cX3_valueOf 249 = .ok (.if_icmp .ge 7, 3) := by decide +kernel
theorem dX3_valueOf_252 : decode cX3_valueOf 252 = .ok (.iconst 1, 1) := by decide +kernel
theorem dX3_valueOf_253 : decode cX3_valueOf 253 = .ok (.goto 4, 3) := by decide +kernel
theorem dX3_valueOf_256 : decode cX3_valueOf 256 = .ok (.iconst 0, 1) := by decide +kernel
theorem dX3_valueOf_257 : decode cX3_valueOf 257 = .ok (.iastore, 1) := by decide +kernel
theorem dX3_valueOf_258 : decode cX3_valueOf 258 = .ok (.goto 63, 3) := by decide +kernel
theorem dX3_valueOf_261 : decode cX3_valueOf 261 = .ok (.aload_n 3, 1) := by decide +kernel
theorem dX3_valueOf_262 : decode cX3_valueOf 262 = .ok (.iload 4, 2) := by decide +kernel
theorem dX3_valueOf_264 : decode cX3_valueOf 264 = .ok (.iconst 1, 1) := by decide +kernel
theorem dX3_valueOf_265 : decode cX3_valueOf 265 = .ok (.isub, 1) := by decide +kernel
theorem dX3_valueOf_266 : decode cX3_valueOf 266 = .ok (.iload 7, 2) := by decide +kernel
theorem dX3_valueOf_268 : decode cX3_valueOf 268 = .ok (.iload 8, 2) := by decide +kernel
theorem dX3_valueOf_270 : decode cX3_valueOf 270 = .ok (.if_icmp .ne 7, 3) := by decide +kernel
theorem dX3_valueOf_273 : decode cX3_valueOf 273 = .ok (.iconst 1, 1) := by decide +kernel
theorem dX3_valueOf_274 : decode cX3_valueOf 274 = .ok (.goto 4, 3) := by decide +kernel
theorem dX3_valueOf_277 : decode cX3_valueOf 277 = .ok (.iconst 0, 1) := by decide +kernel
theorem dX3_valueOf_278 : decode cX3_valueOf 278 = .ok (.iastore, 1) := by decide +kernel
theorem dX3_valueOf_279 : decode cX3_valueOf 279 = .ok (.goto 42, 3) := by decide +kernel
theorem dX3_valueOf_282 : decode cX3_valueOf 282 = .ok (.aload_n 3, 1) := by decide +kernel
theorem dX3_valueOf_283 : decode cX3_valueOf 283 = .ok (.iload 4, 2) := by decide +kernel
theorem dX3_valueOf_285 : decode cX3_valueOf 285 = .ok (.iconst 1, 1) := by decide +kernel
theorem dX3_valueOf_286 : decode cX3_valueOf 286 = .ok (.isub, 1) := by decide +kernel
theorem dX3_valueOf_287 : decode cX3_valueOf 287 = .ok (.iload 7, 2) := by decide +kernel
theorem dX3_valueOf_289 : decode cX3_valueOf 289 = .ok (.iload 8, 2) := by decide +kernel
theorem dX3_valueOf_291 : decode cX3_valueOf 291 = .ok (.iadd, 1) := by decide +kernel
theorem dX3_valueOf_292 : decode cX3_valueOf 292 = .ok (.iastore, 1) := by decide +kernel
theorem dX3_valueOf_293 : decode cX3_valueOf 293 = .ok (.goto 28, 3) := by decide +kernel
theorem dX3_valueOf_296 : decode cX3_valueOf 296 = .ok (.aload_n 3, 1) := by decide +kernel
theorem dX3_valueOf_297 : decode cX3_valueOf 297 = .ok (.iload 4, 2) := by decide +kernel
theorem dX3_valueOf_299 : decode cX3_valueOf 299 = .ok (.iconst 1, 1) := by decide +kernel
theorem dX3_valueOf_300 : decode cX3_valueOf 300 = .ok (.isub, 1) := by decide +kernel
theorem dX3_valueOf_301 : decode cX3_valueOf 301 = .ok (.iload 7, 2) := by decide +kernel
theorem dX3_valueOf_303 : decode cX3_valueOf 303 = .ok (.iload 8, 2) := by decide +kernel
theorem dX3_valueOf_305 : decode cX3_valueOf 305 = .ok (.isub, 1) := by decide +kernel
theorem dX3_valueOf_306 : decode cX3_valueOf 306 = .ok (.iastore, 1) := by decide +kernel
theorem dX3_valueOf_307 : decode cX3_valueOf 307 = .ok (.goto 14, 3) := by decide +kernel
theorem dX3_valueOf_310 : decode cX3_valueOf 310 = .ok (.aload_n 3, 1) := by decide +kernel
theorem dX3_valueOf_311 : decode cX3_valueOf 311 = .ok (.iload 4, 2) := by decide +kernel
theorem dX3_valueOf_313 : decode cX3_valueOf 313 = .ok (.iconst 1, 1) := by decide +kernel
theorem dX3_valueOf_314 : decode cX3_valueOf 314 = .ok (.isub, 1) := by decide +kernel
theorem dX3_valueOf_315 : decode cX3_valueOf 315 = .ok (.iload 7, 2) := by decide +kernel
theorem dX3_valueOf_317 : decode cX3_valueOf 317 = .ok (.iload 8, 2) := by decide +kernel
theorem dX3_valueOf_319 : decode cX3_valueOf 319 = .ok (.imul, 1) := by decide +kernel
theorem dX3_valueOf_320 : decode cX3_valueOf 320 = .ok (.iastore, 1) := by decide +kernel
theorem dX3_valueOf_321 : decode cX3_valueOf 321 = .ok (.iinc 5 1, 3) := by decide +kernel
theorem dX3_valueOf_324 : decode cX3_valueOf 324 = .ok (.goto (-309), 3) := by decide +kernel
theorem dX3_valueOf_327 : decode cX3_valueOf 327 = .ok (.aload_n 3, 1) := by decide +kernel
theorem dX3_valueOf_328 : decode cX3_valueOf 328 = .ok (.iconst 0, 1) := by decide +kernel
theorem dX3_valueOf_329 : decode cX3_valueOf 329 = .ok (.iaload, 1) := by decide +kernel
theorem dX3_valueOf_330 : decode cX3_valueOf 330 = .ok (.ireturn, 1) := by decide +kernel
theorem dJ6_bitCount_0f7a4_0 : decode cJ6_bitCount_0f7a4 0 = .ok (.iload_n 0, 1) := by decide +kernel
theorem dJ6_bitCount_0f7a4_1 : decode cJ6_bitCount_0f7a4 1 = .ok (.iload_n 0, 1) := by decide +kernel
theorem dJ6_bitCount_0f7a4_2 : decode cJ6_bitCount_0f7a4 2 = .ok (.iconst 1, 1) := by decide +kernel
theorem dJ6_bitCount_0f7a4_3 : decode cJ6_bitCount_0f7a4 3 = .ok (.iushr, 1) := by decide +kernel
theorem dJ6_bitCount_0f7a4_4 : decode cJ6_bitCount_0f7a4 4 = .ok (.ldc_w 265, 3) := by decide +kernel
theorem dJ6_bitCount_0f7a4_7 : decode cJ6_bitCount_0f7a4 7 = .ok (.iand, 1) := by decide +kernel
theorem dJ6_bitCount_0f7a4_8 : decode cJ6_bitCount_0f7a4 8 = .ok (.isub, 1) := by decide +kernel
theorem dJ6_bitCount_0f7a4_9 : decode cJ6_bitCount_0f7a4 9 = .ok (.istore_n 0, 1) := by decide +kernel
theorem dJ6_bitCount_0f7a4_10 : decode cJ6_bitCount_0f7a4 10 = .ok (.iload_n 0, 1) := by decide +kernel
theorem dJ6_bitCount_0f7a4_11 : decode cJ6_bitCount_0f7a4 11 = .ok (.ldc_w 266, 3) := by decide +kernel
theorem dJ6_bitCount_0f7a4_14 : decode cJ6_bitCount_0f7a4 14 = .ok (.iand, 1) := by decide +kernel
theorem dJ6_bitCount_0f7a4_15 : decode cJ6_bitCount_0f7a4 15 = .ok (.iload_n 0, 1) := by decide +kernel
theorem dJ6_bitCount_0f7a4_16 : decode cJ6_bitCount_0f7a4 16 = .ok (.iconst 2, 1) := by decide +kernel
theorem dJ6_bitCount_0f7a4_17 : decode cJ6_bitCount_0f7a4 17 = .ok (.iushr, 1) := by decide +kernel
theorem dJ6_bitCount_0f7a4_18 : decode cJ6_bitCount_0f7a4 18 = .ok (.ldc_w 266, 3) := by decide +kernel
theorem dJ6_bitCount_0f7a4_21 : decode cJ6_bitCount_0f7a4 21 = .ok (.iand, 1) := by decide +kernel
theorem dJ6_bitCount_0f7a4_22 : decode cJ6_bitCount_0f7a4 22 = .ok (.iadd, 1) := by decide +kernel
theorem dJ6_bitCount_0f7a4_23 : decode cJ6_bitCount_0f7a4 23 = .ok (.istore_n 0, 1) := by decide +kernel
theorem dJ6_bitCount_0f7a4_24 : decode cJ6_bitCount_0f7a4 24 = .ok (.iload_n 0, 1) := by decide +kernel
theorem dJ6_bitCount_0f7a4_25 : decode cJ6_bitCount_0f7a4 25 = .ok (.iload_n 0, 1) := by decide +kernel
theorem dJ6_bitCount_0f7a4_26 : decode cJ6_bitCount_0f7a4 26 = .ok (.iconst 4, 1) := by decide +kernel
theorem dJ6_bitCount_0f7a4_27 : decode cJ6_bitCount_0f7a4 27 = .ok (.iushr, 1) := by decide +kernel
theorem dJ6_bitCount_0f7a4_28 : decode cJ6_bitCount_0f7a4 28 = .ok (.iadd, 1) := by decide +kernel
theorem dJ6_bitCount_0f7a4_29 : decode cJ6_bitCount_0f7a4 29 = .ok (.ldc_w 267, 3) := by decide +kernel
theorem dJ6_bitCount_0f7a4_32 : decode cJ6_bitCount_0f7a4 32 = .ok (.iand, 1) := by decide +kernel
theorem dJ6_bitCount_0f7a4_33 : decode cJ6_bitCount_0f7a4 33 = .ok (.istore_n 0, 1) := by decide +kernel
theorem dJ6_bitCount_0f7a4_34 : decode cJ6_bitCount_0f7a4 34 = .ok (.iload_n 0, 1) := by decide +kernel
theorem dJ6_bitCount_0f7a4_35 : decode cJ6_bitCount_0f7a4 35 = .ok (.iload_n 0, 1) := by decide +kernel
theorem dJ6_bitCount_0f7a4_36 : decode cJ6_bitCount_0f7a4 36 = .ok (.bipush 8, 2) := by decide +kernel
theorem dJ6_bitCount_0f7a4_38 : decode cJ6_bitCount_0f7a4 38 = .ok (.iushr, 1) := by decide +kernel
theorem dJ6_bitCount_0f7a4_39 : decode cJ6_bitCount_0f7a4 39 = .ok (.iadd, 1) := by decide +kernel
theorem dJ6_bitCount_0f7a4_40 : decode cJ6_bitCount_0f7a4 40 = .ok (.istore_n 0, 1) := by decide +kernel
theorem dJ6_bitCount_0f7a4_41 : decode cJ6_bitCount_0f7a4 41 = .ok (.iload_n 0, 1) := by decide +kernel
theorem dJ6_bitCount_0f7a4_42 : decode cJ6_bitCount_0f7a4 42 = .ok (.iload_n 0, 1) := by decide +kernel
theorem dJ6_bitCount_0f7a4_43 : decode cJ6_bitCount_0f7a4 43 = .ok (.bipush 16, 2) := by decide +kernel
theorem dJ6_bitCount_0f7a4_45 : decode cJ6_bitCount_0f7a4 45 = .ok (.iushr, 1) := by decide +kernel
theorem dJ6_bitCount_0f7a4_46 : decode cJ6_bitCount_0f7a4 46 = .ok (.iadd, 1) := by decide +kernel
theorem dJ6_bitCount_0f7a4_47 : decode cJ6_bitCount_0f7a4 47 = .ok (.istore_n 0, 1) := by decide +kernel
theorem dJ6_bitCount_0f7a4_48 : decode cJ6_bitCount_0f7a4 48 = .ok (.iload_n 0, 1) := by decide +kernel
theorem dJ6_bitCount_0f7a4_49 : decode cJ6_bitCount_0f7a4 49 = .ok (.bipush 63, 2) := by decide +kernel
theorem dJ6_bitCount_0f7a4_51 : decode cJ6_bitCount_0f7a4 51 = .ok (.iand, 1) := by decide +kernel
theorem dJ6_bitCount_0f7a4_52 : decode cJ6_bitCount_0f7a4 52 = .ok (.ireturn, 1) := by decide +kernel
theorem dJ9_max_7cf53_0 : decode cJ9_max_7cf53 0 = .ok (.iload_n 0, 1) := by decide +kernel
theorem dJ9_max_7cf53_1 : decode cJ9_max_7cf53 1 = .ok (.iload_n 1, 1) := by decide +kernel
theorem dJ9_max_7cf53_2 : decode cJ9_max_7cf53 2 = .ok (.if_icmp .lt 7, 3) := by decide +kernel
theorem dJ9_max_7cf53_5 : decode cJ9_max_7cf53 5 = .ok (.iload_n 0, 1) := by decide +kernel
theorem dJ9_max_7cf53_6 : decode cJ9_max_7cf53 6 = .ok (.goto 4, 3) := by decide +kernel
theorem dJ9_max_7cf53_9 : decode cJ9_max_7cf53 9 = .ok (.iload_n 1, 1) := by decide +kernel
theorem dJ9_max_7cf53_10 : decode cJ9_max_7cf53 10 = .ok (.ireturn, 1) := by decide +kernel
theorem dJ9_min_7cf53_0 : decode cJ9_min_7cf53 0 = .ok (.iload_n 0, 1) := by decide +kernel
theorem dJ9_min_7cf53_1 : decode cJ9_min_7cf53 1 = .ok (.iload_n 1, 1) := by decide +kernel
theorem dJ9_min_7cf53_2 : decode cJ9_min_7cf53 2 = .ok (.if_icmp .gt 7, 3) := by decide +kernel
theorem dJ9_min_7cf53_5 : decode cJ9_min_7cf53 5 = .ok (.iload_n 0, 1) := by decide +kernel
theorem dJ9_min_7cf53_6 : decode cJ9_min_7cf53 6 = .ok (.goto 4, 3) := by decide +kernel
theorem dJ9_min_7cf53_9 : decode cJ9_min_7cf53 9 = .ok (.iload_n 1, 1) := by decide +kernel
theorem dJ9_min_7cf53_10 : decode cJ9_min_7cf53 10 = .ok (.ireturn, 1) := by decide +kernel
theorem dJ0_length_8abf5_0 : decode cJ0_length_8abf5 0 = .ok (.aload_n 0, 1) := by decide +kernel
theorem dJ0_length_8abf5_1 : decode cJ0_length_8abf5 1 = .ok (.getfield 9, 3) := by decide +kernel
theorem dJ0_length_8abf5_4 : decode cJ0_length_8abf5 4 = .ok (.arraylength, 1) := by decide +kernel
theorem dJ0_length_8abf5_5 : decode cJ0_length_8abf5 5 = .ok (.aload_n 0, 1) := by decide +kernel
theorem dJ0_length_8abf5_6 : decode cJ0_length_8abf5 6 = .ok (.invokevirtual 335, 3) := by decide +kernel
theorem dJ0_length_8abf5_9 : decode cJ0_length_8abf5 9 = .ok (.ishr, 1) := by decide +kernel
theorem dJ0_length_8abf5_10 : decode cJ0_length_8abf5 10 = .ok (.ireturn, 1) := by decide +kernel
theorem dJ0_charAt_5068e_0 : decode cJ0_charAt_5068e 0 = .ok (.aload_n 0, 1) := by decide +kernel
theorem dJ0_charAt_5068e_1 : decode cJ0_charAt_5068e 1 = .ok (.invokevirtual 492, 3) := by decide +kernel
theorem dJ0_charAt_5068e_4 : decode cJ0_charAt_5068e 4 = .ok (.ifCond .eq 12, 3) := by decide +kernel
theorem dJ0_charAt_5068e_7 : decode cJ0_charAt_5068e 7 = .ok (.aload_n 0, 1) := by decide +kernel
theorem dJ0_charAt_5068e_8 : decode cJ0_charAt_5068e 8 = .ok (.getfield 9, 3) := by decide +kernel
theorem dJ0_charAt_5068e_11 : decode cJ0_charAt_5068e 11 = .ok (.iload_n 1, 1) := by decide +kernel
theorem dJ0_charAt_5068e_12 : decode cJ0_charAt_5068e 12 = .ok (.invokestatic 495, 3) := by decide +kernel
theorem dJ0_charAt_5068e_15 : decode cJ0_charAt_5068e 15 = .ok (.ireturn, 1) := by decide +kernel
theorem dJ0_charAt_5068e_16 : decode cJ0_charAt_5068e 16 = .ok (.aload_n 0, 1) := by decide +kernel
theorem dJ0_charAt_5068e_17 : decode cJ0_charAt_5068e 17 = .ok (.getfield 9, 3) := by decide +kernel
theorem dJ0_charAt_5068e_20 : decode cJ0_charAt_5068e 20 = .ok (.iload_n 1, 1) := by decide +kernel
theorem dJ0_charAt_5068e_21 : decode cJ0_charAt_5068e 21 = .ok (.invokestatic 498, 3) := by decide +kernel
theorem dJ0_charAt_5068e_24 : decode cJ0_charAt_5068e 24 = .ok (.ireturn, 1) := by decide +kernel
theorem dJ0_indexOf_0f7a4_0 : decode cJ0_indexOf_0f7a4 0 = .ok (.aload_n 0, 1) := by decide +kernel
theorem dJ0_indexOf_0f7a4_1 : decode cJ0_indexOf_0f7a4 1 = .ok (.iload_n 1, 1) := by decide +kernel
theorem dJ0_indexOf_0f7a4_2 : decode cJ0_indexOf_0f7a4 2 = .ok (.iconst 0, 1) := by decide +kernel
theorem dJ0_indexOf_0f7a4_3 : decode cJ0_indexOf_0f7a4 3 = .ok (.invokevirtual 633, 3) := by decide +kernel
theorem dJ0_indexOf_0f7a4_6 : decode cJ0_indexOf_0f7a4 6 = .ok (.ireturn, 1) := by decide +kernel
theorem dJ0_indexOf_7cf53_0 : decode cJ0_indexOf_7cf53 0 = .ok (.aload_n 0, 1) := by decide +kernel
theorem dJ0_indexOf_7cf53_1 : decode cJ0_indexOf_7cf53 1 = .ok (.invokevirtual 492, 3) := by decide +kernel
theorem dJ0_indexOf_7cf53_4 : decode cJ0_indexOf_7cf53 4 = .ok (.ifCond .eq 19, 3) := by decide +kernel
theorem dJ0_indexOf_7cf53_7 : decode cJ0_indexOf_7cf53 7 = .ok (.aload_n 0, 1) := by decide +kernel
theorem dJ0_indexOf_7cf53_8 : decode cJ0_indexOf_7cf53 8 = .ok (.getfield 9, 3) := by decide +kernel
theorem dJ0_indexOf_7cf53_11 : decode cJ0_indexOf_7cf53 11 = .ok (.iload_n 1, 1) := by decide +kernel
theorem dJ0_indexOf_7cf53_12 : decode cJ0_indexOf_7cf53 12 = .ok (.iload_n 2, 1) := by decide +kernel
theorem dJ0_indexOf_7cf53_13 : decode cJ0_indexOf_7cf53 13 = .ok (.aload_n 0, 1) := by decide +kernel
theorem dJ0_indexOf_7cf53_14 : decode cJ0_indexOf_7cf53 14 = .ok (.invokevirtual 505, 3) := by decide +kernel
theorem dJ0_indexOf_7cf53_17 : decode cJ0_indexOf_7cf53 17 = .ok (.invokestatic 637, 3) := by decide +kernel
theorem dJ0_indexOf_7cf53_20 : decode cJ0_indexOf_7cf53 20 = .ok (.goto 16, 3) := by decide +kernel
theorem dJ0_indexOf_7cf53_23 : decode cJ0_indexOf_7cf53 23 = .ok (.aload_n 0, 1) := by decide +kernel
theorem dJ0_indexOf_7cf53_24 : decode cJ0_indexOf_7cf53 24 = .ok (.getfield 9, 3) := by decide +kernel
theorem dJ0_indexOf_7cf53_27 : decode cJ0_indexOf_7cf53 27 = .ok (.iload_n 1, 1) := by decide +kernel
theorem dJ0_indexOf_7cf53_28 : decode cJ0_indexOf_7cf53 28 = .ok (.iload_n 2, 1) := by decide +kernel
theorem dJ0_indexOf_7cf53_29 : decode cJ0_indexOf_7cf53 29 = .ok (.aload_n 0, 1) := by decide +kernel
theorem dJ0_indexOf_7cf53_30 : decode cJ0_indexOf_7cf53 30 = .ok (.invokevirtual 505, 3) := by decide +kernel
theorem dJ0_indexOf_7cf53_33 : decode cJ0_indexOf_7cf53 33 = .ok (.invokestatic 640, 3) := by decide +kernel
theorem dJ0_indexOf_7cf53_36 : decode cJ0_indexOf_7cf53 36 = .ok (.ireturn, 1) := by decide +kernel
theorem dJ0_coder_7d493_0 : decode cJ0_coder_7d493 0 = .ok (.getstatic 38, 3) := by decide +kernel
theorem dJ0_coder_7d493_3 : decode cJ0_coder_7d493 3 = .ok (.ifCond .eq 10, 3) := by decide +kernel
theorem dJ0_coder_7d493_6 : decode cJ0_coder_7d493 6 = .ok (.aload_n 0, 1) := by decide +kernel
theorem dJ0_coder_7d493_7 : decode cJ0_coder_7d493 7 = .ok (.getfield 15, 3) := by decide +kernel
theorem dJ0_coder_7d493_10 : decode cJ0_coder_7d493 10 = .ok (.goto 4, 3) := by decide +kernel
theorem dJ0_coder_7d493_13 : decode cJ0_coder_7d493 13 = .ok (.iconst 1, 1) := by decide +kernel
theorem dJ0_coder_7d493_14 : decode cJ0_coder_7d493 14 = .ok (.ireturn, 1) := by decide +kernel
theorem dJ0_isLatin1_aae02_0 : decode cJ0_isLatin1_aae02 0 = .ok (.getstatic 38, 3) := by decide +kernel
theorem dJ0_isLatin1_aae02_3 : decode cJ0_isLatin1_aae02 3 = .ok (.ifCond .eq 14, 3) := by decide +kernel
theorem dJ0_isLatin1_aae02_6 : decode cJ0_isLatin1_aae02 6 = .ok (.aload_n 0, 1) := by decide +kernel
theorem dJ0_isLatin1_aae02_7 : decode cJ0_isLatin1_aae02 7 = .ok (.getfield 15, 3) := by decide +kernel
theorem dJ0_isLatin1_aae02_10 : decode cJ0_isLatin1_aae02 10 = .ok (.ifCond .ne 7, 3) := by decide +kernel
theorem dJ0_isLatin1_aae02_13 : decode cJ0_isLatin1_aae02 13 = .ok (.iconst 1, 1) := by decide +kernel
theorem dJ0_isLatin1_aae02_14 : decode cJ0_isLatin1_aae02 14 = .ok (.goto 4, 3) := by decide +kernel
theorem dJ0_isLatin1_aae02_17 : decode cJ0_isLatin1_aae02 17 = .ok (.iconst 0, 1) := by decide +kernel
theorem dJ0_isLatin1_aae02_18 : decode cJ0_isLatin1_aae02 18 = .ok (.ireturn, 1) := by decide +kernel
theorem dJ0_checkIndex_df160_0 : decode cJ0_checkIndex_df160 0 = .ok (.iload_n 0, 1) := by decide +kernel
theorem dJ0_checkIndex_df160_1 : decode cJ0_checkIndex_df160 1 = .ok (.iload_n 1, 1) := by decide +kernel
theorem dJ0_checkIndex_df160_2 : decode cJ0_checkIndex_df160 2 = .ok (.getstatic 1053, 3) := by decide +kernel
theorem dJ0_checkIndex_df160_5 : decode cJ0_checkIndex_df160 5 = .ok (.invokestatic 1059, 3) := by decide +kernel
theorem dJ0_checkIndex_df160_8 : decode cJ0_checkIndex_df160 8 = .ok (.pop, 1) := by decide +kernel
theorem dJ0_checkIndex_df160_9 : decode cJ0_checkIndex_df160 9 = .ok (.return_, 1) := by decide +kernel
theorem dJ0_checkBoundsBeginEnd_23922_0 : decode cJ0_checkBoundsBeginEnd_23922 0 = .ok (.iload_n 0, 1) := by decide +kernel
theorem dJ0_checkBoundsBeginEnd_23922_1 : decode cJ0_checkBoundsBeginEnd_23922 1 = .ok (.iload_n 1, 1) := by decide +kernel
theorem dJ0_checkBoundsBeginEnd_23922_2 : decode cJ0_checkBoundsBeginEnd_23922 2 = .ok (.iload_n 2, 1) := by decide +kernel
theorem dJ0_checkBoundsBeginEnd_23922_3 : decode cJ0_checkBoundsBeginEnd_23922 3 = .ok (.getstatic 1053, 3) := by decide +kernel
theorem dJ0_checkBoundsBeginEnd_23922_6 : decode cJ0_checkBoundsBeginEnd_23922 6 = .ok (.invokestatic 1062, 3) := by decide +kernel
theorem dJ0_checkBoundsBeginEnd_23922_9 : decode cJ0_checkBoundsBeginEnd_23922 9 = .ok (.pop, 1) := by decide +kernel
theorem dJ0_checkBoundsBeginEnd_23922_10 : decode cJ0_checkBoundsBeginEnd_23922 10 = .ok (.return_, 1) := by decide +kernel
theorem dJ1_charAt_3b067_0 : decode cJ1_charAt_3b067 0 = .ok (.iload_n 1, 1) := by decide +kernel
theorem dJ1_charAt_3b067_1 : decode cJ1_charAt_3b067 1 = .ok (.aload_n 0, 1) := by decide +kernel
theorem dJ1_charAt_3b067_2 : decode cJ1_charAt_3b067 2 = .ok (.arraylength, 1) := by decide +kernel
theorem dJ1_charAt_3b067_3 : decode cJ1_charAt_3b067 3 = .ok (.invokestatic 9, 3) := by decide +kernel
theorem dJ1_charAt_3b067_6 : decode cJ1_charAt_3b067 6 = .ok (.aload_n 0, 1) := by decide +kernel
theorem dJ1_charAt_3b067_7 : decode cJ1_charAt_3b067 7 = .ok (.iload_n 1, 1) := by decide +kernel
theorem dJ1_charAt_3b067_8 : decode cJ1_charAt_3b067 8 = .ok (.baload, 1) := by decide +kernel
theorem dJ1_charAt_3b067_9 : decode cJ1_charAt_3b067 9 = .ok (.sipush 255, 3) := by decide +kernel
theorem dJ1_charAt_3b067_12 : decode cJ1_charAt_3b067 12 = .ok (.iand, 1) := by decide +kernel
theorem dJ1_charAt_3b067_13 : decode cJ1_charAt_3b067 13 = .ok (.i2c, 1) := by decide +kernel
theorem dJ1_charAt_3b067_14 : decode cJ1_charAt_3b067 14 = .ok (.ireturn, 1) := by decide +kernel
theorem dJ1_canEncode_9a6ad_0 : decode cJ1_canEncode_9a6ad 0 = .ok (.iload_n 0, 1) := by decide +kernel
theorem dJ1_canEncode_9a6ad_1 : decode cJ1_canEncode_9a6ad 1 = .ok (.ifCond .lt 14, 3) := by decide +kernel
theorem dJ1_canEncode_9a6ad_4 : decode cJ1_canEncode_9a6ad 4 = .ok (.iload_n 0, 1) := by decide +kernel
theorem dJ1_canEncode_9a6ad_5 : decode cJ1_canEncode_9a6ad 5 = .ok (.sipush 255, 3) := by decide +kernel
theorem dJ1_canEncode_9a6ad_8 : decode cJ1_canEncode_9a6ad 8 = .ok (.if_icmp .gt 7, 3) := by decide +kernel
theorem dJ1_canEncode_9a6ad_11 : decode cJ1_canEncode_9a6ad 11 = .ok (.iconst 1, 1) := by decide +kernel
theorem dJ1_canEncode_9a6ad_12 : decode cJ1_canEncode_9a6ad 12 = .ok (.goto 4, 3) := by decide +kernel
theorem dJ1_canEncode_9a6ad_15 : decode cJ1_canEncode_9a6ad 15 = .ok (.iconst 0, 1) := by decide +kernel
theorem dJ1_canEncode_9a6ad_16 : decode cJ1_canEncode_9a6ad 16 = .ok (.ireturn, 1) := by decide +kernel
theorem dJ1_indexOf_4cfef_0 : decode cJ1_indexOf_4cfef 0 = .ok (.iload_n 1, 1) := by decide +kernel
theorem dJ1_indexOf_4cfef_1 : decode cJ1_indexOf_4cfef 1 = .ok (.invokestatic 88, 3) := by decide +kernel
theorem dJ1_indexOf_4cfef_4 : decode cJ1_indexOf_4cfef 4 = .ok (.ifCond .ne 5, 3) := by decide +kernel
theorem dJ1_indexOf_4cfef_7 : decode cJ1_indexOf_4cfef 7 = .ok (.iconst (-1), 1) := by decide +kernel
theorem dJ1_indexOf_4cfef_8 : decode cJ1_indexOf_4cfef 8 = .ok (.ireturn, 1) := by decide +kernel
theorem dJ1_indexOf_4cfef_9 : decode cJ1_indexOf_4cfef 9 = .ok (.iload_n 2, 1) := by decide +kernel
theorem dJ1_indexOf_4cfef_10 : decode cJ1_indexOf_4cfef 10 = .ok (.iconst 0, 1) := by decide +kernel
theorem dJ1_indexOf_4cfef_11 : decode cJ1_indexOf_4cfef 11 = .ok (.invokestatic 92, 3) := by decide +kernel
theorem dJ1_indexOf_4cfef_14 : decode cJ1_indexOf_4cfef 14 = .ok (.istore_n 2, 1) := by decide +kernel
theorem dJ1_indexOf_4cfef_15 : decode cJ1_indexOf_4cfef 15 = .ok (.iload_n 3, 1) := by decide +kernel
theorem dJ1_indexOf_4cfef_16 : decode cJ1_indexOf_4cfef 16 = .ok (.aload_n 0, 1) := by decide +kernel
theorem dJ1_indexOf_4cfef_17 : decode cJ1_indexOf_4cfef 17 = .ok (.arraylength, 1) := by decide +kernel
theorem dJ1_indexOf_4cfef_18 : decode cJ1_indexOf_4cfef 18 = .ok (.invokestatic 38, 3) := by decide +kernel
theorem dJ1_indexOf_4cfef_21 : decode cJ1_indexOf_4cfef 21 = .ok (.istore_n 3, 1) := by decide +kernel
theorem dJ1_indexOf_4cfef_22 : decode cJ1_indexOf_4cfef 22 = .ok (.iload_n 2, 1) := by decide +kernel
theorem dJ1_indexOf_4cfef_23 : decode cJ1_indexOf_4cfef 23 = .ok (.iload_n 3, 1) := by decide +kernel
theorem dJ1_indexOf_4cfef_24 : decode cJ1_indexOf_4cfef 24 = .ok (.if_icmp .lt 5, 3) := by decide +kernel
theorem dJ1_indexOf_4cfef_27 : decode cJ1_indexOf_4cfef 27 = .ok (.iconst (-1), 1) := by decide +kernel
theorem dJ1_indexOf_4cfef_28 : decode cJ1_indexOf_4cfef 28 = .ok (.ireturn, 1) := by decide +kernel
theorem dJ1_indexOf_4cfef_29 : decode cJ1_indexOf_4cfef 29 = .ok (.aload_n 0, 1) := by decide +kernel
theorem dJ1_indexOf_4cfef_30 : decode cJ1_indexOf_4cfef 30 = .ok (.iload_n 1, 1) := by decide +kernel
theorem dJ1_indexOf_4cfef_31 : decode cJ1_indexOf_4cfef 31 = .ok (.iload_n 2, 1) := by decide +kernel
theorem dJ1_indexOf_4cfef_32 : decode cJ1_indexOf_4cfef 32 = .ok (.iload_n 3, 1) := by decide +kernel
theorem dJ1_indexOf_4cfef_33 : decode cJ1_indexOf_4cfef 33 = .ok (.invokestatic 95, 3) := by decide +kernel
theorem dJ1_indexOf_4cfef_36 : decode cJ1_indexOf_4cfef 36 = .ok (.ireturn, 1) := by decide +kernel
theorem dJ1_indexOfChar_4cfef_0 : decode cJ1_indexOfChar_4cfef 0 = .ok (.iload_n 1, 1) := by decide +kernel
theorem dJ1_indexOfChar_4cfef_1 : decode cJ1_indexOfChar_4cfef 1 = .ok (.i2b, 1) := by decide +kernel
theorem dJ1_indexOfChar_4cfef_2 : decode cJ1_indexOfChar_4cfef 2 = .ok (.istore 4, 2) := by decide +kernel
theorem dJ1_indexOfChar_4cfef_4 : decode cJ1_indexOfChar_4cfef 4 = .ok (.iload_n 2, 1) := by decide +kernel
theorem dJ1_indexOfChar_4cfef_5 : decode cJ1_indexOfChar_4cfef 5 = .ok (.istore 5, 2) := by decide +kernel
theorem dJ1_indexOfChar_4cfef_7 : decode cJ1_indexOfChar_4cfef 7 = .ok (.iload 5, 2) := by decide +kernel
theorem dJ1_indexOfChar_4cfef_9 : decode cJ1_indexOfChar_4cfef 9 = .ok (.iload_n 3, 1) := by decide +kernel
theorem dJ1_indexOfChar_4cfef_10 : decode cJ1_indexOfChar_4cfef 10 = .ok (.if_icmp .ge 21, 3) := by decide +kernel
theorem dJ1_indexOfChar_4cfef_13 : decode cJ1_indexOfChar_4cfef 13 = .ok (.aload_n 0, 1) := by decide +kernel
theorem dJ1_indexOfChar_4cfef_14 : decode cJ1_indexOfChar_4cfef 14 = .ok (.iload 5, 2) := by decide +kernel
theorem dJ1_indexOfChar_4cfef_16 : decode cJ1_indexOfChar_4cfef 16 = .ok (.baload, 1) := by decide +kernel
theorem dJ1_indexOfChar_4cfef_17 : decode cJ1_indexOfChar_4cfef 17 = .ok (.iload 4, 2) := by decide +kernel
theorem dJ1_indexOfChar_4cfef_19 : decode cJ1_indexOfChar_4cfef 19 = .ok (.if_icmp .ne 6, 3) := by decide +kernel
theorem dJ1_indexOfChar_4cfef_22 : decode cJ1_indexOfChar_4cfef 22 = .ok (.iload 5, 2) := by decide +kernel
theorem dJ1_indexOfChar_4cfef_24 : decode cJ1_indexOfChar_4cfef 24 = .ok (.ireturn, 1) := by decide +kernel
theorem dJ1_indexOfChar_4cfef_25 : decode cJ1_indexOfChar_4cfef 25 = .ok (.iinc 5 1, 3) := by decide +kernel
theorem dJ1_indexOfChar_4cfef_28 : decode cJ1_indexOfChar_4cfef 28 = .ok (.goto (-21), 3) := by decide +kernel
theorem dJ1_indexOfChar_4cfef_31 : decode cJ1_indexOfChar_4cfef 31 = .ok (.iconst (-1), 1) := by decide +kernel
theorem dJ1_indexOfChar_4cfef_32 : decode cJ1_indexOfChar_4cfef 32 = .ok (.ireturn, 1) := by decide +kernel
theorem dJ3_checkIndex_8e157_0 : decode cJ3_checkIndex_8e157 0 = .ok (.iload_n 0, 1) := by decide +kernel
theorem dJ3_checkIndex_8e157_1 : decode cJ3_checkIndex_8e157 1 = .ok (.ifCond .lt 8, 3) := by decide +kernel
theorem dJ3_checkIndex_8e157_4 : decode cJ3_checkIndex_8e157 4 = .ok (.iload_n 0, 1) := by decide +kernel
theorem dJ3_checkIndex_8e157_5 : decode cJ3_checkIndex_8e157 5 = .ok (.iload_n 1, 1) := by decide +kernel
theorem dJ3_checkIndex_8e157_6 : decode cJ3_checkIndex_8e157 6 = .ok (.if_icmp .lt 10, 3) := by decide +kernel
theorem dJ3_checkIndex_8e157_9 : decode cJ3_checkIndex_8e157 9 = .ok (.aload_n 2, 1) := by decide +kernel
theorem dJ3_checkIndex_8e157_10 : decode cJ3_checkIndex_8e157 10 = .ok (.iload_n 0, 1) := by decide +kernel
theorem dJ3_checkIndex_8e157_11 : decode cJ3_checkIndex_8e157 11 = .ok (.iload_n 1, 1) := by decide +kernel
theorem dJ3_checkIndex_8e157_12 : decode cJ3_checkIndex_8e157 12 = .ok (.invokestatic 95, 3) := by decide +kernel
theorem dJ3_checkIndex_8e157_15 : decode cJ3_checkIndex_8e157 15 = .ok (.athrow, 1) := by decide +kernel
theorem dJ3_checkIndex_8e157_16 : decode cJ3_checkIndex_8e157 16 = .ok (.iload_n 0, 1) := by decide +kernel
theorem dJ3_checkIndex_8e157_17 : decode cJ3_checkIndex_8e157 17 = .ok (.ireturn, 1) := by decide +kernel
theorem dJ3_checkFromToIndex_8c36e_0 : decode cJ3_checkFromToIndex_8c36e 0 = .ok (.iload_n 0, 1) := by decide +kernel
theorem dJ3_checkFromToIndex_8c36e_1 : decode cJ3_checkFromToIndex_8c36e 1 = .ok (.ifCond .lt 13, 3) := by decide +kernel
theorem dJ3_checkFromToIndex_8c36e_4 : decode cJ3_checkFromToIndex_8c36e 4 = .ok (.iload_n 0, 1) := by decide +kernel
theorem dJ3_checkFromToIndex_8c36e_5 : decode cJ3_checkFromToIndex_8c36e 5 = .ok (.iload_n 1, 1) := by decide +kernel
theorem dJ3_checkFromToIndex_8c36e_6 : decode cJ3_checkFromToIndex_8c36e 6 = .ok (.if_icmp .gt 8, 3) := by decide +kernel
theorem dJ3_checkFromToIndex_8c36e_9 : decode cJ3_checkFromToIndex_8c36e 9 = .ok (.iload_n 1, 1) := by decide +kernel
theorem dJ3_checkFromToIndex_8c36e_10 : decode cJ3_checkFromToIndex_8c36e 10 = .ok (.iload_n 2, 1) := by decide +kernel
theorem dJ3_checkFromToIndex_8c36e_11 : decode cJ3_checkFromToIndex_8c36e 11 = .ok (.if_icmp .le 11, 3) := by decide +kernel
theorem dJ3_checkFromToIndex_8c36e_14 : decode cJ3_checkFromToIndex_8c36e 14 = .ok (.aload_n 3, 1) := by decide +kernel
theorem dJ3_checkFromToIndex_8c36e_15 : decode cJ3_checkFromToIndex_8c36e 15 = .ok (.iload_n 0, 1) := by decide +kernel
theorem dJ3_checkFromToIndex_8c36e_16 : decode cJ3_checkFromToIndex_8c36e 16 = .ok (.iload_n 1, 1) := by decide +kernel
theorem dJ3_checkFromToIndex_8c36e_17 : decode cJ3_checkFromToIndex_8c36e 17 = .ok (.iload_n 2, 1) := by decide +kernel
theorem dJ3_checkFromToIndex_8c36e_18 : decode cJ3_checkFromToIndex_8c36e 18 = .ok (.invokestatic 99, 3) := by decide +kernel
theorem dJ3_checkFromToIndex_8c36e_21 : decode cJ3_checkFromToIndex_8c36e 21 = .ok (.athrow, 1) := by decide +kernel
theorem dJ3_checkFromToIndex_8c36e_22 : decode cJ3_checkFromToIndex_8c36e 22 = .ok (.iload_n 0, 1) := by decide +kernel
theorem dJ3_checkFromToIndex_8c36e_23 : decode cJ3_checkFromToIndex_8c36e 23 = .ok (.ireturn, 1) := by decide +kernel
end
section
/-! decode rows (printed by program) -/
theorem dX4_init_0 : decode cX4_init 0 = .ok (.aload_n 0, 1) := by decide +kernel
theorem dX4_init_1 : decode cX4_init 1 = .ok (.invokespecial 1, 3) := by decide +kernel
theorem dX4_init_4 : decode cX4_init 4 = .ok (.aload_n 0, 1) := by decide +kernel
theorem dX4_init_5 : decode cX4_init 5 = .ok (.bipush 6, 2) := by decide +kernel
theorem dX4_init_7 : decode cX4_init 7 = .ok (.anewarray 9, 3) := by decide +kernel
theorem dX4_init_10 : decode cX4_init 10 = .ok (.putfield 11, 3) := by decide +kernel
theorem dX4_init_13 : decode cX4_init 13 = .ok (.aload_n 0, 1) := by decide +kernel
theorem dX4_init_14 : decode cX4_init 14 = .ok (.iconst 4, 1) := by decide +kernel
theorem dX4_init_15 : decode cX4_init 15 = .ok (.anewarray 15, 3) := by decide +kernel
theorem dX4_init_18 : decode cX4_init 18 = .ok (.putfield 17, 3) := by decide +kernel
theorem dX4_init_21 : decode cX4_init 21 = .ok (.aload_n 0, 1) := by decide +kernel
theorem dX4_init_22 : decode cX4_init 22 = .ok (.new 21, 3) := by decide +kernel
theorem dX4_init_25 : decode cX4_init 25 = .ok (.dup, 1) := by decide +kernel
theorem dX4_init_26 : decode cX4_init 26 = .ok (.invokespecial 23, 3) := by decide +kernel
theorem dX4_init_29 : decode cX4_init 29 = .ok (.putfield 24, 3) := by decide +kernel
theorem dX4_init_32 : decode cX4_init 32 = .ok (.aload_n 0, 1) := by decide +kernel
theorem dX4_init_33 : decode cX4_init 33 = .ok (.bipush 41, 2) := by decide +kernel
theorem dX4_init_35 : decode cX4_init 35 = .ok (.newarray .int, 2) := by decide +kernel
theorem dX4_init_37 : decode cX4_init 37 = .ok (.putfield 28, 3) := by decide +kernel
theorem dX4_init_40 : decode cX4_init 40 = .ok (.iconst 0, 1) := by decide +kernel
theorem dX4_init_41 : decode cX4_init 41 = .ok (.istore_n 1, 1) := by decide +kernel
theorem dX4_init_42 : decode cX4_init 42 = .ok (.iload_n 1, 1) := by decide +kernel
theorem dX4_init_43 : decode cX4_init 43 = .ok (.bipush 6, 2) := by decide +kernel
theorem dX4_init_45 : decode cX4_init 45 = .ok (.if_icmp .ge 22, 3) := by decide +kernel
theorem dX4_init_48 : decode cX4_init 48 = .ok (.aload_n 0, 1) := by decide +kernel
theorem dX4_init_49 : decode cX4_init 49 = .ok (.getfield 11, 3) := by decide +kernel
theorem dX4_init_52 : decode cX4_init 52 = .ok (.iload_n 1, 1) := by decide +kernel
theorem dX4_init_53 : decode cX4_init 53 = .ok (.new 9, 3) := by decide +kernel
theorem dX4_init_56 : decode cX4_init 56 = .ok (.dup, 1) := by decide +kernel
theorem dX4_init_57 : decode cX4_init 57 = .ok (.invokespecial 32, 3) := by decide +kernel
theorem dX4_init_60 : decode cX4_init 60 = .ok (.aastore, 1) := by decide +kernel
theorem dX4_init_61 : decode cX4_init 61 = .ok (.iinc 1 1, 3) := by decide +kernel
theorem dX4_init_64 : decode cX4_init 64 = .ok (.goto (-22), 3) := by decide +kernel
theorem dX4_init_67 : decode cX4_init 67 = .ok (.iconst 0, 1) := by decide +kernel
theorem dX4_init_68 : decode cX4_init 68 = .ok (.istore_n 1, 1) := by decide +kernel
theorem dX4_init_69 : decode cX4_init 69 = .ok (.iload_n 1, 1) := by decide +kernel
theorem dX4_init_70 : decode cX4_init 70 = .ok (.iconst 4, 1) := by decide +kernel
theorem dX4_init_71 : decode cX4_init 71 = .ok (.if_icmp .ge 22, 3) := by decide +kernel
theorem dX4_init_74 : decode cX4_init 74 = .ok (.aload_n 0, 1) := by decide +kernel
theorem dX4_init_75 : decode cX4_init 75 = .ok (.getfield 17, 3) := by decide +kernel
theorem dX4_init_78 : decode cX4_init 78 = .ok (.iload_n 1, 1) := by decide +kernel
theorem dX4_init_79 : decode cX4_init 79 = .ok (.new 15, 3) := by decide +kernel
theorem dX4_init_82 : decode cX4_init 82 = .ok (.dup, 1) := by decide +kernel
theorem dX4_init_83 : decode cX4_init 83 = .ok (.invokespecial 33, 3) := by decide +kernel
theorem dX4_init_86 : decode cX4_init 86 = .ok (.aastore, 1) := by decide +kernel
theorem dX4_init_87 : decode cX4_init 87 = .ok (.iinc 1 1, 3) := by decide +kernel
theorem dX4_init_90 : decode cX4_init 90 = .ok (.goto (-21), 3) := by decide +kernel
theorem dX4_init_93 : decode cX4_init 93 = .ok (.aload_n 0, 1) := by decide +kernel
theorem dX4_init_94 : decode cX4_init 94 = .ok (.new 34, 3) := by decide +kernel
theorem dX4_init_97 : decode cX4_init 97 = .ok (.dup, 1) := by decide +kernel
theorem dX4_init_98 : decode cX4_init 98 = .ok (.aload_n 0, 1) := by decide +kernel
theorem dX4_init_99 : decode cX4_init 99 = .ok (.getfield 11, 3) := by decide +kernel
theorem dX4_init_102 : decode cX4_init 102 = .ok (.invokespecial 36, 3) := by decide +kernel
theorem dX4_init_105 : decode cX4_init 105 = .ok (.putfield 39, 3) := by decide +kernel
theorem dX4_init_108 : decode cX4_init 108 = .ok (.aload_n 0, 1) := by decide +kernel
theorem dX4_init_109 : decode cX4_init 109 = .ok (.new 34, 3) := by decide +kernel
theorem dX4_init_112 : decode cX4_init 112 = .ok (.dup, 1) := by decide +kernel
theorem dX4_init_113 : decode cX4_init 113 = .ok (.aload_n 0, 1) := by decide +kernel
theorem dX4_init_114 : decode cX4_init 114 = .ok (.getfield 11, 3) := by decide +kernel
theorem dX4_init_117 : decode cX4_init 117 = .ok (.invokespecial 36, 3) := by decide +kernel
theorem dX4_init_120 : decode cX4_init 120 = .ok (.putfield 43, 3) := by decide +kernel
theorem dX4_init_123 : decode cX4_init 123 = .ok (.aload_n 0, 1) := by decide +kernel
theorem dX4_init_124 : decode cX4_init 124 = .ok (.new 34, 3) := by decide +kernel
theorem dX4_init_127 : decode cX4_init 127 = .ok (.dup, 1) := by decide +kernel
theorem dX4_init_128 : decode cX4_init 128 = .ok (.aload_n 0, 1) := by decide +kernel
theorem dX4_init_129 : decode cX4_init 129 = .ok (.getfield 11, 3) := by decide +kernel
theorem dX4_init_132 : decode cX4_init 132 = .ok (.invokespecial 36, 3) := by decide +kernel
theorem dX4_init_135 : decode cX4_init 135 = .ok (.putfield 46, 3) := by decide +kernel
theorem dX4_init_138 : decode cX4_init 138 = .ok (.iconst 0, 1) := by decide +kernel
theorem dX4_init_139 : decode cX4_init 139 = .ok (.istore_n 1, 1) := by decide +kernel
theorem dX4_init_140 : decode cX4_init 140 = .ok (.iload_n 1, 1) := by decide +kernel
theorem dX4_init_141 : decode cX4_init 141 = .ok (.ldc 49, 2) := by decide +kernel
theorem dX4_init_143 : decode cX4_init 143 = .ok (.invokevirtual 51, 3) := by decide +kernel
theorem dX4_init_146 : decode cX4_init 146 = .ok (.if_icmp .ge 23, 3) := by decide +kernel
theorem dX4_init_149 : decode cX4_init 149 = .ok (.aload_n 0, 1) := by decide +kernel
theorem dX4_init_150 : decode cX4_init 150 = .ok (.getfield 24, 3) := by decide +kernel
theorem dX4_init_153 : decode cX4_init 153 = .ok (.ldc 49, 2) := by decide +kernel
theorem dX4_init_155 : decode cX4_init 155 = .ok (.iload_n 1, 1) := by decide +kernel
theorem dX4_init_156 : decode cX4_init 156 = .ok (.invokevirtual 57, 3) := by decide +kernel
theorem dX4_init_159 : decode cX4_init 159 = .ok (.invokevirtual 61, 3) := by decide +kernel
theorem dX4_init_162 : decode cX4_init 162 = .ok (.pop, 1) := by decide +kernel
theorem dX4_init_163 : decode cX4_init 163 = .ok (.iinc 1 1, 3) := by decide +kernel
theorem dX4_init_166 : decode cX4_init 166 = .ok (.goto (-26), 3) := by decide +kernel
theorem dX4_init_169 : decode cX4_init 169 = .ok (.aload_n 0, 1) := by decide +kernel
theorem dX4_init_170 : decode cX4_init 170 = .ok (.getfield 24, 3) := by decide +kernel
theorem dX4_init_173 : decode cX4_init 173 = .ok (.aload_n 0, 1) := by decide +kernel
theorem dX4_init_174 : decode cX4_init 174 = .ok (.getfield 11, 3) := by decide +kernel
theorem dX4_init_177 : decode cX4_init 177 = .ok (.iconst 0, 1) := by decide +kernel
theorem dX4_init_178 : decode cX4_init 178 = .ok (.aaload, 1) := by decide +kernel
theorem dX4_init_179 : decode cX4_init 179 = .ok (.invokevirtual 65, 3) := by decide +kernel
theorem dX4_init_182 : decode cX4_init 182 = .ok (.pop, 1) := by decide +kernel
theorem dX4_init_183 : decode cX4_init 183 = .ok (.aload_n 0, 1) := by decide +kernel
theorem dX4_init_184 : decode cX4_init 184 = .ok (.getfield 24, 3) := by decide +kernel
theorem dX4_init_187 : decode cX4_init 187 = .ok (.iconst 0, 1) := by decide +kernel
theorem dX4_init_188 : decode cX4_init 188 = .ok (.putfield 69, 3) := by decide +kernel
theorem dX4_init_191 : decode cX4_init 191 = .ok (.aload_n 0, 1) := by decide +kernel
theorem dX4_init_192 : decode cX4_init 192 = .ok (.iconst 1, 1) := by decide +kernel
theorem dX4_init_193 : decode cX4_init 193 = .ok (.putfield 73, 3) := by decide +kernel
theorem dX4_init_196 : decode cX4_init 196 = .ok (.return_, 1) := by decide +kernel
theorem dX4_set_0 : decode cX4_set 0 = .ok (.iload_n 1, 1) := by decide +kernel
theorem dX4_set_1 : decode cX4_set 1 = .ok (.iconst 0, 1) := by decide +kernel
theorem dX4_set_2 : decode cX4_set 2 = .ok (.iconst 3, 1) := by decide +kernel
theorem dX4_set_3 : decode cX4_set 3 = .ok (.invokestatic 76, 3) := by decide +kernel
theorem dX4_set_6 : decode cX4_set 6 = .ok (.ifCond .eq 20, 3) := by decide +kernel
theorem dX4_set_9 : decode cX4_set 9 = .ok (.aload_n 0, 1) := by decide +kernel
theorem dX4_set_10 : decode cX4_set 10 = .ok (.iload_n 1, 1) := by decide +kernel
theorem dX4_set_11 : decode cX4_set 11 = .ok (.iload_n 2, 1) := by decide +kernel
theorem dX4_set_12 : decode cX4_set 12 = .ok (.invokevirtual 80, 3) := by decide +kernel
theorem dX4_set_15 : decode cX4_set 15 = .ok (.ifCond .eq 11, 3) := by decide +kernel
theorem dX4_set_18 : decode cX4_set 18 = .ok (.iload_n 1, 1) := by decide +kernel
theorem dX4_set_19 : decode cX4_set 19 = .ok (.iload_n 3, 1) := by decide +kernel
theorem dX4_set_20 : decode cX4_set 20 = .ok (.invokestatic 84, 3) := by decide +kernel
theorem dX4_set_23 : decode cX4_set 23 = .ok (.ifCond .ne 7, 3) := by decide +kernel
theorem dX4_set_26 : decode cX4_set 26 = .ok (.sipush (-1000), 3) := by decide +kernel
theorem dX4_set_29 : decode cX4_set 29 = .ok (.ireturn, 1) := by decide +kernel
theorem dX4_set_30 : decode cX4_set 30 = .ok (.aload_n 0, 1) := by decide +kernel
theorem dX4_set_31 : decode cX4_set 31 = .ok (.iload_n 1, 1) := by decide +kernel
theorem dX4_set_32 : decode cX4_set 32 = .ok (.iload_n 2, 1) := by decide +kernel
theorem dX4_set_33 : decode cX4_set 33 = .ok (.invokevirtual 87, 3) := by decide +kernel
theorem dX4_set_36 : decode cX4_set 36 = .ok (.istore 4, 2) := by decide +kernel
theorem dX4_set_38 : decode cX4_set 38 = .ok (.iload_n 1, 1) := by decide +kernel
theorem dX4_set_39 : decode cX4_set 39 = .ok (.tableswitch 76 0 2 #[25, 36, 63], 25) := by decide +kernel
theorem dX4_set_64 : decode cX4_set 64 = .ok (.aload_n 0, 1) := by decide +kernel
theorem dX4_set_65 : decode cX4_set 65 = .ok (.getfield 39, 3) := by decide +kernel
theorem dX4_set_68 : decode cX4_set 68 = .ok (.iload_n 3, 1) := by decide +kernel
theorem dX4_set_69 : decode cX4_set 69 = .ok (.putfield 91, 3) := by decide +kernel
theorem dX4_set_72 : decode cX4_set 72 = .ok (.goto 53, 3) := by decide +kernel
theorem dX4_set_75 : decode cX4_set 75 = .ok (.aload_n 0, 1) := by decide +kernel
theorem dX4_set_76 : decode cX4_set 76 = .ok (.getfield 39, 3) := by decide +kernel
theorem dX4_set_79 : decode cX4_set 79 = .ok (.aload_n 0, 1) := by decide +kernel
theorem dX4_set_80 : decode cX4_set 80 = .ok (.getfield 39, 3) := by decide +kernel
theorem dX4_set_83 : decode cX4_set 83 = .ok (.getfield 94, 3) := by decide +kernel
theorem dX4_set_86 : decode cX4_set 86 = .ok (.iconst 1, 1) := by decide +kernel
theorem dX4_set_87 : decode cX4_set 87 = .ok (.iload_n 2, 1) := by decide +kernel
theorem dX4_set_88 : decode cX4_set 88 = .ok (.ishl, 1) := by decide +kernel
theorem dX4_set_89 : decode cX4_set 89 = .ok (.iconst (-1), 1) := by decide +kernel
theorem dX4_set_90 : decode cX4_set 90 = .ok (.ixor, 1) := by decide +kernel
theorem dX4_set_91 : decode cX4_set 91 = .ok (.iand, 1) := by decide +kernel
theorem dX4_set_92 : decode cX4_set 92 = .ok (.iload_n 3, 1) := by decide +kernel
theorem dX4_set_93 : decode cX4_set 93 = .ok (.iload_n 2, 1) := by decide +kernel
theorem dX4_set_94 : decode cX4_set 94 = .ok (.ishl, 1) := by decide +kernel
theorem dX4_set_95 : decode cX4_set 95 = .ok (.ior, 1) := by decide +kernel
theorem dX4_set_96 : decode cX4_set 96 = .ok (.putfield 94, 3) := by decide +kernel
theorem dX4_set_99 : decode cX4_set 99 = .ok (.goto 26, 3) := by decide +kernel
theorem dX4_set_102 : decode cX4_set 102 = .ok (.aload_n 0, 1) := by decide +kernel
theorem dX4_set_103 : decode cX4_set 103 = .ok (.getfield 39, 3) := by decide +kernel
theorem dX4_set_106 : decode cX4_set 106 = .ok (.getfield 97, 3) := by decide +kernel
theorem dX4_set_109 : decode cX4_set 109 = .ok (.iload_n 2, 1) := by decide +kernel
theorem dX4_set_110 : decode cX4_set 110 = .ok (.iload_n 3, 1) := by decide +kernel
theorem dX4_set_111 : decode cX4_set 111 = .ok (.iastore, 1) := by decide +kernel
theorem dX4_set_112 : decode cX4_set 112 = .ok (.goto 13, 3) := by decide +kernel
theorem dX4_set_115 : decode cX4_set 115 = .ok (.aload_n 0, 1) := by decide +kernel
theorem dX4_set_116 : decode cX4_set 116 = .ok (.getfield 39, 3) := by decide +kernel
theorem dX4_set_119 : decode cX4_set 119 = .ok (.getfield 100, 3) := by decide +kernel
theorem dX4_set_122 : decode cX4_set 122 = .ok (.iload_n 2, 1) := by decide +kernel
theorem dX4_set_123 : decode cX4_set 123 = .ok (.iload_n 3, 1) := by decide +kernel
theorem dX4_set_124 : decode cX4_set 124 = .ok (.iastore, 1) := by decide +kernel
theorem dX4_set_125 : decode cX4_set 125 = .ok (.iload 4, 2) := by decide +kernel
theorem dX4_set_127 : decode cX4_set 127 = .ok (.ireturn, 1) := by decide +kernel
theorem dX4_person_0 : decode cX4_person 0 = .ok (.iload_n 1, 1) := by decide +kernel
theorem dX4_person_1 : decode cX4_person 1 = .ok (.iconst 0, 1) := by decide +kernel
theorem dX4_person_2 : decode cX4_person 2 = .ok (.iconst 5, 1) := by decide +kernel
theorem dX4_person_3 : decode cX4_person 3 = .ok (.invokestatic 76, 3) := by decide +kernel
theorem dX4_person_6 : decode cX4_person 6 = .ok (.ifCond .eq 13, 3) := by decide +kernel
theorem dX4_person_9 : decode cX4_person 9 = .ok (.iload_n 2, 1) := by decide +kernel
theorem dX4_person_10 : decode cX4_person 10 = .ok (.iconst 0, 1) := by decide +kernel
theorem dX4_person_11 : decode cX4_person 11 = .ok (.bipush 9, 2) := by decide +kernel
theorem dX4_person_13 : decode cX4_person 13 = .ok (.invokestatic 76, 3) := by decide +kernel
theorem dX4_person_16 : decode cX4_person 16 = .ok (.ifCond .ne 6, 3) := by decide +kernel
theorem dX4_person_19 : decode cX4_person 19 = .ok (.bipush (-2), 2) := by decide +kernel
theorem dX4_person_21 : decode cX4_person 21 = .ok (.ireturn, 1) := by decide +kernel
theorem dX4_person_22 : decode cX4_person 22 = .ok (.aload_n 0, 1) := by decide +kernel
theorem dX4_person_23 : decode cX4_person 23 = .ok (.getfield 39, 3) := by decide +kernel
theorem dX4_person_26 : decode cX4_person 26 = .ok (.iload_n 1, 1) := by decide +kernel
theorem dX4_person_27 : decode cX4_person 27 = .ok (.iload_n 2, 1) := by decide +kernel
theorem dX4_person_28 : decode cX4_person 28 = .ok (.invokevirtual 103, 3) := by decide +kernel
theorem dX4_person_31 : decode cX4_person 31 = .ok (.ireturn, 1) := by decide +kernel
theorem dX4_told_0 : decode cX4_told 0 = .ok (.iload_n 2, 1) := by decide +kernel
theorem dX4_told_1 : decode cX4_told 1 = .ok (.iconst 0, 1) := by decide +kernel
theorem dX4_told_2 : decode cX4_told 2 = .ok (.bipush 7, 2) := by decide +kernel
theorem dX4_told_4 : decode cX4_told 4 = .ok (.invokestatic 76, 3) := by decide +kernel
theorem dX4_told_7 : decode cX4_told 7 = .ok (.ifCond .eq 12, 3) := by decide +kernel
theorem dX4_told_10 : decode cX4_told 10 = .ok (.aload_n 0, 1) := by decide +kernel
theorem dX4_told_11 : decode cX4_told 11 = .ok (.iload_n 2, 1) := by decide +kernel
theorem dX4_told_12 : decode cX4_told 12 = .ok (.iload_n 1, 1) := by decide +kernel
theorem dX4_told_13 : decode cX4_told 13 = .ok (.invokevirtual 80, 3) := by decide +kernel
theorem dX4_told_16 : decode cX4_told 16 = .ok (.ifCond .ne 7, 3) := by decide +kernel
theorem dX4_told_19 : decode cX4_told 19 = .ok (.sipush (-1000), 3) := by decide +kernel
theorem dX4_told_22 : decode cX4_told 22 = .ok (.ireturn, 1) := by decide +kernel
theorem dX4_told_23 : decode cX4_told 23 = .ok (.iload_n 2, 1) := by decide +kernel
theorem dX4_told_24 : decode cX4_told 24 = .ok (.tableswitch 89 4 7 #[32, 42, 51, 60], 32) := by decide +kernel
theorem dX4_told_56 : decode cX4_told 56 = .ok (.aload_n 0, 1) := by decide +kernel
theorem dX4_told_57 : decode cX4_told 57 = .ok (.getfield 39, 3) := by decide +kernel
theorem dX4_told_60 : decode cX4_told 60 = .ok (.getfield 106, 3) := by decide +kernel
theorem dX4_told_63 : decode cX4_told 63 = .ok (.iload_n 1, 1) := by decide +kernel
theorem dX4_told_64 : decode cX4_told 64 = .ok (.iaload, 1) := by decide +kernel
theorem dX4_told_65 : decode cX4_told 65 = .ok (.ireturn, 1) := by decide +kernel
theorem dX4_told_66 : decode cX4_told 66 = .ok (.aload_n 0, 1) := by decide +kernel
theorem dX4_told_67 : decode cX4_told 67 = .ok (.getfield 39, 3) := by decide +kernel
theorem dX4_told_70 : decode cX4_told 70 = .ok (.iload_n 1, 1) := by decide +kernel
theorem dX4_told_71 : decode cX4_told 71 = .ok (.invokevirtual 109, 3) := by decide +kernel
theorem dX4_told_74 : decode cX4_told 74 = .ok (.ireturn, 1) := by decide +kernel
theorem dX4_told_75 : decode cX4_told 75 = .ok (.aload_n 0, 1) := by decide +kernel
theorem dX4_told_76 : decode cX4_told 76 = .ok (.getfield 39, 3) := by decide +kernel
theorem dX4_told_79 : decode cX4_told 79 = .ok (.iload_n 1, 1) := by decide +kernel
theorem dX4_told_80 : decode cX4_told 80 = .ok (.invokevirtual 113, 3) := by decide +kernel
theorem dX4_told_83 : decode cX4_told 83 = .ok (.ireturn, 1) := by decide +kernel
theorem dX4_told_84 : decode cX4_told 84 = .ok (.aload_n 0, 1) := by decide +kernel
theorem dX4_told_85 : decode cX4_told 85 = .ok (.getfield 43, 3) := by decide +kernel
theorem dX4_told_88 : decode cX4_told 88 = .ok (.aload_n 0, 1) := by decide +kernel
theorem dX4_told_89 : decode cX4_told 89 = .ok (.getfield 39, 3) := by decide +kernel
theorem dX4_told_92 : decode cX4_told 92 = .ok (.invokevirtual 116, 3) := by decide +kernel
theorem dX4_told_95 : decode cX4_told 95 = .ok (.aload_n 0, 1) := by decide +kernel
theorem dX4_told_96 : decode cX4_told 96 = .ok (.getfield 43, 3) := by decide +kernel
theorem dX4_told_99 : decode cX4_told 99 = .ok (.invokevirtual 120, 3) := by decide +kernel
theorem dX4_told_102 : decode cX4_told 102 = .ok (.pop, 1) := by decide +kernel
theorem dX4_told_103 : decode cX4_told 103 = .ok (.aload_n 0, 1) := by decide +kernel
theorem dX4_told_104 : decode cX4_told 104 = .ok (.getfield 43, 3) := by decide +kernel
theorem dX4_told_107 : decode cX4_told 107 = .ok (.getfield 100, 3) := by decide +kernel
theorem dX4_told_110 : decode cX4_told 110 = .ok (.iload_n 1, 1) := by decide +kernel
theorem dX4_told_111 : decode cX4_told 111 = .ok (.iaload, 1) := by decide +kernel
theorem dX4_told_112 : decode cX4_told 112 = .ok (.ireturn, 1) := by decide +kernel
theorem dX4_told_113 : decode cX4_told 113 = .ok (.aload_n 0, 1) := by decide +kernel
theorem dX4_told_114 : decode cX4_told 114 = .ok (.iload_n 2, 1) := by decide +kernel
theorem dX4_told_115 : decode cX4_told 115 = .ok (.iload_n 1, 1) := by decide +kernel
theorem dX4_told_116 : decode cX4_told 116 = .ok (.invokevirtual 87, 3) := by decide +kernel
theorem dX4_told_119 : decode cX4_told 119 = .ok (.ireturn, 1) := by decide +kernel
theorem dX4_isThere_0 : decode cX4_isThere 0 = .ok (.iload_n 1, 1) := by decide +kernel
theorem dX4_isThere_1 : decode cX4_isThere 1 = .ok (.ifCond .ne 5, 3) := by decide +kernel
theorem dX4_isThere_4 : decode cX4_isThere 4 = .ok (.iconst 1, 1) := by decide +kernel
theorem dX4_isThere_5 : decode cX4_isThere 5 = .ok (.ireturn, 1) := by decide +kernel
theorem dX4_isThere_6 : decode cX4_isThere 6 = .ok (.iload_n 1, 1) := by decide +kernel
theorem dX4_isThere_7 : decode cX4_isThere 7 = .ok (.iconst 1, 1) := by decide +kernel
theorem dX4_isThere_8 : decode cX4_isThere 8 = .ok (.if_icmp .ne 13, 3) := by decide +kernel
theorem dX4_isThere_11 : decode cX4_isThere 11 = .ok (.iload_n 2, 1) := by decide +kernel
theorem dX4_isThere_12 : decode cX4_isThere 12 = .ok (.iconst 0, 1) := by decide +kernel
theorem dX4_isThere_13 : decode cX4_isThere 13 = .ok (.bipush 7, 2) := by decide +kernel
theorem dX4_isThere_15 : decode cX4_isThere 15 = .ok (.invokestatic 76, 3) := by decide +kernel
theorem dX4_isThere_18 : decode cX4_isThere 18 = .ok (.goto 8, 3) := by decide +kernel
theorem dX4_isThere_21 : decode cX4_isThere 21 = .ok (.aload_n 0, 1) := by decide +kernel
theorem dX4_isThere_22 : decode cX4_isThere 22 = .ok (.iload_n 2, 1) := by decide +kernel
theorem dX4_isThere_23 : decode cX4_isThere 23 = .ok (.invokevirtual 124, 3) := by decide +kernel
theorem dX4_isThere_26 : decode cX4_isThere 26 = .ok (.ireturn, 1) := by decide +kernel
theorem dX4_fits_0 : decode cX4_fits 0 = .ok (.iload_n 0, 1) := by decide +kernel
theorem dX4_fits_1 : decode cX4_fits 1 = .ok (.tableswitch 51 0 2 #[27, 36, 43], 27) := by decide +kernel
theorem dX4_fits_28 : decode cX4_fits 28 = .ok (.iload_n 1, 1) := by decide +kernel
theorem dX4_fits_29 : decode cX4_fits 29 = .ok (.iconst 0, 1) := by decide +kernel
theorem dX4_fits_30 : decode cX4_fits 30 = .ok (.sipush 999, 3) := by decide +kernel
theorem dX4_fits_33 : decode cX4_fits 33 = .ok (.invokestatic 76, 3) := by decide +kernel
theorem dX4_fits_36 : decode cX4_fits 36 = .ok (.ireturn, 1) := by decide +kernel
theorem dX4_fits_37 : decode cX4_fits 37 = .ok (.iload_n 1, 1) := by decide +kernel
theorem dX4_fits_38 : decode cX4_fits 38 = .ok (.iconst 0, 1) := by decide +kernel
theorem dX4_fits_39 : decode cX4_fits 39 = .ok (.iconst 1, 1) := by decide +kernel
theorem dX4_fits_40 : decode cX4_fits 40 = .ok (.invokestatic 76, 3) := by decide +kernel
theorem dX4_fits_43 : decode cX4_fits 43 = .ok (.ireturn, 1) := by decide +kernel
theorem dX4_fits_44 : decode cX4_fits 44 = .ok (.iload_n 1, 1) := by decide +kernel
theorem dX4_fits_45 : decode cX4_fits 45 = .ok (.iconst 0, 1) := by decide +kernel
theorem dX4_fits_46 : decode cX4_fits 46 = .ok (.bipush 9, 2) := by decide +kernel
theorem dX4_fits_48 : decode cX4_fits 48 = .ok (.invokestatic 76, 3) := by decide +kernel
theorem dX4_fits_51 : decode cX4_fits 51 = .ok (.ireturn, 1) := by decide +kernel
theorem dX4_fits_52 : decode cX4_fits 52 = .ok (.iload_n 1, 1) := by decide +kernel
theorem dX4_fits_53 : decode cX4_fits 53 = .ok (.bipush (-20), 2) := by decide +kernel
theorem dX4_fits_55 : decode cX4_fits 55 = .ok (.bipush 20, 2) := by decide +kernel
theorem dX4_fits_57 : decode cX4_fits 57 = .ok (.invokestatic 76, 3) := by decide +kernel
theorem dX4_fits_60 : decode cX4_fits 60 = .ok (.ireturn, 1) := by decide +kernel
theorem dX4_plainly_0 : decode cX4_plainly 0 = .ok (.iload_n 1, 1) := by decide +kernel
theorem dX4_plainly_1 : decode cX4_plainly 1 = .ok (.tableswitch 57 0 2 #[27, 35, 47], 27) := by decide +kernel
theorem dX4_plainly_28 : decode cX4_plainly 28 = .ok (.aload_n 0, 1) := by decide +kernel
theorem dX4_plainly_29 : decode cX4_plainly 29 = .ok (.getfield 39, 3) := by decide +kernel
theorem dX4_plainly_32 : decode cX4_plainly 32 = .ok (.getfield 91, 3) := by decide +kernel
theorem dX4_plainly_35 : decode cX4_plainly 35 = .ok (.ireturn, 1) := by decide +kernel
theorem dX4_plainly_36 : decode cX4_plainly 36 = .ok (.aload_n 0, 1) := by decide +kernel
theorem dX4_plainly_37 : decode cX4_plainly 37 = .ok (.getfield 39, 3) := by decide +kernel
theorem dX4_plainly_40 : decode cX4_plainly 40 = .ok (.getfield 94, 3) := by decide +kernel
theorem dX4_plainly_43 : decode cX4_plainly 43 = .ok (.iload_n 2, 1) := by decide +kernel
theorem dX4_plainly_44 : decode cX4_plainly 44 = .ok (.ishr, 1) := by decide +kernel
theorem dX4_plainly_45 : decode cX4_plainly 45 = .ok (.iconst 1, 1) := by decide +kernel
theorem dX4_plainly_46 : decode cX4_plainly 46 = .ok (.iand, 1) := by decide +kernel
theorem dX4_plainly_47 : decode cX4_plainly 47 = .ok (.ireturn, 1) := by decide +kernel
theorem dX4_plainly_48 : decode cX4_plainly 48 = .ok (.aload_n 0, 1) := by decide +kernel
theorem dX4_plainly_49 : decode cX4_plainly 49 = .ok (.getfield 39, 3) := by decide +kernel
theorem dX4_plainly_52 : decode cX4_plainly 52 = .ok (.getfield 97, 3) := by decide +kernel
theorem dX4_plainly_55 : decode cX4_plainly 55 = .ok (.iload_n 2, 1) := by decide +kernel
theorem dX4_plainly_56 : decode cX4_plainly 56 = .ok (.iaload, 1) := by decide +kernel
theorem dX4_plainly_57 : decode cX4_plainly 57 = .ok (.ireturn, 1) := by decide +kernel
theorem dX4_plainly_58 : decode cX4_plainly 58 = .ok (.aload_n 0, 1) := by decide +kernel
theorem dX4_plainly_59 : decode cX4_plainly 59 = .ok (.getfield 39, 3) := by decide +kernel
theorem dX4_plainly_62 : decode cX4_plainly 62 = .ok (.getfield 100, 3) := by decide +kernel
theorem dX4_plainly_65 : decode cX4_plainly 65 = .ok (.iload_n 2, 1) := by decide +kernel
theorem dX4_plainly_66 : decode cX4_plainly 66 = .ok (.iaload, 1) := by decide +kernel
theorem dX4_plainly_67 : decode cX4_plainly 67 = .ok (.ireturn, 1) := by decide +kernel
theorem dX4_isPerson_0 : decode cX4_isPerson 0 = .ok (.iload_n 1, 1) := by decide +kernel
theorem dX4_isPerson_1 : decode cX4_isPerson 1 = .ok (.iconst 0, 1) := by decide +kernel
theorem dX4_isPerson_2 : decode cX4_isPerson 2 = .ok (.aload_n 0, 1) := by decide +kernel
theorem dX4_isPerson_3 : decode cX4_isPerson 3 = .ok (.getfield 39, 3) := by decide +kernel
theorem dX4_isPerson_6 : decode cX4_isPerson 6 = .ok (.getfield 127, 3) := by decide +kernel
theorem dX4_isPerson_9 : decode cX4_isPerson 9 = .ok (.iconst 1, 1) := by decide +kernel
theorem dX4_isPerson_10 : decode cX4_isPerson 10 = .ok (.isub, 1) := by decide +kernel
theorem dX4_isPerson_11 : decode cX4_isPerson 11 = .ok (.invokestatic 76, 3) := by decide +kernel
theorem dX4_isPerson_14 : decode cX4_isPerson 14 = .ok (.ireturn, 1) := by decide +kernel
theorem dX4_areTwo_0 : decode cX4_areTwo 0 = .ok (.aload_n 0, 1) := by decide +kernel
theorem dX4_areTwo_1 : decode cX4_areTwo 1 = .ok (.iload_n 1, 1) := by decide +kernel
theorem dX4_areTwo_2 : decode cX4_areTwo 2 = .ok (.invokevirtual 124, 3) := by decide +kernel
theorem dX4_areTwo_5 : decode cX4_areTwo 5 = .ok (.ifCond .eq 20, 3) := by decide +kernel
theorem dX4_areTwo_8 : decode cX4_areTwo 8 = .ok (.aload_n 0, 1) := by decide +kernel
theorem dX4_areTwo_9 : decode cX4_areTwo 9 = .ok (.iload_n 2, 1) := by decide +kernel
theorem dX4_areTwo_10 : decode cX4_areTwo 10 = .ok (.invokevirtual 124, 3) := by decide +kernel
theorem dX4_areTwo_13 : decode cX4_areTwo 13 = .ok (.ifCond .eq 12, 3) := by decide +kernel
theorem dX4_areTwo_16 : decode cX4_areTwo 16 = .ok (.iload_n 1, 1) := by decide +kernel
theorem dX4_areTwo_17 : decode cX4_areTwo 17 = .ok (.iload_n 2, 1) := by decide +kernel
theorem dX4_areTwo_18 : decode cX4_areTwo 18 = .ok (.if_icmp .eq 7, 3) := by decide +kernel
theorem dX4_areTwo_21 : decode cX4_areTwo 21 = .ok (.iconst 1, 1) := by decide +kernel
theorem dX4_areTwo_22 : decode cX4_areTwo 22 = .ok (.goto 4, 3) := by decide +kernel
theorem dX4_areTwo_25 : decode cX4_areTwo 25 = .ok (.iconst 0, 1) := by decide +kernel
theorem dX4_areTwo_26 : decode cX4_areTwo 26 = .ok (.ireturn, 1) := by decide +kernel
theorem dX4_isIn_0 : decode cX4_isIn 0 = .ok (.iload_n 0, 1) := by decide +kernel
theorem dX4_isIn_1 : decode cX4_isIn 1 = .ok (.iload_n 1, 1) := by decide +kernel
theorem dX4_isIn_2 : decode cX4_isIn 2 = .ok (.if_icmp .lt 12, 3) := by decide +kernel
theorem dX4_isIn_5 : decode cX4_isIn 5 = .ok (.iload_n 0, 1) := by decide +kernel
theorem dX4_isIn_6 : decode cX4_isIn 6 = .ok (.iload_n 2, 1) := by decide +kernel
theorem dX4_isIn_7 : decode cX4_isIn 7 = .ok (.if_icmp .gt 7, 3) := by decide +kernel
theorem dX4_isIn_10 : decode cX4_isIn 10 = .ok (.iconst 1, 1) := by decide +kernel
theorem dX4_isIn_11 : decode cX4_isIn 11 = .ok (.goto 4, 3) := by decide +kernel
theorem dX4_isIn_14 : decode cX4_isIn 14 = .ok (.iconst 0, 1) := by decide +kernel
theorem dX4_isIn_15 : decode cX4_isIn 15 = .ok (.ireturn, 1) := by decide +kernel
theorem dX4_feed_0 : decode cX4_feed 0 = .ok (.iload_n 1, 1) := by decide +kernel
theorem dX4_feed_1 : decode cX4_feed 1 = .ok (.iconst 0, 1) := by decide +kernel
theorem dX4_feed_2 : decode cX4_feed 2 = .ok (.sipush 255, 3) := by decide +kernel
theorem dX4_feed_5 : decode cX4_feed 5 = .ok (.invokestatic 76, 3) := by decide +kernel
theorem dX4_feed_8 : decode cX4_feed 8 = .ok (.ifCond .ne 6, 3) := by decide +kernel
theorem dX4_feed_11 : decode cX4_feed 11 = .ok (.bipush (-2), 2) := by decide +kernel
theorem dX4_feed_13 : decode cX4_feed 13 = .ok (.ireturn, 1) := by decide +kernel
theorem dX4_feed_14 : decode cX4_feed 14 = .ok (.aload_n 0, 1) := by decide +kernel
theorem dX4_feed_15 : decode cX4_feed 15 = .ok (.getfield 24, 3) := by decide +kernel
theorem dX4_feed_18 : decode cX4_feed 18 = .ok (.iload_n 1, 1) := by decide +kernel
theorem dX4_feed_19 : decode cX4_feed 19 = .ok (.invokevirtual 61, 3) := by decide +kernel
theorem dX4_feed_22 : decode cX4_feed 22 = .ok (.ifCond .eq 13, 3) := by decide +kernel
theorem dX4_feed_25 : decode cX4_feed 25 = .ok (.aload_n 0, 1) := by decide +kernel
theorem dX4_feed_26 : decode cX4_feed 26 = .ok (.getfield 24, 3) := by decide +kernel
theorem dX4_feed_29 : decode cX4_feed 29 = .ok (.getfield 69, 3) := by decide +kernel
theorem dX4_feed_32 : decode cX4_feed 32 = .ok (.goto 5, 3) := by decide +kernel
theorem dX4_feed_35 : decode cX4_feed 35 = .ok (.bipush (-4), 2) := by decide +kernel
theorem dX4_feed_37 : decode cX4_feed 37 = .ok (.ireturn, 1) := by decide +kernel
theorem dX4_text_0 : decode cX4_text 0 = .ok (.aload_n 0, 1) := by decide +kernel
theorem dX4_text_1 : decode cX4_text 1 = .ok (.getfield 73, 3) := by decide +kernel
theorem dX4_text_4 : decode cX4_text 4 = .ok (.bipush 6, 2) := by decide +kernel
theorem dX4_text_6 : decode cX4_text 6 = .ok (.if_icmp .lt 6, 3) := by decide +kernel
theorem dX4_text_9 : decode cX4_text 9 = .ok (.bipush (-4), 2) := by decide +kernel
theorem dX4_text_11 : decode cX4_text 11 = .ok (.ireturn, 1) := by decide +kernel
theorem dX4_text_12 : decode cX4_text 12 = .ok (.aload_n 0, 1) := by decide +kernel
theorem dX4_text_13 : decode cX4_text 13 = .ok (.getfield 24, 3) := by decide +kernel
theorem dX4_text_16 : decode cX4_text 16 = .ok (.aload_n 0, 1) := by decide +kernel
theorem dX4_text_17 : decode cX4_text 17 = .ok (.getfield 11, 3) := by decide +kernel
theorem dX4_text_20 : decode cX4_text 20 = .ok (.aload_n 0, 1) := by decide +kernel
theorem dX4_text_21 : decode cX4_text 21 = .ok (.getfield 73, 3) := by decide +kernel
theorem dX4_text_24 : decode cX4_text 24 = .ok (.aaload, 1) := by decide +kernel
theorem dX4_text_25 : decode cX4_text 25 = .ok (.invokevirtual 65, 3) := by decide +kernel
theorem dX4_text_28 : decode cX4_text 28 = .ok (.istore_n 1, 1) := by decide +kernel
theorem dX4_text_29 : decode cX4_text 29 = .ok (.aload_n 0, 1) := by decide +kernel
theorem dX4_text_30 : decode cX4_text 30 = .ok (.getfield 24, 3) := by decide +kernel
theorem dX4_text_33 : decode cX4_text 33 = .ok (.iconst 0, 1) := by decide +kernel
theorem dX4_text_34 : decode cX4_text 34 = .ok (.putfield 69, 3) := by decide +kernel
theorem dX4_text_37 : decode cX4_text 37 = .ok (.iload_n 1, 1) := by decide +kernel
theorem dX4_text_38 : decode cX4_text 38 = .ok (.iconst (-1), 1) := by decide +kernel
theorem dX4_text_39 : decode cX4_text 39 = .ok (.if_icmp .eq 8, 3) := by decide +kernel
theorem dX4_text_42 : decode cX4_text 42 = .ok (.bipush (-100), 2) := by decide +kernel
theorem dX4_text_44 : decode cX4_text 44 = .ok (.iload_n 1, 1) := by decide +kernel
theorem dX4_text_45 : decode cX4_text 45 = .ok (.isub, 1) := by decide +kernel
theorem dX4_text_46 : decode cX4_text 46 = .ok (.ireturn, 1) := by decide +kernel
theorem dX4_text_47 : decode cX4_text 47 = .ok (.aload_n 0, 1) := by decide +kernel
theorem dX4_text_48 : decode cX4_text 48 = .ok (.dup, 1) := by decide +kernel
theorem dX4_text_49 : decode cX4_text 49 = .ok (.getfield 73, 3) := by decide +kernel
theorem dX4_text_52 : decode cX4_text 52 = .ok (.iconst 1, 1) := by decide +kernel
theorem dX4_text_53 : decode cX4_text 53 = .ok (.iadd, 1) := by decide +kernel
theorem dX4_text_54 : decode cX4_text 54 = .ok (.putfield 73, 3) := by decide +kernel
theorem dX4_text_57 : decode cX4_text 57 = .ok (.aload_n 0, 1) := by decide +kernel
theorem dX4_text_58 : decode cX4_text 58 = .ok (.getfield 73, 3) := by decide +kernel
theorem dX4_text_61 : decode cX4_text 61 = .ok (.iconst 1, 1) := by decide +kernel
theorem dX4_text_62 : decode cX4_text 62 = .ok (.isub, 1) := by decide +kernel
theorem dX4_text_63 : decode cX4_text 63 = .ok (.ireturn, 1) := by decide +kernel
theorem dX4_force_0 : decode cX4_force 0 = .ok (.iload_n 1, 1) := by decide +kernel
theorem dX4_force_1 : decode cX4_force 1 = .ok (.iconst 0, 1) := by decide +kernel
theorem dX4_force_2 : decode cX4_force 2 = .ok (.aload_n 0, 1) := by decide +kernel
theorem dX4_force_3 : decode cX4_force 3 = .ok (.getfield 73, 3) := by decide +kernel
theorem dX4_force_6 : decode cX4_force 6 = .ok (.iconst 1, 1) := by decide +kernel
theorem dX4_force_7 : decode cX4_force 7 = .ok (.isub, 1) := by decide +kernel
theorem dX4_force_8 : decode cX4_force 8 = .ok (.invokestatic 76, 3) := by decide +kernel
theorem dX4_force_11 : decode cX4_force 11 = .ok (.ifCond .ne 6, 3) := by decide +kernel
theorem dX4_force_14 : decode cX4_force 14 = .ok (.bipush (-2), 2) := by decide +kernel
theorem dX4_force_16 : decode cX4_force 16 = .ok (.ireturn, 1) := by decide +kernel
theorem dX4_force_17 : decode cX4_force 17 = .ok (.aload_n 0, 1) := by decide +kernel
theorem dX4_force_18 : decode cX4_force 18 = .ok (.getfield 39, 3) := by decide +kernel
theorem dX4_force_21 : decode cX4_force 21 = .ok (.getfield 128, 3) := by decide +kernel
theorem dX4_force_24 : decode cX4_force 24 = .ok (.istore_n 2, 1) := by decide +kernel
theorem dX4_force_25 : decode cX4_force 25 = .ok (.aload_n 0, 1) := by decide +kernel
theorem dX4_force_26 : decode cX4_force 26 = .ok (.getfield 39, 3) := by decide +kernel
theorem dX4_force_29 : decode cX4_force 29 = .ok (.iload_n 1, 1) := by decide +kernel
theorem dX4_force_30 : decode cX4_force 30 = .ok (.putfield 128, 3) := by decide +kernel
theorem dX4_force_33 : decode cX4_force 33 = .ok (.iload_n 2, 1) := by decide +kernel
theorem dX4_force_34 : decode cX4_force 34 = .ok (.ireturn, 1) := by decide +kernel
theorem dX4_sandwich_0 : decode cX4_sandwich 0 = .ok (.aload_n 0, 1) := by decide +kernel
theorem dX4_sandwich_1 : decode cX4_sandwich 1 = .ok (.iload_n 1, 1) := by decide +kernel
theorem dX4_sandwich_2 : decode cX4_sandwich 2 = .ok (.iload_n 2, 1) := by decide +kernel
theorem dX4_sandwich_3 : decode cX4_sandwich 3 = .ok (.invokevirtual 131, 3) := by decide +kernel
theorem dX4_sandwich_6 : decode cX4_sandwich 6 = .ok (.ifCond .ne 7, 3) := by decide +kernel
theorem dX4_sandwich_9 : decode cX4_sandwich 9 = .ok (.sipush (-1000), 3) := by decide +kernel
theorem dX4_sandwich_12 : decode cX4_sandwich 12 = .ok (.ireturn, 1) := by decide +kernel
theorem dX4_sandwich_13 : decode cX4_sandwich 13 = .ok (.iload_n 3, 1) := by decide +kernel
theorem dX4_sandwich_14 : decode cX4_sandwich 14 = .ok (.bipush 10, 2) := by decide +kernel
theorem dX4_sandwich_16 : decode cX4_sandwich 16 = .ok (.bipush 17, 2) := by decide +kernel
theorem dX4_sandwich_18 : decode cX4_sandwich 18 = .ok (.invokestatic 76, 3) := by decide +kernel
theorem dX4_sandwich_21 : decode cX4_sandwich 21 = .ok (.ifCond .eq 17, 3) := by decide +kernel
theorem dX4_sandwich_24 : decode cX4_sandwich 24 = .ok (.aload_n 0, 1) := by decide +kernel
theorem dX4_sandwich_25 : decode cX4_sandwich 25 = .ok (.getfield 39, 3) := by decide +kernel
theorem dX4_sandwich_28 : decode cX4_sandwich 28 = .ok (.iload_n 2, 1) := by decide +kernel
theorem dX4_sandwich_29 : decode cX4_sandwich 29 = .ok (.iload_n 1, 1) := by decide +kernel
theorem dX4_sandwich_30 : decode cX4_sandwich 30 = .ok (.iload_n 3, 1) := by decide +kernel
theorem dX4_sandwich_31 : decode cX4_sandwich 31 = .ok (.bipush 10, 2) := by decide +kernel
theorem dX4_sandwich_33 : decode cX4_sandwich 33 = .ok (.isub, 1) := by decide +kernel
theorem dX4_sandwich_34 : decode cX4_sandwich 34 = .ok (.invokevirtual 134, 3) := by decide +kernel
theorem dX4_sandwich_37 : decode cX4_sandwich 37 = .ok (.ireturn, 1) := by decide +kernel
theorem dX4_sandwich_38 : decode cX4_sandwich 38 = .ok (.iload_n 3, 1) := by decide +kernel
theorem dX4_sandwich_39 : decode cX4_sandwich 39 = .ok (.tableswitch 80 0 3 #[29, 39, 52, 70], 29) := by decide +kernel
theorem dX4_sandwich_68 : decode cX4_sandwich 68 = .ok (.aload_n 0, 1) := by decide +kernel
theorem dX4_sandwich_69 : decode cX4_sandwich 69 = .ok (.getfield 39, 3) := by decide +kernel
theorem dX4_sandwich_72 : decode cX4_sandwich 72 = .ok (.iload_n 1, 1) := by decide +kernel
theorem dX4_sandwich_73 : decode cX4_sandwich 73 = .ok (.iload_n 2, 1) := by decide +kernel
theorem dX4_sandwich_74 : decode cX4_sandwich 74 = .ok (.invokevirtual 138, 3) := by decide +kernel
theorem dX4_sandwich_77 : decode cX4_sandwich 77 = .ok (.ireturn, 1) := by decide +kernel
theorem dX4_sandwich_78 : decode cX4_sandwich 78 = .ok (.aload_n 0, 1) := by decide +kernel
theorem dX4_sandwich_79 : decode cX4_sandwich 79 = .ok (.getfield 39, 3) := by decide +kernel
theorem dX4_sandwich_82 : decode cX4_sandwich 82 = .ok (.iload_n 1, 1) := by decide +kernel
theorem dX4_sandwich_83 : decode cX4_sandwich 83 = .ok (.iload_n 2, 1) := by decide +kernel
theorem dX4_sandwich_84 : decode cX4_sandwich 84 = .ok (.invokevirtual 138, 3) := by decide +kernel
theorem dX4_sandwich_87 : decode cX4_sandwich 87 = .ok (.invokestatic 141, 3) := by decide +kernel
theorem dX4_sandwich_90 : decode cX4_sandwich 90 = .ok (.ireturn, 1) := by decide +kernel
theorem dX4_sandwich_91 : decode cX4_sandwich 91 = .ok (.aload_n 0, 1) := by decide +kernel
theorem dX4_sandwich_92 : decode cX4_sandwich 92 = .ok (.getfield 39, 3) := by decide +kernel
theorem dX4_sandwich_95 : decode cX4_sandwich 95 = .ok (.iload_n 1, 1) := by decide +kernel
theorem dX4_sandwich_96 : decode cX4_sandwich 96 = .ok (.iload_n 2, 1) := by decide +kernel
theorem dX4_sandwich_97 : decode cX4_sandwich 97 = .ok (.invokevirtual 146, 3) := by decide +kernel
theorem dX4_sandwich_100 : decode cX4_sandwich 100 = .ok (.ifCond .eq 7, 3) := by decide +kernel
theorem dX4_sandwich_103 : decode cX4_sandwich 103 = .ok (.iconst 1, 1) := by decide +kernel
theorem dX4_sandwich_104 : decode cX4_sandwich 104 = .ok (.goto 4, 3) := by decide +kernel
theorem dX4_sandwich_107 : decode cX4_sandwich 107 = .ok (.iconst 0, 1) := by decide +kernel
theorem dX4_sandwich_108 : decode cX4_sandwich 108 = .ok (.ireturn, 1) := by decide +kernel
theorem dX4_sandwich_109 : decode cX4_sandwich 109 = .ok (.aload_n 0, 1) := by decide +kernel
theorem dX4_sandwich_110 : decode cX4_sandwich 110 = .ok (.getfield 39, 3) := by decide +kernel
theorem dX4_sandwich_113 : decode cX4_sandwich 113 = .ok (.iload_n 1, 1) := by decide +kernel
theorem dX4_sandwich_114 : decode cX4_sandwich 114 = .ok (.iload_n 2, 1) := by decide +kernel
theorem dX4_sandwich_115 : decode cX4_sandwich 115 = .ok (.invokevirtual 149, 3) := by decide +kernel
theorem dX4_sandwich_118 : decode cX4_sandwich 118 = .ok (.ireturn, 1) := by decide +kernel
theorem dX4_sandwich_119 : decode cX4_sandwich 119 = .ok (.sipush (-1000), 3) := by decide +kernel
theorem dX4_sandwich_122 : decode cX4_sandwich 122 = .ok (.ireturn, 1) := by decide +kernel
theorem dX4_sunday_0 : decode cX4_sunday 0 = .ok (.aload_n 0, 1) := by decide +kernel
theorem dX4_sunday_1 : decode cX4_sunday 1 = .ok (.getfield 39, 3) := by decide +kernel
theorem dX4_sunday_4 : decode cX4_sunday 4 = .ok (.getfield 91, 3) := by decide +kernel
theorem dX4_sunday_7 : decode cX4_sunday 7 = .ok (.sipush 999, 3) := by decide +kernel
theorem dX4_sunday_10 : decode cX4_sunday 10 = .ok (.if_icmp .lt 7, 3) := by decide +kernel
theorem dX4_sunday_13 : decode cX4_sunday 13 = .ok (.sipush (-1000), 3) := by decide +kernel
theorem dX4_sunday_16 : decode cX4_sunday 16 = .ok (.ireturn, 1) := by decide +kernel
theorem dX4_sunday_17 : decode cX4_sunday 17 = .ok (.aload_n 0, 1) := by decide +kernel
theorem dX4_sunday_18 : decode cX4_sunday 18 = .ok (.getfield 39, 3) := by decide +kernel
theorem dX4_sunday_21 : decode cX4_sunday 21 = .ok (.invokevirtual 120, 3) := by decide +kernel
theorem dX4_sunday_24 : decode cX4_sunday 24 = .ok (.pop, 1) := by decide +kernel
theorem dX4_sunday_25 : decode cX4_sunday 25 = .ok (.aload_n 0, 1) := by decide +kernel
theorem dX4_sunday_26 : decode cX4_sunday 26 = .ok (.getfield 39, 3) := by decide +kernel
theorem dX4_sunday_29 : decode cX4_sunday 29 = .ok (.dup, 1) := by decide +kernel
theorem dX4_sunday_30 : decode cX4_sunday 30 = .ok (.getfield 91, 3) := by decide +kernel
theorem dX4_sunday_33 : decode cX4_sunday 33 = .ok (.iconst 1, 1) := by decide +kernel
theorem dX4_sunday_34 : decode cX4_sunday 34 = .ok (.iadd, 1) := by decide +kernel
theorem dX4_sunday_35 : decode cX4_sunday 35 = .ok (.putfield 91, 3) := by decide +kernel
theorem dX4_sunday_38 : decode cX4_sunday 38 = .ok (.aload_n 0, 1) := by decide +kernel
theorem dX4_sunday_39 : decode cX4_sunday 39 = .ok (.getfield 39, 3) := by decide +kernel
theorem dX4_sunday_42 : decode cX4_sunday 42 = .ok (.invokevirtual 152, 3) := by decide +kernel
theorem dX4_sunday_45 : decode cX4_sunday 45 = .ok (.ireturn, 1) := by decide +kernel
theorem dX4_run_0 : decode cX4_run 0 = .ok (.iload_n 2, 1) := by decide +kernel
theorem dX4_run_1 : decode cX4_run 1 = .ok (.bipush 10, 2) := by decide +kernel
theorem dX4_run_3 : decode cX4_run 3 = .ok (.if_icmp .lt 18, 3) := by decide +kernel
theorem dX4_run_6 : decode cX4_run 6 = .ok (.aload_n 0, 1) := by decide +kernel
theorem dX4_run_7 : decode cX4_run 7 = .ok (.iload_n 2, 1) := by decide +kernel
theorem dX4_run_8 : decode cX4_run 8 = .ok (.bipush 10, 2) := by decide +kernel
theorem dX4_run_10 : decode cX4_run 10 = .ok (.isub, 1) := by decide +kernel
theorem dX4_run_11 : decode cX4_run 11 = .ok (.invokevirtual 124, 3) := by decide +kernel
theorem dX4_run_14 : decode cX4_run 14 = .ok (.ifCond .eq 7, 3) := by decide +kernel
theorem dX4_run_17 : decode cX4_run 17 = .ok (.iconst 1, 1) := by decide +kernel
theorem dX4_run_18 : decode cX4_run 18 = .ok (.goto 4, 3) := by decide +kernel
theorem dX4_run_21 : decode cX4_run 21 = .ok (.iconst 0, 1) := by decide +kernel
theorem dX4_run_22 : decode cX4_run 22 = .ok (.istore_n 3, 1) := by decide +kernel
theorem dX4_run_23 : decode cX4_run 23 = .ok (.iload_n 1, 1) := by decide +kernel
theorem dX4_run_24 : decode cX4_run 24 = .ok (.iconst 0, 1) := by decide +kernel
theorem dX4_run_25 : decode cX4_run 25 = .ok (.bipush 40, 2) := by decide +kernel
theorem dX4_run_27 : decode cX4_run 27 = .ok (.invokestatic 76, 3) := by decide +kernel
theorem dX4_run_30 : decode cX4_run 30 = .ok (.ifCond .eq 16, 3) := by decide +kernel
theorem dX4_run_33 : decode cX4_run 33 = .ok (.iload_n 3, 1) := by decide +kernel
theorem dX4_run_34 : decode cX4_run 34 = .ok (.ifCond .ne 16, 3) := by decide +kernel
theorem dX4_run_37 : decode cX4_run 37 = .ok (.iload_n 2, 1) := by decide +kernel
theorem dX4_run_38 : decode cX4_run 38 = .ok (.iconst 0, 1) := by decide +kernel
theorem dX4_run_39 : decode cX4_run 39 = .ok (.iconst 1, 1) := by decide +kernel
theorem dX4_run_40 : decode cX4_run 40 = .ok (.invokestatic 76, 3) := by decide +kernel
theorem dX4_run_43 : decode cX4_run 43 = .ok (.ifCond .ne 7, 3) := by decide +kernel
theorem dX4_run_46 : decode cX4_run 46 = .ok (.sipush (-1000), 3) := by decide +kernel
theorem dX4_run_49 : decode cX4_run 49 = .ok (.ireturn, 1) := by decide +kernel
theorem dX4_run_50 : decode cX4_run 50 = .ok (.aload_n 0, 1) := by decide +kernel
theorem dX4_run_51 : decode cX4_run 51 = .ok (.getfield 43, 3) := by decide +kernel
theorem dX4_run_54 : decode cX4_run 54 = .ok (.aload_n 0, 1) := by decide +kernel
theorem dX4_run_55 : decode cX4_run 55 = .ok (.getfield 39, 3) := by decide +kernel
theorem dX4_run_58 : decode cX4_run 58 = .ok (.invokevirtual 116, 3) := by decide +kernel
theorem dX4_run_61 : decode cX4_run 61 = .ok (.iload_n 2, 1) := by decide +kernel
theorem dX4_run_62 : decode cX4_run 62 = .ok (.iconst 1, 1) := by decide +kernel
theorem dX4_run_63 : decode cX4_run 63 = .ok (.if_icmp .ne 12, 3) := by decide +kernel
theorem dX4_run_66 : decode cX4_run 66 = .ok (.aload_n 0, 1) := by decide +kernel
theorem dX4_run_67 : decode cX4_run 67 = .ok (.getfield 43, 3) := by decide +kernel
theorem dX4_run_70 : decode cX4_run 70 = .ok (.iload_n 1, 1) := by decide +kernel
theorem dX4_run_71 : decode cX4_run 71 = .ok (.invokevirtual 155, 3) := by decide +kernel
theorem dX4_run_74 : decode cX4_run 74 = .ok (.ireturn, 1) := by decide +kernel
theorem dX4_run_75 : decode cX4_run 75 = .ok (.aload_n 0, 1) := by decide +kernel
theorem dX4_run_76 : decode cX4_run 76 = .ok (.getfield 43, 3) := by decide +kernel
theorem dX4_run_79 : decode cX4_run 79 = .ok (.iload_n 1, 1) := by decide +kernel
theorem dX4_run_80 : decode cX4_run 80 = .ok (.invokevirtual 158, 3) := by decide +kernel
theorem dX4_run_83 : decode cX4_run 83 = .ok (.istore 4, 2) := by decide +kernel
theorem dX4_run_85 : decode cX4_run 85 = .ok (.iload_n 3, 1) := by decide +kernel
theorem dX4_run_86 : decode cX4_run 86 = .ok (.ifCond .eq 18, 3) := by decide +kernel
theorem dX4_run_89 : decode cX4_run 89 = .ok (.aload_n 0, 1) := by decide +kernel
theorem dX4_run_90 : decode cX4_run 90 = .ok (.getfield 43, 3) := by decide +kernel
theorem dX4_run_93 : decode cX4_run 93 = .ok (.getfield 100, 3) := by decide +kernel
theorem dX4_run_96 : decode cX4_run 96 = .ok (.iload_n 2, 1) := by decide +kernel
theorem dX4_run_97 : decode cX4_run 97 = .ok (.bipush 10, 2) := by decide +kernel
theorem dX4_run_99 : decode cX4_run 99 = .ok (.isub, 1) := by decide +kernel
theorem dX4_run_100 : decode cX4_run 100 = .ok (.iaload, 1) := by decide +kernel
theorem dX4_run_101 : decode cX4_run 101 = .ok (.goto 5, 3) := by decide +kernel
theorem dX4_run_104 : decode cX4_run 104 = .ok (.iload 4, 2) := by decide +kernel
theorem dX4_run_106 : decode cX4_run 106 = .ok (.ireturn, 1) := by decide +kernel
theorem dX4_again_0 : decode cX4_again 0 = .ok (.iload_n 1, 1) := by decide +kernel
theorem dX4_again_1 : decode cX4_again 1 = .ok (.iconst 0, 1) := by decide +kernel
theorem dX4_again_2 : decode cX4_again 2 = .ok (.iconst 2, 1) := by decide +kernel
theorem dX4_again_3 : decode cX4_again 3 = .ok (.invokestatic 76, 3) := by decide +kernel
theorem dX4_again_6 : decode cX4_again 6 = .ok (.ifCond .ne 6, 3) := by decide +kernel
theorem dX4_again_9 : decode cX4_again 9 = .ok (.bipush (-2), 2) := by decide +kernel
theorem dX4_again_11 : decode cX4_again 11 = .ok (.ireturn, 1) := by decide +kernel
theorem dX4_again_12 : decode cX4_again 12 = .ok (.aload_n 0, 1) := by decide +kernel
theorem dX4_again_13 : decode cX4_again 13 = .ok (.getfield 43, 3) := by decide +kernel
theorem dX4_again_16 : decode cX4_again 16 = .ok (.aload_n 0, 1) := by decide +kernel
theorem dX4_again_17 : decode cX4_again 17 = .ok (.getfield 39, 3) := by decide +kernel
theorem dX4_again_20 : decode cX4_again 20 = .ok (.invokevirtual 116, 3) := by decide +kernel
theorem dX4_again_23 : decode cX4_again 23 = .ok (.aload_n 0, 1) := by decide +kernel
theorem dX4_again_24 : decode cX4_again 24 = .ok (.getfield 28, 3) := by decide +kernel
theorem dX4_again_27 : decode cX4_again 27 = .ok (.iconst 0, 1) := by decide +kernel
theorem dX4_again_28 : decode cX4_again 28 = .ok (.aload_n 0, 1) := by decide +kernel
theorem dX4_again_29 : decode cX4_again 29 = .ok (.getfield 43, 3) := by decide +kernel
theorem dX4_again_32 : decode cX4_again 32 = .ok (.invokevirtual 161, 3) := by decide +kernel
theorem dX4_again_35 : decode cX4_again 35 = .ok (.iastore, 1) := by decide +kernel
theorem dX4_again_36 : decode cX4_again 36 = .ok (.iconst 1, 1) := by decide +kernel
theorem dX4_again_37 : decode cX4_again 37 = .ok (.istore_n 2, 1) := by decide +kernel
theorem dX4_again_38 : decode cX4_again 38 = .ok (.iload_n 2, 1) := by decide +kernel
theorem dX4_again_39 : decode cX4_again 39 = .ok (.bipush 40, 2) := by decide +kernel
theorem dX4_again_41 : decode cX4_again 41 = .ok (.if_icmp .gt 30, 3) := by decide +kernel
theorem dX4_again_44 : decode cX4_again 44 = .ok (.aload_n 0, 1) := by decide +kernel
theorem dX4_again_45 : decode cX4_again 45 = .ok (.getfield 43, 3) := by decide +kernel
theorem dX4_again_48 : decode cX4_again 48 = .ok (.invokevirtual 120, 3) := by decide +kernel
theorem dX4_again_51 : decode cX4_again 51 = .ok (.pop, 1) := by decide +kernel
theorem dX4_again_52 : decode cX4_again 52 = .ok (.aload_n 0, 1) := by decide +kernel
theorem dX4_again_53 : decode cX4_again 53 = .ok (.getfield 28, 3) := by decide +kernel
theorem dX4_again_56 : decode cX4_again 56 = .ok (.iload_n 2, 1) := by decide +kernel
theorem dX4_again_57 : decode cX4_again 57 = .ok (.aload_n 0, 1) := by decide +kernel
theorem dX4_again_58 : decode cX4_again 58 = .ok (.getfield 43, 3) := by decide +kernel
theorem dX4_again_61 : decode cX4_again 61 = .ok (.invokevirtual 161, 3) := by decide +kernel
theorem dX4_again_64 : decode cX4_again 64 = .ok (.iastore, 1) := by decide +kernel
theorem dX4_again_65 : decode cX4_again 65 = .ok (.iinc 2 1, 3) := by decide +kernel
theorem dX4_again_68 : decode cX4_again 68 = .ok (.goto (-30), 3) := by decide +kernel
theorem dX4_again_71 : decode cX4_again 71 = .ok (.iload_n 1, 1) := by decide +kernel
theorem dX4_again_72 : decode cX4_again 72 = .ok (.iconst 2, 1) := by decide +kernel
theorem dX4_again_73 : decode cX4_again 73 = .ok (.if_icmp .ne 10, 3) := by decide +kernel
theorem dX4_again_76 : decode cX4_again 76 = .ok (.aload_n 0, 1) := by decide +kernel
theorem dX4_again_77 : decode cX4_again 77 = .ok (.invokevirtual 164, 3) := by decide +kernel
theorem dX4_again_80 : decode cX4_again 80 = .ok (.goto 8, 3) := by decide +kernel
theorem dX4_again_83 : decode cX4_again 83 = .ok (.aload_n 0, 1) := by decide +kernel
theorem dX4_again_84 : decode cX4_again 84 = .ok (.iload_n 1, 1) := by decide +kernel
theorem dX4_again_85 : decode cX4_again 85 = .ok (.invokevirtual 167, 3) := by decide +kernel
theorem dX4_again_88 : decode cX4_again 88 = .ok (.ireturn, 1) := by decide +kernel
theorem dX4_firstDead_0 : decode cX4_firstDead 0 = .ok (.iconst 0, 1) := by decide +kernel
theorem dX4_firstDead_1 : decode cX4_firstDead 1 = .ok (.istore_n 1, 1) := by decide +kernel
theorem dX4_firstDead_2 : decode cX4_firstDead 2 = .ok (.iload_n 1, 1) := by decide +kernel
theorem dX4_firstDead_3 : decode cX4_firstDead 3 = .ok (.bipush 40, 2) := by decide +kernel
theorem dX4_firstDead_5 : decode cX4_firstDead 5 = .ok (.if_icmp .ge 28, 3) := by decide +kernel
theorem dX4_firstDead_8 : decode cX4_firstDead 8 = .ok (.aload_n 0, 1) := by decide +kernel
theorem dX4_firstDead_9 : decode cX4_firstDead 9 = .ok (.getfield 28, 3) := by decide +kernel
theorem dX4_firstDead_12 : decode cX4_firstDead 12 = .ok (.iload_n 1, 1) := by decide +kernel
theorem dX4_firstDead_13 : decode cX4_firstDead 13 = .ok (.iaload, 1) := by decide +kernel
theorem dX4_firstDead_14 : decode cX4_firstDead 14 = .ok (.aload_n 0, 1) := by decide +kernel
theorem dX4_firstDead_15 : decode cX4_firstDead 15 = .ok (.getfield 28, 3) := by decide +kernel
theorem dX4_firstDead_18 : decode cX4_firstDead 18 = .ok (.iload_n 1, 1) := by decide +kernel
theorem dX4_firstDead_19 : decode cX4_firstDead 19 = .ok (.iconst 1, 1) := by decide +kernel
theorem dX4_firstDead_20 : decode cX4_firstDead 20 = .ok (.iadd, 1) := by decide +kernel
theorem dX4_firstDead_21 : decode cX4_firstDead 21 = .ok (.iaload, 1) := by decide +kernel
theorem dX4_firstDead_22 : decode cX4_firstDead 22 = .ok (.if_icmp .ne 5, 3) := by decide +kernel
theorem dX4_firstDead_25 : decode cX4_firstDead 25 = .ok (.iload_n 1, 1) := by decide +kernel
theorem dX4_firstDead_26 : decode cX4_firstDead 26 = .ok (.ireturn, 1) := by decide +kernel
theorem dX4_firstDead_27 : decode cX4_firstDead 27 = .ok (.iinc 1 1, 3) := by decide +kernel
theorem dX4_firstDead_30 : decode cX4_firstDead 30 = .ok (.goto (-28), 3) := by decide +kernel
theorem dX4_firstDead_33 : decode cX4_firstDead 33 = .ok (.iconst (-1), 1) := by decide +kernel
theorem dX4_firstDead_34 : decode cX4_firstDead 34 = .ok (.ireturn, 1) := by decide +kernel
theorem dX4_firstAgain_0 : decode cX4_firstAgain 0 = .ok (.iconst 1, 1) := by decide +kernel
theorem dX4_firstAgain_1 : decode cX4_firstAgain 1 = .ok (.istore_n 2, 1) := by decide +kernel
theorem dX4_firstAgain_2 : decode cX4_firstAgain 2 = .ok (.iload_n 2, 1) := by decide +kernel
theorem dX4_firstAgain_3 : decode cX4_firstAgain 3 = .ok (.bipush 40, 2) := by decide +kernel
theorem dX4_firstAgain_5 : decode cX4_firstAgain 5 = .ok (.if_icmp .gt 49, 3) := by decide +kernel
theorem dX4_firstAgain_8 : decode cX4_firstAgain 8 = .ok (.iconst 0, 1) := by decide +kernel
theorem dX4_firstAgain_9 : decode cX4_firstAgain 9 = .ok (.istore_n 3, 1) := by decide +kernel
theorem dX4_firstAgain_10 : decode cX4_firstAgain 10 = .ok (.iload_n 3, 1) := by decide +kernel
theorem dX4_firstAgain_11 : decode cX4_firstAgain 11 = .ok (.iload_n 2, 1) := by decide +kernel
theorem dX4_firstAgain_12 : decode cX4_firstAgain 12 = .ok (.if_icmp .ge 36, 3) := by decide +kernel
theorem dX4_firstAgain_15 : decode cX4_firstAgain 15 = .ok (.aload_n 0, 1) := by decide +kernel
theorem dX4_firstAgain_16 : decode cX4_firstAgain 16 = .ok (.getfield 28, 3) := by decide +kernel
theorem dX4_firstAgain_19 : decode cX4_firstAgain 19 = .ok (.iload_n 3, 1) := by decide +kernel
theorem dX4_firstAgain_20 : decode cX4_firstAgain 20 = .ok (.iaload, 1) := by decide +kernel
theorem dX4_firstAgain_21 : decode cX4_firstAgain 21 = .ok (.aload_n 0, 1) := by decide +kernel
theorem dX4_firstAgain_22 : decode cX4_firstAgain 22 = .ok (.getfield 28, 3) := by decide +kernel
theorem dX4_firstAgain_25 : decode cX4_firstAgain 25 = .ok (.iload_n 2, 1) := by decide +kernel
theorem dX4_firstAgain_26 : decode cX4_firstAgain 26 = .ok (.iaload, 1) := by decide +kernel
theorem dX4_firstAgain_27 : decode cX4_firstAgain 27 = .ok (.if_icmp .ne 15, 3) := by decide +kernel
theorem dX4_firstAgain_30 : decode cX4_firstAgain 30 = .ok (.iload_n 1, 1) := by decide +kernel
theorem dX4_firstAgain_31 : decode cX4_firstAgain 31 = .ok (.ifCond .ne 7, 3) := by decide +kernel
theorem dX4_firstAgain_34 : decode cX4_firstAgain 34 = .ok (.iload_n 2, 1) := by decide +kernel
theorem dX4_firstAgain_35 : decode cX4_firstAgain 35 = .ok (.goto 6, 3) := by decide +kernel
theorem dX4_firstAgain_38 : decode cX4_firstAgain 38 = .ok (.iload_n 2, 1) := by decide +kernel
theorem dX4_firstAgain_39 : decode cX4_firstAgain 39 = .ok (.iload_n 3, 1) := by decide +kernel
theorem dX4_firstAgain_40 : decode cX4_firstAgain 40 = .ok (.isub, 1) := by decide +kernel
theorem dX4_firstAgain_41 : decode cX4_firstAgain 41 = .ok (.ireturn, 1) := by decide +kernel
theorem dX4_firstAgain_42 : decode cX4_firstAgain 42 = .ok (.iinc 3 1, 3) := by decide +kernel
theorem dX4_firstAgain_45 : decode cX4_firstAgain 45 = .ok (.goto (-35), 3) := by decide +kernel
theorem dX4_firstAgain_48 : decode cX4_firstAgain 48 = .ok (.iinc 2 1, 3) := by decide +kernel
theorem dX4_firstAgain_51 : decode cX4_firstAgain 51 = .ok (.goto (-49), 3) := by decide +kernel
theorem dX4_firstAgain_54 : decode cX4_firstAgain 54 = .ok (.iconst (-1), 1) := by decide +kernel
theorem dX4_firstAgain_55 : decode cX4_firstAgain 55 = .ok (.ireturn, 1) := by decide +kernel
theorem dX4_all_0 : decode cX4_all 0 = .ok (.iload_n 1, 1) := by decide +kernel
theorem dX4_all_1 : decode cX4_all 1 = .ok (.tableswitch 63 0 3 #[31, 39, 47, 55], 31) := by decide +kernel
theorem dX4_all_32 : decode cX4_all 32 = .ok (.aload_n 0, 1) := by decide +kernel
theorem dX4_all_33 : decode cX4_all 33 = .ok (.getfield 39, 3) := by decide +kernel
theorem dX4_all_36 : decode cX4_all 36 = .ok (.invokevirtual 152, 3) := by decide +kernel
theorem dX4_all_39 : decode cX4_all 39 = .ok (.ireturn, 1) := by decide +kernel
theorem dX4_all_40 : decode cX4_all 40 = .ok (.aload_n 0, 1) := by decide +kernel
theorem dX4_all_41 : decode cX4_all 41 = .ok (.getfield 39, 3) := by decide +kernel
theorem dX4_all_44 : decode cX4_all 44 = .ok (.invokevirtual 170, 3) := by decide +kernel
theorem dX4_all_47 : decode cX4_all 47 = .ok (.ireturn, 1) := by decide +kernel
theorem dX4_all_48 : decode cX4_all 48 = .ok (.aload_n 0, 1) := by decide +kernel
theorem dX4_all_49 : decode cX4_all 49 = .ok (.getfield 39, 3) := by decide +kernel
theorem dX4_all_52 : decode cX4_all 52 = .ok (.invokevirtual 173, 3) := by decide +kernel
theorem dX4_all_55 : decode cX4_all 55 = .ok (.ireturn, 1) := by decide +kernel
theorem dX4_all_56 : decode cX4_all 56 = .ok (.aload_n 0, 1) := by decide +kernel
theorem dX4_all_57 : decode cX4_all 57 = .ok (.getfield 39, 3) := by decide +kernel
theorem dX4_all_60 : decode cX4_all 60 = .ok (.invokevirtual 176, 3) := by decide +kernel
theorem dX4_all_63 : decode cX4_all 63 = .ok (.ireturn, 1) := by decide +kernel
theorem dX4_all_64 : decode cX4_all 64 = .ok (.sipush (-1000), 3) := by decide +kernel
theorem dX4_all_67 : decode cX4_all 67 = .ok (.ireturn, 1) := by decide +kernel
theorem dX4_best_0 : decode cX4_best 0 = .ok (.aload_n 0, 1) := by decide +kernel
theorem dX4_best_1 : decode cX4_best 1 = .ok (.iload_n 1, 1) := by decide +kernel
theorem dX4_best_2 : decode cX4_best 2 = .ok (.invokevirtual 124, 3) := by decide +kernel
theorem dX4_best_5 : decode cX4_best 5 = .ok (.ifCond .eq 22, 3) := by decide +kernel
theorem dX4_best_8 : decode cX4_best 8 = .ok (.iload_n 2, 1) := by decide +kernel
theorem dX4_best_9 : decode cX4_best 9 = .ok (.iconst 0, 1) := by decide +kernel
theorem dX4_best_10 : decode cX4_best 10 = .ok (.bipush 10, 2) := by decide +kernel
theorem dX4_best_12 : decode cX4_best 12 = .ok (.invokestatic 76, 3) := by decide +kernel
theorem dX4_best_15 : decode cX4_best 15 = .ok (.ifCond .eq 12, 3) := by decide +kernel
theorem dX4_best_18 : decode cX4_best 18 = .ok (.iload_n 3, 1) := by decide +kernel
theorem dX4_best_19 : decode cX4_best 19 = .ok (.iconst 0, 1) := by decide +kernel
theorem dX4_best_20 : decode cX4_best 20 = .ok (.iconst 1, 1) := by decide +kernel
theorem dX4_best_21 : decode cX4_best 21 = .ok (.invokestatic 76, 3) := by decide +kernel
theorem dX4_best_24 : decode cX4_best 24 = .ok (.ifCond .ne 7, 3) := by decide +kernel
theorem dX4_best_27 : decode cX4_best 27 = .ok (.sipush (-1000), 3) := by decide +kernel
theorem dX4_best_30 : decode cX4_best 30 = .ok (.ireturn, 1) := by decide +kernel
theorem dX4_best_31 : decode cX4_best 31 = .ok (.ldc 179, 2) := by decide +kernel
theorem dX4_best_33 : decode cX4_best 33 = .ok (.istore 4, 2) := by decide +kernel
theorem dX4_best_35 : decode cX4_best 35 = .ok (.bipush (-100), 2) := by decide +kernel
theorem dX4_best_37 : decode cX4_best 37 = .ok (.istore 5, 2) := by decide +kernel
theorem dX4_best_39 : decode cX4_best 39 = .ok (.bipush (-20), 2) := by decide +kernel
theorem dX4_best_41 : decode cX4_best 41 = .ok (.istore 6, 2) := by decide +kernel
theorem dX4_best_43 : decode cX4_best 43 = .ok (.iload 6, 2) := by decide +kernel
theorem dX4_best_45 : decode cX4_best 45 = .ok (.bipush 20, 2) := by decide +kernel
theorem dX4_best_47 : decode cX4_best 47 = .ok (.if_icmp .gt 56, 3) := by decide +kernel
theorem dX4_best_50 : decode cX4_best 50 = .ok (.aload_n 0, 1) := by decide +kernel
theorem dX4_best_51 : decode cX4_best 51 = .ok (.getfield 43, 3) := by decide +kernel
theorem dX4_best_54 : decode cX4_best 54 = .ok (.aload_n 0, 1) := by decide +kernel
theorem dX4_best_55 : decode cX4_best 55 = .ok (.getfield 39, 3) := by decide +kernel
theorem dX4_best_58 : decode cX4_best 58 = .ok (.invokevirtual 116, 3) := by decide +kernel
theorem dX4_best_61 : decode cX4_best 61 = .ok (.aload_n 0, 1) := by decide +kernel
theorem dX4_best_62 : decode cX4_best 62 = .ok (.getfield 43, 3) := by decide +kernel
theorem dX4_best_65 : decode cX4_best 65 = .ok (.getfield 100, 3) := by decide +kernel
theorem dX4_best_68 : decode cX4_best 68 = .ok (.iload_n 1, 1) := by decide +kernel
theorem dX4_best_69 : decode cX4_best 69 = .ok (.iload 6, 2) := by decide +kernel
theorem dX4_best_71 : decode cX4_best 71 = .ok (.iastore, 1) := by decide +kernel
theorem dX4_best_72 : decode cX4_best 72 = .ok (.aload_n 0, 1) := by decide +kernel
theorem dX4_best_73 : decode cX4_best 73 = .ok (.getfield 43, 3) := by decide +kernel
theorem dX4_best_76 : decode cX4_best 76 = .ok (.iload_n 2, 1) := by decide +kernel
theorem dX4_best_77 : decode cX4_best 77 = .ok (.invokevirtual 158, 3) := by decide +kernel
theorem dX4_best_80 : decode cX4_best 80 = .ok (.istore 7, 2) := by decide +kernel
theorem dX4_best_82 : decode cX4_best 82 = .ok (.iload 7, 2) := by decide +kernel
theorem dX4_best_84 : decode cX4_best 84 = .ok (.iload 4, 2) := by decide +kernel
theorem dX4_best_86 : decode cX4_best 86 = .ok (.if_icmp .le 11, 3) := by decide +kernel
theorem dX4_best_89 : decode cX4_best 89 = .ok (.iload 7, 2) := by decide +kernel
theorem dX4_best_91 : decode cX4_best 91 = .ok (.istore 4, 2) := by decide +kernel
theorem dX4_best_93 : decode cX4_best 93 = .ok (.iload 6, 2) := by decide +kernel
theorem dX4_best_95 : decode cX4_best 95 = .ok (.istore 5, 2) := by decide +kernel
theorem dX4_best_97 : decode cX4_best 97 = .ok (.iinc 6 1, 3) := by decide +kernel
theorem dX4_best_100 : decode cX4_best 100 = .ok (.goto (-57), 3) := by decide +kernel
theorem dX4_best_103 : decode cX4_best 103 = .ok (.iload_n 3, 1) := by decide +kernel
theorem dX4_best_104 : decode cX4_best 104 = .ok (.ifCond .ne 8, 3) := by decide +kernel
theorem dX4_best_107 : decode cX4_best 107 = .ok (.iload 5, 2) := by decide +kernel
theorem dX4_best_109 : decode cX4_best 109 = .ok (.goto 5, 3) := by decide +kernel
theorem dX4_best_112 : decode cX4_best 112 = .ok (.iload 4, 2) := by decide +kernel
theorem dX4_best_114 : decode cX4_best 114 = .ok (.ireturn, 1) := by decide +kernel
theorem dX4_leaveOut_0 : decode cX4_leaveOut 0 = .ok (.iload_n 1, 1) := by decide +kernel
theorem dX4_leaveOut_1 : decode cX4_leaveOut 1 = .ok (.iconst 0, 1) := by decide +kernel
theorem dX4_leaveOut_2 : decode cX4_leaveOut 2 = .ok (.bipush 40, 2) := by decide +kernel
theorem dX4_leaveOut_4 : decode cX4_leaveOut 4 = .ok (.invokestatic 76, 3) := by decide +kernel
theorem dX4_leaveOut_7 : decode cX4_leaveOut 7 = .ok (.ifCond .eq 12, 3) := by decide +kernel
theorem dX4_leaveOut_10 : decode cX4_leaveOut 10 = .ok (.iload_n 2, 1) := by decide +kernel
theorem dX4_leaveOut_11 : decode cX4_leaveOut 11 = .ok (.iconst 0, 1) := by decide +kernel
theorem dX4_leaveOut_12 : decode cX4_leaveOut 12 = .ok (.iconst 1, 1) := by decide +kernel
theorem dX4_leaveOut_13 : decode cX4_leaveOut 13 = .ok (.invokestatic 76, 3) := by decide +kernel
theorem dX4_leaveOut_16 : decode cX4_leaveOut 16 = .ok (.ifCond .ne 7, 3) := by decide +kernel
theorem dX4_leaveOut_19 : decode cX4_leaveOut 19 = .ok (.sipush (-1000), 3) := by decide +kernel
theorem dX4_leaveOut_22 : decode cX4_leaveOut 22 = .ok (.ireturn, 1) := by decide +kernel
theorem dX4_leaveOut_23 : decode cX4_leaveOut 23 = .ok (.aload_n 0, 1) := by decide +kernel
theorem dX4_leaveOut_24 : decode cX4_leaveOut 24 = .ok (.iload_n 1, 1) := by decide +kernel
theorem dX4_leaveOut_25 : decode cX4_leaveOut 25 = .ok (.invokevirtual 180, 3) := by decide +kernel
theorem dX4_leaveOut_28 : decode cX4_leaveOut 28 = .ok (.istore_n 3, 1) := by decide +kernel
theorem dX4_leaveOut_29 : decode cX4_leaveOut 29 = .ok (.iconst (-1), 1) := by decide +kernel
theorem dX4_leaveOut_30 : decode cX4_leaveOut 30 = .ok (.istore 4, 2) := by decide +kernel
theorem dX4_leaveOut_32 : decode cX4_leaveOut 32 = .ok (.iconst 0, 1) := by decide +kernel
theorem dX4_leaveOut_33 : decode cX4_leaveOut 33 = .ok (.istore 5, 2) := by decide +kernel
theorem dX4_leaveOut_35 : decode cX4_leaveOut 35 = .ok (.iload 5, 2) := by decide +kernel
theorem dX4_leaveOut_37 : decode cX4_leaveOut 37 = .ok (.aload_n 0, 1) := by decide +kernel
theorem dX4_leaveOut_38 : decode cX4_leaveOut 38 = .ok (.getfield 39, 3) := by decide +kernel
theorem dX4_leaveOut_41 : decode cX4_leaveOut 41 = .ok (.getfield 127, 3) := by decide +kernel
theorem dX4_leaveOut_44 : decode cX4_leaveOut 44 = .ok (.if_icmp .ge 52, 3) := by decide +kernel
theorem dX4_leaveOut_47 : decode cX4_leaveOut 47 = .ok (.aload_n 0, 1) := by decide +kernel
theorem dX4_leaveOut_48 : decode cX4_leaveOut 48 = .ok (.getfield 43, 3) := by decide +kernel
theorem dX4_leaveOut_51 : decode cX4_leaveOut 51 = .ok (.aload_n 0, 1) := by decide +kernel
theorem dX4_leaveOut_52 : decode cX4_leaveOut 52 = .ok (.getfield 39, 3) := by decide +kernel
theorem dX4_leaveOut_55 : decode cX4_leaveOut 55 = .ok (.invokevirtual 116, 3) := by decide +kernel
theorem dX4_leaveOut_58 : decode cX4_leaveOut 58 = .ok (.aload_n 0, 1) := by decide +kernel
theorem dX4_leaveOut_59 : decode cX4_leaveOut 59 = .ok (.getfield 43, 3) := by decide +kernel
theorem dX4_leaveOut_62 : decode cX4_leaveOut 62 = .ok (.iload 5, 2) := by decide +kernel
theorem dX4_leaveOut_64 : decode cX4_leaveOut 64 = .ok (.putfield 183, 3) := by decide +kernel
theorem dX4_leaveOut_67 : decode cX4_leaveOut 67 = .ok (.aload_n 0, 1) := by decide +kernel
theorem dX4_leaveOut_68 : decode cX4_leaveOut 68 = .ok (.getfield 43, 3) := by decide +kernel
theorem dX4_leaveOut_71 : decode cX4_leaveOut 71 = .ok (.iload_n 1, 1) := by decide +kernel
theorem dX4_leaveOut_72 : decode cX4_leaveOut 72 = .ok (.invokevirtual 158, 3) := by decide +kernel
theorem dX4_leaveOut_75 : decode cX4_leaveOut 75 = .ok (.istore 6, 2) := by decide +kernel
theorem dX4_leaveOut_77 : decode cX4_leaveOut 77 = .ok (.iload 6, 2) := by decide +kernel
theorem dX4_leaveOut_79 : decode cX4_leaveOut 79 = .ok (.iload_n 3, 1) := by decide +kernel
theorem dX4_leaveOut_80 : decode cX4_leaveOut 80 = .ok (.if_icmp .le 10, 3) := by decide +kernel
theorem dX4_leaveOut_83 : decode cX4_leaveOut 83 = .ok (.iload 6, 2) := by decide +kernel
theorem dX4_leaveOut_85 : decode cX4_leaveOut 85 = .ok (.istore_n 3, 1) := by decide +kernel
theorem dX4_leaveOut_86 : decode cX4_leaveOut 86 = .ok (.iload 5, 2) := by decide +kernel
theorem dX4_leaveOut_88 : decode cX4_leaveOut 88 = .ok (.istore 4, 2) := by decide +kernel
theorem dX4_leaveOut_90 : decode cX4_leaveOut 90 = .ok (.iinc 5 1, 3) := by decide +kernel
theorem dX4_leaveOut_93 : decode cX4_leaveOut 93 = .ok (.goto (-58), 3) := by decide +kernel
theorem dX4_leaveOut_96 : decode cX4_leaveOut 96 = .ok (.iload_n 2, 1) := by decide +kernel
theorem dX4_leaveOut_97 : decode cX4_leaveOut 97 = .ok (.ifCond .ne 8, 3) := by decide +kernel
theorem dX4_leaveOut_100 : decode cX4_leaveOut 100 = .ok (.iload 4, 2) := by decide +kernel
theorem dX4_leaveOut_102 : decode cX4_leaveOut 102 = .ok (.goto 4, 3) := by decide +kernel
theorem dX4_leaveOut_105 : decode cX4_leaveOut 105 = .ok (.iload_n 3, 1) := by decide +kernel
theorem dX4_leaveOut_106 : decode cX4_leaveOut 106 = .ok (.ireturn, 1) := by decide +kernel
theorem dX4_spare_0 : decode cX4_spare 0 = .ok (.iload_n 1, 1) := by decide +kernel
theorem dX4_spare_1 : decode cX4_spare 1 = .ok (.iconst 0, 1) := by decide +kernel
theorem dX4_spare_2 : decode cX4_spare 2 = .ok (.bipush 40, 2) := by decide +kernel
theorem dX4_spare_4 : decode cX4_spare 4 = .ok (.invokestatic 76, 3) := by decide +kernel
theorem dX4_spare_7 : decode cX4_spare 7 = .ok (.ifCond .eq 12, 3) := by decide +kernel
theorem dX4_spare_10 : decode cX4_spare 10 = .ok (.iload_n 2, 1) := by decide +kernel
theorem dX4_spare_11 : decode cX4_spare 11 = .ok (.iconst 0, 1) := by decide +kernel
theorem dX4_spare_12 : decode cX4_spare 12 = .ok (.iconst 1, 1) := by decide +kernel
theorem dX4_spare_13 : decode cX4_spare 13 = .ok (.invokestatic 76, 3) := by decide +kernel
theorem dX4_spare_16 : decode cX4_spare 16 = .ok (.ifCond .ne 7, 3) := by decide +kernel
theorem dX4_spare_19 : decode cX4_spare 19 = .ok (.sipush (-1000), 3) := by decide +kernel
theorem dX4_spare_22 : decode cX4_spare 22 = .ok (.ireturn, 1) := by decide +kernel
theorem dX4_spare_23 : decode cX4_spare 23 = .ok (.aload_n 0, 1) := by decide +kernel
theorem dX4_spare_24 : decode cX4_spare 24 = .ok (.iload_n 1, 1) := by decide +kernel
theorem dX4_spare_25 : decode cX4_spare 25 = .ok (.invokevirtual 180, 3) := by decide +kernel
theorem dX4_spare_28 : decode cX4_spare 28 = .ok (.istore_n 3, 1) := by decide +kernel
theorem dX4_spare_29 : decode cX4_spare 29 = .ok (.iconst (-1), 1) := by decide +kernel
theorem dX4_spare_30 : decode cX4_spare 30 = .ok (.istore 4, 2) := by decide +kernel
theorem dX4_spare_32 : decode cX4_spare 32 = .ok (.iconst 0, 1) := by decide +kernel
theorem dX4_spare_33 : decode cX4_spare 33 = .ok (.istore 5, 2) := by decide +kernel
theorem dX4_spare_35 : decode cX4_spare 35 = .ok (.iload 5, 2) := by decide +kernel
theorem dX4_spare_37 : decode cX4_spare 37 = .ok (.bipush 8, 2) := by decide +kernel
theorem dX4_spare_39 : decode cX4_spare 39 = .ok (.if_icmp .ge 64, 3) := by decide +kernel
theorem dX4_spare_42 : decode cX4_spare 42 = .ok (.aload_n 0, 1) := by decide +kernel
theorem dX4_spare_43 : decode cX4_spare 43 = .ok (.getfield 43, 3) := by decide +kernel
theorem dX4_spare_46 : decode cX4_spare 46 = .ok (.aload_n 0, 1) := by decide +kernel
theorem dX4_spare_47 : decode cX4_spare 47 = .ok (.getfield 39, 3) := by decide +kernel
theorem dX4_spare_50 : decode cX4_spare 50 = .ok (.invokevirtual 116, 3) := by decide +kernel
theorem dX4_spare_53 : decode cX4_spare 53 = .ok (.aload_n 0, 1) := by decide +kernel
theorem dX4_spare_54 : decode cX4_spare 54 = .ok (.getfield 43, 3) := by decide +kernel
theorem dX4_spare_57 : decode cX4_spare 57 = .ok (.aload_n 0, 1) := by decide +kernel
theorem dX4_spare_58 : decode cX4_spare 58 = .ok (.getfield 39, 3) := by decide +kernel
theorem dX4_spare_61 : decode cX4_spare 61 = .ok (.getfield 94, 3) := by decide +kernel
theorem dX4_spare_64 : decode cX4_spare 64 = .ok (.iconst 1, 1) := by decide +kernel
theorem dX4_spare_65 : decode cX4_spare 65 = .ok (.iload 5, 2) := by decide +kernel
theorem dX4_spare_67 : decode cX4_spare 67 = .ok (.ishl, 1) := by decide +kernel
theorem dX4_spare_68 : decode cX4_spare 68 = .ok (.iconst (-1), 1) := by decide +kernel
theorem dX4_spare_69 : decode cX4_spare 69 = .ok (.ixor, 1) := by decide +kernel
theorem dX4_spare_70 : decode cX4_spare 70 = .ok (.iand, 1) := by decide +kernel
theorem dX4_spare_71 : decode cX4_spare 71 = .ok (.putfield 94, 3) := by decide +kernel
theorem dX4_spare_74 : decode cX4_spare 74 = .ok (.aload_n 0, 1) := by decide +kernel
theorem dX4_spare_75 : decode cX4_spare 75 = .ok (.getfield 43, 3) := by decide +kernel
theorem dX4_spare_78 : decode cX4_spare 78 = .ok (.iload_n 1, 1) := by decide +kernel
theorem dX4_spare_79 : decode cX4_spare 79 = .ok (.invokevirtual 158, 3) := by decide +kernel
theorem dX4_spare_82 : decode cX4_spare 82 = .ok (.istore 6, 2) := by decide +kernel
theorem dX4_spare_84 : decode cX4_spare 84 = .ok (.iload 6, 2) := by decide +kernel
theorem dX4_spare_86 : decode cX4_spare 86 = .ok (.iload_n 3, 1) := by decide +kernel
theorem dX4_spare_87 : decode cX4_spare 87 = .ok (.if_icmp .le 10, 3) := by decide +kernel
theorem dX4_spare_90 : decode cX4_spare 90 = .ok (.iload 6, 2) := by decide +kernel
theorem dX4_spare_92 : decode cX4_spare 92 = .ok (.istore_n 3, 1) := by decide +kernel
theorem dX4_spare_93 : decode cX4_spare 93 = .ok (.iload 5, 2) := by decide +kernel
theorem dX4_spare_95 : decode cX4_spare 95 = .ok (.istore 4, 2) := by decide +kernel
theorem dX4_spare_97 : decode cX4_spare 97 = .ok (.iinc 5 1, 3) := by decide +kernel
theorem dX4_spare_100 : decode cX4_spare 100 = .ok (.goto (-65), 3) := by decide +kernel
theorem dX4_spare_103 : decode cX4_spare 103 = .ok (.iload_n 2, 1) := by decide +kernel
theorem dX4_spare_104 : decode cX4_spare 104 = .ok (.ifCond .ne 8, 3) := by decide +kernel
theorem dX4_spare_107 : decode cX4_spare 107 = .ok (.iload 4, 2) := by decide +kernel
theorem dX4_spare_109 : decode cX4_spare 109 = .ok (.goto 4, 3) := by decide +kernel
theorem dX4_spare_112 : decode cX4_spare 112 = .ok (.iload_n 3, 1) := by decide +kernel
theorem dX4_spare_113 : decode cX4_spare 113 = .ok (.ireturn, 1) := by decide +kernel
theorem dX4_gladAsItIs_0 : decode cX4_gladAsItIs 0 = .ok (.aload_n 0, 1) := by decide +kernel
theorem dX4_gladAsItIs_1 : decode cX4_gladAsItIs 1 = .ok (.getfield 43, 3) := by decide +kernel
theorem dX4_gladAsItIs_4 : decode cX4_gladAsItIs 4 = .ok (.aload_n 0, 1) := by decide +kernel
theorem dX4_gladAsItIs_5 : decode cX4_gladAsItIs 5 = .ok (.getfield 39, 3) := by decide +kernel
theorem dX4_gladAsItIs_8 : decode cX4_gladAsItIs 8 = .ok (.invokevirtual 116, 3) := by decide +kernel
theorem dX4_gladAsItIs_11 : decode cX4_gladAsItIs 11 = .ok (.aload_n 0, 1) := by decide +kernel
theorem dX4_gladAsItIs_12 : decode cX4_gladAsItIs 12 = .ok (.getfield 43, 3) := by decide +kernel
theorem dX4_gladAsItIs_15 : decode cX4_gladAsItIs 15 = .ok (.iload_n 1, 1) := by decide +kernel
theorem dX4_gladAsItIs_16 : decode cX4_gladAsItIs 16 = .ok (.invokevirtual 158, 3) := by decide +kernel
theorem dX4_gladAsItIs_19 : decode cX4_gladAsItIs 19 = .ok (.ireturn, 1) := by decide +kernel
theorem dX4_add_0 : decode cX4_add 0 = .ok (.aload_n 0, 1) := by decide +kernel
theorem dX4_add_1 : decode cX4_add 1 = .ok (.iload_n 1, 1) := by decide +kernel
theorem dX4_add_2 : decode cX4_add 2 = .ok (.iload_n 2, 1) := by decide +kernel
theorem dX4_add_3 : decode cX4_add 3 = .ok (.invokevirtual 131, 3) := by decide +kernel
theorem dX4_add_6 : decode cX4_add 6 = .ok (.ifCond .eq 12, 3) := by decide +kernel
theorem dX4_add_9 : decode cX4_add 9 = .ok (.iload_n 3, 1) := by decide +kernel
theorem dX4_add_10 : decode cX4_add 10 = .ok (.iconst 0, 1) := by decide +kernel
theorem dX4_add_11 : decode cX4_add 11 = .ok (.iconst 1, 1) := by decide +kernel
theorem dX4_add_12 : decode cX4_add 12 = .ok (.invokestatic 76, 3) := by decide +kernel
theorem dX4_add_15 : decode cX4_add 15 = .ok (.ifCond .ne 7, 3) := by decide +kernel
theorem dX4_add_18 : decode cX4_add 18 = .ok (.sipush (-1000), 3) := by decide +kernel
theorem dX4_add_21 : decode cX4_add 21 = .ok (.ireturn, 1) := by decide +kernel
theorem dX4_add_22 : decode cX4_add 22 = .ok (.aload_n 0, 1) := by decide +kernel
theorem dX4_add_23 : decode cX4_add 23 = .ok (.getfield 43, 3) := by decide +kernel
theorem dX4_add_26 : decode cX4_add 26 = .ok (.aload_n 0, 1) := by decide +kernel
theorem dX4_add_27 : decode cX4_add 27 = .ok (.getfield 39, 3) := by decide +kernel
theorem dX4_add_30 : decode cX4_add 30 = .ok (.invokevirtual 116, 3) := by decide +kernel
theorem dX4_add_33 : decode cX4_add 33 = .ok (.aload_n 0, 1) := by decide +kernel
theorem dX4_add_34 : decode cX4_add 34 = .ok (.getfield 43, 3) := by decide +kernel
theorem dX4_add_37 : decode cX4_add 37 = .ok (.invokevirtual 120, 3) := by decide +kernel
theorem dX4_add_40 : decode cX4_add 40 = .ok (.pop, 1) := by decide +kernel
theorem dX4_add_41 : decode cX4_add 41 = .ok (.aload_n 0, 1) := by decide +kernel
theorem dX4_add_42 : decode cX4_add 42 = .ok (.getfield 39, 3) := by decide +kernel
theorem dX4_add_45 : decode cX4_add 45 = .ok (.getfield 100, 3) := by decide +kernel
theorem dX4_add_48 : decode cX4_add 48 = .ok (.iload_n 2, 1) := by decide +kernel
theorem dX4_add_49 : decode cX4_add 49 = .ok (.iaload, 1) := by decide +kernel
theorem dX4_add_50 : decode cX4_add 50 = .ok (.aload_n 0, 1) := by decide +kernel
theorem dX4_add_51 : decode cX4_add 51 = .ok (.getfield 43, 3) := by decide +kernel
theorem dX4_add_54 : decode cX4_add 54 = .ok (.getfield 186, 3) := by decide +kernel
theorem dX4_add_57 : decode cX4_add 57 = .ok (.iload_n 2, 1) := by decide +kernel
theorem dX4_add_58 : decode cX4_add 58 = .ok (.iaload, 1) := by decide +kernel
theorem dX4_add_59 : decode cX4_add 59 = .ok (.iadd, 1) := by decide +kernel
theorem dX4_add_60 : decode cX4_add 60 = .ok (.istore 4, 2) := by decide +kernel
theorem dX4_add_62 : decode cX4_add 62 = .ok (.aload_n 0, 1) := by decide +kernel
theorem dX4_add_63 : decode cX4_add 63 = .ok (.getfield 43, 3) := by decide +kernel
theorem dX4_add_66 : decode cX4_add 66 = .ok (.getfield 100, 3) := by decide +kernel
theorem dX4_add_69 : decode cX4_add 69 = .ok (.iload_n 2, 1) := by decide +kernel
theorem dX4_add_70 : decode cX4_add 70 = .ok (.iaload, 1) := by decide +kernel
theorem dX4_add_71 : decode cX4_add 71 = .ok (.istore 5, 2) := by decide +kernel
theorem dX4_add_73 : decode cX4_add 73 = .ok (.iconst (-1), 1) := by decide +kernel
theorem dX4_add_74 : decode cX4_add 74 = .ok (.istore 6, 2) := by decide +kernel
theorem dX4_add_76 : decode cX4_add 76 = .ok (.aload_n 0, 1) := by decide +kernel
theorem dX4_add_77 : decode cX4_add 77 = .ok (.getfield 39, 3) := by decide +kernel
theorem dX4_add_80 : decode cX4_add 80 = .ok (.getfield 94, 3) := by decide +kernel
theorem dX4_add_83 : decode cX4_add 83 = .ok (.aload_n 0, 1) := by decide +kernel
theorem dX4_add_84 : decode cX4_add 84 = .ok (.getfield 39, 3) := by decide +kernel
theorem dX4_add_87 : decode cX4_add 87 = .ok (.iload_n 1, 1) := by decide +kernel
theorem dX4_add_88 : decode cX4_add 88 = .ok (.iload_n 2, 1) := by decide +kernel
theorem dX4_add_89 : decode cX4_add 89 = .ok (.invokevirtual 138, 3) := by decide +kernel
theorem dX4_add_92 : decode cX4_add 92 = .ok (.iconst (-1), 1) := by decide +kernel
theorem dX4_add_93 : decode cX4_add 93 = .ok (.ixor, 1) := by decide +kernel
theorem dX4_add_94 : decode cX4_add 94 = .ok (.iand, 1) := by decide +kernel
theorem dX4_add_95 : decode cX4_add 95 = .ok (.istore 7, 2) := by decide +kernel
theorem dX4_add_97 : decode cX4_add 97 = .ok (.iconst 0, 1) := by decide +kernel
theorem dX4_add_98 : decode cX4_add 98 = .ok (.istore 8, 2) := by decide +kernel
theorem dX4_add_100 : decode cX4_add 100 = .ok (.iload 8, 2) := by decide +kernel
theorem dX4_add_102 : decode cX4_add 102 = .ok (.bipush 8, 2) := by decide +kernel
theorem dX4_add_104 : decode cX4_add 104 = .ok (.if_icmp .ge 53, 3) := by decide +kernel
theorem dX4_add_107 : decode cX4_add 107 = .ok (.iload 7, 2) := by decide +kernel
theorem dX4_add_109 : decode cX4_add 109 = .ok (.iload 8, 2) := by decide +kernel
theorem dX4_add_111 : decode cX4_add 111 = .ok (.ishr, 1) := by decide +kernel
theorem dX4_add_112 : decode cX4_add 112 = .ok (.iconst 1, 1) := by decide +kernel
theorem dX4_add_113 : decode cX4_add 113 = .ok (.iand, 1) := by decide +kernel
theorem dX4_add_114 : decode cX4_add 114 = .ok (.ifCond .eq 37, 3) := by decide +kernel
theorem dX4_add_117 : decode cX4_add 117 = .ok (.iload 4, 2) := by decide +kernel
theorem dX4_add_119 : decode cX4_add 119 = .ok (.aload_n 0, 1) := by decide +kernel
theorem dX4_add_120 : decode cX4_add 120 = .ok (.getfield 39, 3) := by decide +kernel
theorem dX4_add_123 : decode cX4_add 123 = .ok (.iload_n 2, 1) := by decide +kernel
theorem dX4_add_124 : decode cX4_add 124 = .ok (.iload_n 1, 1) := by decide +kernel
theorem dX4_add_125 : decode cX4_add 125 = .ok (.iload 8, 2) := by decide +kernel
theorem dX4_add_127 : decode cX4_add 127 = .ok (.invokevirtual 134, 3) := by decide +kernel
theorem dX4_add_130 : decode cX4_add 130 = .ok (.iadd, 1) := by decide +kernel
theorem dX4_add_131 : decode cX4_add 131 = .ok (.invokestatic 189, 3) := by decide +kernel
theorem dX4_add_134 : decode cX4_add 134 = .ok (.istore 9, 2) := by decide +kernel
theorem dX4_add_136 : decode cX4_add 136 = .ok (.iload 9, 2) := by decide +kernel
theorem dX4_add_138 : decode cX4_add 138 = .ok (.iload 5, 2) := by decide +kernel
theorem dX4_add_140 : decode cX4_add 140 = .ok (.if_icmp .le 11, 3) := by decide +kernel
theorem dX4_add_143 : decode cX4_add 143 = .ok (.iload 9, 2) := by decide +kernel
theorem dX4_add_145 : decode cX4_add 145 = .ok (.istore 5, 2) := by decide +kernel
theorem dX4_add_147 : decode cX4_add 147 = .ok (.iload 8, 2) := by decide +kernel
theorem dX4_add_149 : decode cX4_add 149 = .ok (.istore 6, 2) := by decide +kernel
theorem dX4_add_151 : decode cX4_add 151 = .ok (.iinc 8 1, 3) := by decide +kernel
theorem dX4_add_154 : decode cX4_add 154 = .ok (.goto (-54), 3) := by decide +kernel
theorem dX4_add_157 : decode cX4_add 157 = .ok (.iload_n 3, 1) := by decide +kernel
theorem dX4_add_158 : decode cX4_add 158 = .ok (.ifCond .ne 8, 3) := by decide +kernel
theorem dX4_add_161 : decode cX4_add 161 = .ok (.iload 6, 2) := by decide +kernel
theorem dX4_add_163 : decode cX4_add 163 = .ok (.goto 5, 3) := by decide +kernel
theorem dX4_add_166 : decode cX4_add 166 = .ok (.iload 5, 2) := by decide +kernel
theorem dX4_add_168 : decode cX4_add 168 = .ok (.ireturn, 1) := by decide +kernel
theorem dX4_bounded_0 : decode cX4_bounded 0 = .ok (.bipush (-20), 2) := by decide +kernel
theorem dX4_bounded_2 : decode cX4_bounded 2 = .ok (.bipush 20, 2) := by decide +kernel
theorem dX4_bounded_4 : decode cX4_bounded 4 = .ok (.iload_n 0, 1) := by decide +kernel
theorem dX4_bounded_5 : decode cX4_bounded 5 = .ok (.invokestatic 192, 3) := by decide +kernel
theorem dX4_bounded_8 : decode cX4_bounded 8 = .ok (.invokestatic 197, 3) := by decide +kernel
theorem dX4_bounded_11 : decode cX4_bounded 11 = .ok (.ireturn, 1) := by decide +kernel
theorem dX4_tells_0 : decode cX4_tells 0 = .ok (.iload_n 1, 1) := by decide +kernel
theorem dX4_tells_1 : decode cX4_tells 1 = .ok (.invokestatic 200, 3) := by decide +kernel
theorem dX4_tells_4 : decode cX4_tells 4 = .ok (.ifCond .eq 20, 3) := by decide +kernel
theorem dX4_tells_7 : decode cX4_tells 7 = .ok (.aload_n 0, 1) := by decide +kernel
theorem dX4_tells_8 : decode cX4_tells 8 = .ok (.iload_n 2, 1) := by decide +kernel
theorem dX4_tells_9 : decode cX4_tells 9 = .ok (.invokevirtual 124, 3) := by decide +kernel
theorem dX4_tells_12 : decode cX4_tells 12 = .ok (.ifCond .eq 12, 3) := by decide +kernel
theorem dX4_tells_15 : decode cX4_tells 15 = .ok (.iload_n 3, 1) := by decide +kernel
theorem dX4_tells_16 : decode cX4_tells 16 = .ok (.iconst 0, 1) := by decide +kernel
theorem dX4_tells_17 : decode cX4_tells 17 = .ok (.iconst 5, 1) := by decide +kernel
theorem dX4_tells_18 : decode cX4_tells 18 = .ok (.invokestatic 76, 3) := by decide +kernel
theorem dX4_tells_21 : decode cX4_tells 21 = .ok (.ifCond .ne 7, 3) := by decide +kernel
theorem dX4_tells_24 : decode cX4_tells 24 = .ok (.sipush (-1000), 3) := by decide +kernel
theorem dX4_tells_27 : decode cX4_tells 27 = .ok (.ireturn, 1) := by decide +kernel
theorem dX4_tells_28 : decode cX4_tells 28 = .ok (.aload_n 0, 1) := by decide +kernel
theorem dX4_tells_29 : decode cX4_tells 29 = .ok (.getfield 17, 3) := by decide +kernel
theorem dX4_tells_32 : decode cX4_tells 32 = .ok (.iload_n 1, 1) := by decide +kernel
theorem dX4_tells_33 : decode cX4_tells 33 = .ok (.aaload, 1) := by decide +kernel
theorem dX4_tells_34 : decode cX4_tells 34 = .ok (.astore 4, 2) := by decide +kernel
theorem dX4_tells_36 : decode cX4_tells 36 = .ok (.aload 4, 2) := by decide +kernel
theorem dX4_tells_38 : decode cX4_tells 38 = .ok (.invokevirtual 203, 3) := by decide +kernel
theorem dX4_tells_41 : decode cX4_tells 41 = .ok (.ifCond .eq 6, 3) := by decide +kernel
theorem dX4_tells_44 : decode cX4_tells 44 = .ok (.bipush (-11), 2) := by decide +kernel
theorem dX4_tells_46 : decode cX4_tells 46 = .ok (.ireturn, 1) := by decide +kernel
theorem dX4_tells_47 : decode cX4_tells 47 = .ok (.aload 4, 2) := by decide +kernel
theorem dX4_tells_49 : decode cX4_tells 49 = .ok (.getfield 206, 3) := by decide +kernel
theorem dX4_tells_52 : decode cX4_tells 52 = .ok (.bipush 10, 2) := by decide +kernel
theorem dX4_tells_54 : decode cX4_tells 54 = .ok (.if_icmp .le 7, 3) := by decide +kernel
theorem dX4_tells_57 : decode cX4_tells 57 = .ok (.sipush (-1000), 3) := by decide +kernel
theorem dX4_tells_60 : decode cX4_tells 60 = .ok (.ireturn, 1) := by decide +kernel
theorem dX4_tells_61 : decode cX4_tells 61 = .ok (.iload_n 3, 1) := by decide +kernel
theorem dX4_tells_62 : decode cX4_tells 62 = .ok (.tableswitch 74 0 4 #[34, 74, 74, 56, 56], 34) := by decide +kernel
theorem dX4_tells_96 : decode cX4_tells 96 = .ok (.aload_n 0, 1) := by decide +kernel
theorem dX4_tells_97 : decode cX4_tells 97 = .ok (.getfield 43, 3) := by decide +kernel
theorem dX4_tells_100 : decode cX4_tells 100 = .ok (.aload_n 0, 1) := by decide +kernel
theorem dX4_tells_101 : decode cX4_tells 101 = .ok (.getfield 39, 3) := by decide +kernel
theorem dX4_tells_104 : decode cX4_tells 104 = .ok (.invokevirtual 116, 3) := by decide +kernel
theorem dX4_tells_107 : decode cX4_tells 107 = .ok (.aload_n 0, 1) := by decide +kernel
theorem dX4_tells_108 : decode cX4_tells 108 = .ok (.getfield 43, 3) := by decide +kernel
theorem dX4_tells_111 : decode cX4_tells 111 = .ok (.aload 4, 2) := by decide +kernel
theorem dX4_tells_113 : decode cX4_tells 113 = .ok (.iload_n 2, 1) := by decide +kernel
theorem dX4_tells_114 : decode cX4_tells 114 = .ok (.invokevirtual 207, 3) := by decide +kernel
theorem dX4_tells_117 : decode cX4_tells 117 = .ok (.ireturn, 1) := by decide +kernel
theorem dX4_tells_118 : decode cX4_tells 118 = .ok (.aload_n 0, 1) := by decide +kernel
theorem dX4_tells_119 : decode cX4_tells 119 = .ok (.aload 4, 2) := by decide +kernel
theorem dX4_tells_121 : decode cX4_tells 121 = .ok (.iload_n 2, 1) := by decide +kernel
theorem dX4_tells_122 : decode cX4_tells 122 = .ok (.iload_n 3, 1) := by decide +kernel
theorem dX4_tells_123 : decode cX4_tells 123 = .ok (.iconst 4, 1) := by decide +kernel
theorem dX4_tells_124 : decode cX4_tells 124 = .ok (.if_icmp .ne 7, 3) := by decide +kernel
theorem dX4_tells_127 : decode cX4_tells 127 = .ok (.iconst 1, 1) := by decide +kernel
theorem dX4_tells_128 : decode cX4_tells 128 = .ok (.goto 4, 3) := by decide +kernel
theorem dX4_tells_131 : decode cX4_tells 131 = .ok (.iconst 0, 1) := by decide +kernel
theorem dX4_tells_132 : decode cX4_tells 132 = .ok (.invokevirtual 211, 3) := by decide +kernel
theorem dX4_tells_135 : decode cX4_tells 135 = .ok (.ireturn, 1) := by decide +kernel
theorem dX4_tells_136 : decode cX4_tells 136 = .ok (.aload_n 0, 1) := by decide +kernel
theorem dX4_tells_137 : decode cX4_tells 137 = .ok (.aload 4, 2) := by decide +kernel
theorem dX4_tells_139 : decode cX4_tells 139 = .ok (.iload_n 2, 1) := by decide +kernel
theorem dX4_tells_140 : decode cX4_tells 140 = .ok (.iload_n 3, 1) := by decide +kernel
theorem dX4_tells_141 : decode cX4_tells 141 = .ok (.invokevirtual 215, 3) := by decide +kernel
theorem dX4_tells_144 : decode cX4_tells 144 = .ok (.ireturn, 1) := by decide +kernel
theorem dX4_bitsSo_0 : decode cX4_bitsSo 0 = .ok (.iload_n 3, 1) := by decide +kernel
theorem dX4_bitsSo_1 : decode cX4_bitsSo 1 = .ok (.iconst 1, 1) := by decide +kernel
theorem dX4_bitsSo_2 : decode cX4_bitsSo 2 = .ok (.if_icmp .ne 8, 3) := by decide +kernel
theorem dX4_bitsSo_5 : decode cX4_bitsSo 5 = .ok (.bipush 6, 2) := by decide +kernel
theorem dX4_bitsSo_7 : decode cX4_bitsSo 7 = .ok (.goto 17, 3) := by decide +kernel
theorem dX4_bitsSo_10 : decode cX4_bitsSo 10 = .ok (.iload_n 3, 1) := by decide +kernel
theorem dX4_bitsSo_11 : decode cX4_bitsSo 11 = .ok (.iconst 2, 1) := by decide +kernel
theorem dX4_bitsSo_12 : decode cX4_bitsSo 12 = .ok (.if_icmp .ne 8, 3) := by decide +kernel
theorem dX4_bitsSo_15 : decode cX4_bitsSo 15 = .ok (.bipush 10, 2) := by decide +kernel
theorem dX4_bitsSo_17 : decode cX4_bitsSo 17 = .ok (.goto 7, 3) := by decide +kernel
theorem dX4_bitsSo_20 : decode cX4_bitsSo 20 = .ok (.aload_n 0, 1) := by decide +kernel
theorem dX4_bitsSo_21 : decode cX4_bitsSo 21 = .ok (.getfield 73, 3) := by decide +kernel
theorem dX4_bitsSo_24 : decode cX4_bitsSo 24 = .ok (.istore 4, 2) := by decide +kernel
theorem dX4_bitsSo_26 : decode cX4_bitsSo 26 = .ok (.iconst 0, 1) := by decide +kernel
theorem dX4_bitsSo_27 : decode cX4_bitsSo 27 = .ok (.istore 5, 2) := by decide +kernel
theorem dX4_bitsSo_29 : decode cX4_bitsSo 29 = .ok (.iconst 0, 1) := by decide +kernel
theorem dX4_bitsSo_30 : decode cX4_bitsSo 30 = .ok (.istore 6, 2) := by decide +kernel
theorem dX4_bitsSo_32 : decode cX4_bitsSo 32 = .ok (.iload 6, 2) := by decide +kernel
theorem dX4_bitsSo_34 : decode cX4_bitsSo 34 = .ok (.iload 4, 2) := by decide +kernel
theorem dX4_bitsSo_36 : decode cX4_bitsSo 36 = .ok (.if_icmp .ge 89, 3) := by decide +kernel
theorem dX4_bitsSo_39 : decode cX4_bitsSo 39 = .ok (.aload_n 0, 1) := by decide +kernel
theorem dX4_bitsSo_40 : decode cX4_bitsSo 40 = .ok (.getfield 43, 3) := by decide +kernel
theorem dX4_bitsSo_43 : decode cX4_bitsSo 43 = .ok (.aload_n 0, 1) := by decide +kernel
theorem dX4_bitsSo_44 : decode cX4_bitsSo 44 = .ok (.getfield 39, 3) := by decide +kernel
theorem dX4_bitsSo_47 : decode cX4_bitsSo 47 = .ok (.invokevirtual 116, 3) := by decide +kernel
theorem dX4_bitsSo_50 : decode cX4_bitsSo 50 = .ok (.iload_n 3, 1) := by decide +kernel
theorem dX4_bitsSo_51 : decode cX4_bitsSo 51 = .ok (.iconst 1, 1) := by decide +kernel
theorem dX4_bitsSo_52 : decode cX4_bitsSo 52 = .ok (.if_icmp .ne 17, 3) := by decide +kernel
theorem dX4_bitsSo_55 : decode cX4_bitsSo 55 = .ok (.aload_n 0, 1) := by decide +kernel
theorem dX4_bitsSo_56 : decode cX4_bitsSo 56 = .ok (.getfield 43, 3) := by decide +kernel
theorem dX4_bitsSo_59 : decode cX4_bitsSo 59 = .ok (.getfield 106, 3) := by decide +kernel
theorem dX4_bitsSo_62 : decode cX4_bitsSo 62 = .ok (.iload_n 2, 1) := by decide +kernel
theorem dX4_bitsSo_63 : decode cX4_bitsSo 63 = .ok (.iload 6, 2) := by decide +kernel
theorem dX4_bitsSo_65 : decode cX4_bitsSo 65 = .ok (.iastore, 1) := by decide +kernel
theorem dX4_bitsSo_66 : decode cX4_bitsSo 66 = .ok (.goto 31, 3) := by decide +kernel
theorem dX4_bitsSo_69 : decode cX4_bitsSo 69 = .ok (.iload_n 3, 1) := by decide +kernel
theorem dX4_bitsSo_70 : decode cX4_bitsSo 70 = .ok (.iconst 2, 1) := by decide +kernel
theorem dX4_bitsSo_71 : decode cX4_bitsSo 71 = .ok (.if_icmp .ne 17, 3) := by decide +kernel
theorem dX4_bitsSo_74 : decode cX4_bitsSo 74 = .ok (.aload_n 0, 1) := by decide +kernel
theorem dX4_bitsSo_75 : decode cX4_bitsSo 75 = .ok (.getfield 43, 3) := by decide +kernel
theorem dX4_bitsSo_78 : decode cX4_bitsSo 78 = .ok (.getfield 97, 3) := by decide +kernel
theorem dX4_bitsSo_81 : decode cX4_bitsSo 81 = .ok (.iload_n 2, 1) := by decide +kernel
theorem dX4_bitsSo_82 : decode cX4_bitsSo 82 = .ok (.iload 6, 2) := by decide +kernel
theorem dX4_bitsSo_84 : decode cX4_bitsSo 84 = .ok (.iastore, 1) := by decide +kernel
theorem dX4_bitsSo_85 : decode cX4_bitsSo 85 = .ok (.goto 12, 3) := by decide +kernel
theorem dX4_bitsSo_88 : decode cX4_bitsSo 88 = .ok (.aload_n 0, 1) := by decide +kernel
theorem dX4_bitsSo_89 : decode cX4_bitsSo 89 = .ok (.getfield 43, 3) := by decide +kernel
theorem dX4_bitsSo_92 : decode cX4_bitsSo 92 = .ok (.iload 6, 2) := by decide +kernel
theorem dX4_bitsSo_94 : decode cX4_bitsSo 94 = .ok (.putfield 128, 3) := by decide +kernel
theorem dX4_bitsSo_97 : decode cX4_bitsSo 97 = .ok (.aload_n 0, 1) := by decide +kernel
theorem dX4_bitsSo_98 : decode cX4_bitsSo 98 = .ok (.getfield 43, 3) := by decide +kernel
theorem dX4_bitsSo_101 : decode cX4_bitsSo 101 = .ok (.aload_n 1, 1) := by decide +kernel
theorem dX4_bitsSo_102 : decode cX4_bitsSo 102 = .ok (.iload_n 2, 1) := by decide +kernel
theorem dX4_bitsSo_103 : decode cX4_bitsSo 103 = .ok (.invokevirtual 207, 3) := by decide +kernel
theorem dX4_bitsSo_106 : decode cX4_bitsSo 106 = .ok (.iconst (-1), 1) := by decide +kernel
theorem dX4_bitsSo_107 : decode cX4_bitsSo 107 = .ok (.if_icmp .ne 12, 3) := by decide +kernel
theorem dX4_bitsSo_110 : decode cX4_bitsSo 110 = .ok (.iload 5, 2) := by decide +kernel
theorem dX4_bitsSo_112 : decode cX4_bitsSo 112 = .ok (.iconst 1, 1) := by decide +kernel
theorem dX4_bitsSo_113 : decode cX4_bitsSo 113 = .ok (.iload 6, 2) := by decide +kernel
theorem dX4_bitsSo_115 : decode cX4_bitsSo 115 = .ok (.ishl, 1) := by decide +kernel
theorem dX4_bitsSo_116 : decode cX4_bitsSo 116 = .ok (.ior, 1) := by decide +kernel
theorem dX4_bitsSo_117 : decode cX4_bitsSo 117 = .ok (.istore 5, 2) := by decide +kernel
theorem dX4_bitsSo_119 : decode cX4_bitsSo 119 = .ok (.iinc 6 1, 3) := by decide +kernel
theorem dX4_bitsSo_122 : decode cX4_bitsSo 122 = .ok (.goto (-90), 3) := by decide +kernel
theorem dX4_bitsSo_125 : decode cX4_bitsSo 125 = .ok (.iload 5, 2) := by decide +kernel
theorem dX4_bitsSo_127 : decode cX4_bitsSo 127 = .ok (.ireturn, 1) := by decide +kernel
theorem dX4_moodsSo_0 : decode cX4_moodsSo 0 = .ok (.iconst 0, 1) := by decide +kernel
theorem dX4_moodsSo_1 : decode cX4_moodsSo 1 = .ok (.istore 4, 2) := by decide +kernel
theorem dX4_moodsSo_3 : decode cX4_moodsSo 3 = .ok (.bipush (-100), 2) := by decide +kernel
theorem dX4_moodsSo_5 : decode cX4_moodsSo 5 = .ok (.istore 5, 2) := by decide +kernel
theorem dX4_moodsSo_7 : decode cX4_moodsSo 7 = .ok (.bipush (-20), 2) := by decide +kernel
theorem dX4_moodsSo_9 : decode cX4_moodsSo 9 = .ok (.istore 6, 2) := by decide +kernel
theorem dX4_moodsSo_11 : decode cX4_moodsSo 11 = .ok (.iload 6, 2) := by decide +kernel
theorem dX4_moodsSo_13 : decode cX4_moodsSo 13 = .ok (.bipush 20, 2) := by decide +kernel
theorem dX4_moodsSo_15 : decode cX4_moodsSo 15 = .ok (.if_icmp .gt 61, 3) := by decide +kernel
theorem dX4_moodsSo_18 : decode cX4_moodsSo 18 = .ok (.aload_n 0, 1) := by decide +kernel
theorem dX4_moodsSo_19 : decode cX4_moodsSo 19 = .ok (.getfield 43, 3) := by decide +kernel
theorem dX4_moodsSo_22 : decode cX4_moodsSo 22 = .ok (.aload_n 0, 1) := by decide +kernel
theorem dX4_moodsSo_23 : decode cX4_moodsSo 23 = .ok (.getfield 39, 3) := by decide +kernel
theorem dX4_moodsSo_26 : decode cX4_moodsSo 26 = .ok (.invokevirtual 116, 3) := by decide +kernel
theorem dX4_moodsSo_29 : decode cX4_moodsSo 29 = .ok (.aload_n 0, 1) := by decide +kernel
theorem dX4_moodsSo_30 : decode cX4_moodsSo 30 = .ok (.getfield 43, 3) := by decide +kernel
theorem dX4_moodsSo_33 : decode cX4_moodsSo 33 = .ok (.getfield 100, 3) := by decide +kernel
theorem dX4_moodsSo_36 : decode cX4_moodsSo 36 = .ok (.iload_n 2, 1) := by decide +kernel
theorem dX4_moodsSo_37 : decode cX4_moodsSo 37 = .ok (.iload 6, 2) := by decide +kernel
theorem dX4_moodsSo_39 : decode cX4_moodsSo 39 = .ok (.iastore, 1) := by decide +kernel
theorem dX4_moodsSo_40 : decode cX4_moodsSo 40 = .ok (.aload_n 0, 1) := by decide +kernel
theorem dX4_moodsSo_41 : decode cX4_moodsSo 41 = .ok (.getfield 43, 3) := by decide +kernel
theorem dX4_moodsSo_44 : decode cX4_moodsSo 44 = .ok (.aload_n 1, 1) := by decide +kernel
theorem dX4_moodsSo_45 : decode cX4_moodsSo 45 = .ok (.iload_n 2, 1) := by decide +kernel
theorem dX4_moodsSo_46 : decode cX4_moodsSo 46 = .ok (.invokevirtual 207, 3) := by decide +kernel
theorem dX4_moodsSo_49 : decode cX4_moodsSo 49 = .ok (.iconst (-1), 1) := by decide +kernel
theorem dX4_moodsSo_50 : decode cX4_moodsSo 50 = .ok (.if_icmp .ne 20, 3) := by decide +kernel
theorem dX4_moodsSo_53 : decode cX4_moodsSo 53 = .ok (.iload 4, 2) := by decide +kernel
theorem dX4_moodsSo_55 : decode cX4_moodsSo 55 = .ok (.ifCond .ne 8, 3) := by decide +kernel
theorem dX4_moodsSo_58 : decode cX4_moodsSo 58 = .ok (.iload 6, 2) := by decide +kernel
theorem dX4_moodsSo_60 : decode cX4_moodsSo 60 = .ok (.goto 5, 3) := by decide +kernel
theorem dX4_moodsSo_63 : decode cX4_moodsSo 63 = .ok (.iload 5, 2) := by decide +kernel
theorem dX4_moodsSo_65 : decode cX4_moodsSo 65 = .ok (.istore 5, 2) := by decide +kernel
theorem dX4_moodsSo_67 : decode cX4_moodsSo 67 = .ok (.iinc 4 1, 3) := by decide +kernel
theorem dX4_moodsSo_70 : decode cX4_moodsSo 70 = .ok (.iinc 6 1, 3) := by decide +kernel
theorem dX4_moodsSo_73 : decode cX4_moodsSo 73 = .ok (.goto (-62), 3) := by decide +kernel
theorem dX4_moodsSo_76 : decode cX4_moodsSo 76 = .ok (.iload_n 3, 1) := by decide +kernel
theorem dX4_moodsSo_77 : decode cX4_moodsSo 77 = .ok (.ifCond .eq 8, 3) := by decide +kernel
theorem dX4_moodsSo_80 : decode cX4_moodsSo 80 = .ok (.iload 5, 2) := by decide +kernel
theorem dX4_moodsSo_82 : decode cX4_moodsSo 82 = .ok (.goto 5, 3) := by decide +kernel
theorem dX4_moodsSo_85 : decode cX4_moodsSo 85 = .ok (.iload 4, 2) := by decide +kernel
theorem dX4_moodsSo_87 : decode cX4_moodsSo 87 = .ok (.ireturn, 1) := by decide +kernel
theorem dX4_film_0 : decode cX4_film 0 = .ok (.iload_n 1, 1) := by decide +kernel
theorem dX4_film_1 : decode cX4_film 1 = .ok (.invokestatic 200, 3) := by decide +kernel
theorem dX4_film_4 : decode cX4_film 4 = .ok (.ifCond .eq 21, 3) := by decide +kernel
theorem dX4_film_7 : decode cX4_film 7 = .ok (.aload_n 0, 1) := by decide +kernel
theorem dX4_film_8 : decode cX4_film 8 = .ok (.iload_n 2, 1) := by decide +kernel
theorem dX4_film_9 : decode cX4_film 9 = .ok (.invokevirtual 124, 3) := by decide +kernel
theorem dX4_film_12 : decode cX4_film 12 = .ok (.ifCond .eq 13, 3) := by decide +kernel
theorem dX4_film_15 : decode cX4_film 15 = .ok (.iload_n 3, 1) := by decide +kernel
theorem dX4_film_16 : decode cX4_film 16 = .ok (.iconst 0, 1) := by decide +kernel
theorem dX4_film_17 : decode cX4_film 17 = .ok (.bipush 10, 2) := by decide +kernel
theorem dX4_film_19 : decode cX4_film 19 = .ok (.invokestatic 76, 3) := by decide +kernel
theorem dX4_film_22 : decode cX4_film 22 = .ok (.ifCond .ne 6, 3) := by decide +kernel
theorem dX4_film_25 : decode cX4_film 25 = .ok (.bipush (-2), 2) := by decide +kernel
theorem dX4_film_27 : decode cX4_film 27 = .ok (.ireturn, 1) := by decide +kernel
theorem dX4_film_28 : decode cX4_film 28 = .ok (.aload_n 0, 1) := by decide +kernel
theorem dX4_film_29 : decode cX4_film 29 = .ok (.getfield 17, 3) := by decide +kernel
theorem dX4_film_32 : decode cX4_film 32 = .ok (.iload_n 1, 1) := by decide +kernel
theorem dX4_film_33 : decode cX4_film 33 = .ok (.aaload, 1) := by decide +kernel
theorem dX4_film_34 : decode cX4_film 34 = .ok (.astore 4, 2) := by decide +kernel
theorem dX4_film_36 : decode cX4_film 36 = .ok (.aload 4, 2) := by decide +kernel
theorem dX4_film_38 : decode cX4_film 38 = .ok (.iconst 0, 1) := by decide +kernel
theorem dX4_film_39 : decode cX4_film 39 = .ok (.iload_n 3, 1) := by decide +kernel
theorem dX4_film_40 : decode cX4_film 40 = .ok (.invokevirtual 219, 3) := by decide +kernel
theorem dX4_film_43 : decode cX4_film 43 = .ok (.aload_n 0, 1) := by decide +kernel
theorem dX4_film_44 : decode cX4_film 44 = .ok (.getfield 43, 3) := by decide +kernel
theorem dX4_film_47 : decode cX4_film 47 = .ok (.aload_n 0, 1) := by decide +kernel
theorem dX4_film_48 : decode cX4_film 48 = .ok (.getfield 39, 3) := by decide +kernel
theorem dX4_film_51 : decode cX4_film 51 = .ok (.invokevirtual 116, 3) := by decide +kernel
theorem dX4_film_54 : decode cX4_film 54 = .ok (.iconst 0, 1) := by decide +kernel
theorem dX4_film_55 : decode cX4_film 55 = .ok (.istore 5, 2) := by decide +kernel
theorem dX4_film_57 : decode cX4_film 57 = .ok (.iload 5, 2) := by decide +kernel
theorem dX4_film_59 : decode cX4_film 59 = .ok (.iload_n 3, 1) := by decide +kernel
theorem dX4_film_60 : decode cX4_film 60 = .ok (.if_icmp .ge 33, 3) := by decide +kernel
theorem dX4_film_63 : decode cX4_film 63 = .ok (.aload_n 0, 1) := by decide +kernel
theorem dX4_film_64 : decode cX4_film 64 = .ok (.getfield 43, 3) := by decide +kernel
theorem dX4_film_67 : decode cX4_film 67 = .ok (.invokevirtual 120, 3) := by decide +kernel
theorem dX4_film_70 : decode cX4_film 70 = .ok (.pop, 1) := by decide +kernel
theorem dX4_film_71 : decode cX4_film 71 = .ok (.aload 4, 2) := by decide +kernel
theorem dX4_film_73 : decode cX4_film 73 = .ok (.iload 5, 2) := by decide +kernel
theorem dX4_film_75 : decode cX4_film 75 = .ok (.aload_n 0, 1) := by decide +kernel
theorem dX4_film_76 : decode cX4_film 76 = .ok (.getfield 43, 3) := by decide +kernel
theorem dX4_film_79 : decode cX4_film 79 = .ok (.getfield 100, 3) := by decide +kernel
theorem dX4_film_82 : decode cX4_film 82 = .ok (.iload_n 2, 1) := by decide +kernel
theorem dX4_film_83 : decode cX4_film 83 = .ok (.iaload, 1) := by decide +kernel
theorem dX4_film_84 : decode cX4_film 84 = .ok (.invokevirtual 223, 3) := by decide +kernel
theorem dX4_film_87 : decode cX4_film 87 = .ok (.iinc 5 1, 3) := by decide +kernel
theorem dX4_film_90 : decode cX4_film 90 = .ok (.goto (-33), 3) := by decide +kernel
theorem dX4_film_93 : decode cX4_film 93 = .ok (.iload_n 3, 1) := by decide +kernel
theorem dX4_film_94 : decode cX4_film 94 = .ok (.ireturn, 1) := by decide +kernel
theorem dX4_drawn_0 : decode cX4_drawn 0 = .ok (.aload_n 0, 1) := by decide +kernel
theorem dX4_drawn_1 : decode cX4_drawn 1 = .ok (.getfield 43, 3) := by decide +kernel
theorem dX4_drawn_4 : decode cX4_drawn 4 = .ok (.aload_n 0, 1) := by decide +kernel
theorem dX4_drawn_5 : decode cX4_drawn 5 = .ok (.getfield 39, 3) := by decide +kernel
theorem dX4_drawn_8 : decode cX4_drawn 8 = .ok (.invokevirtual 116, 3) := by decide +kernel
theorem dX4_drawn_11 : decode cX4_drawn 11 = .ok (.aload_n 0, 1) := by decide +kernel
theorem dX4_drawn_12 : decode cX4_drawn 12 = .ok (.getfield 43, 3) := by decide +kernel
theorem dX4_drawn_15 : decode cX4_drawn 15 = .ok (.iload_n 1, 1) := by decide +kernel
theorem dX4_drawn_16 : decode cX4_drawn 16 = .ok (.invokevirtual 226, 3) := by decide +kernel
theorem dX4_drawn_19 : decode cX4_drawn 19 = .ok (.aload_n 0, 1) := by decide +kernel
theorem dX4_drawn_20 : decode cX4_drawn 20 = .ok (.getfield 43, 3) := by decide +kernel
theorem dX4_drawn_23 : decode cX4_drawn 23 = .ok (.iconst 5, 1) := by decide +kernel
theorem dX4_drawn_24 : decode cX4_drawn 24 = .ok (.invokevirtual 158, 3) := by decide +kernel
theorem dX4_drawn_27 : decode cX4_drawn 27 = .ok (.ireturn, 1) := by decide +kernel
theorem dX4_chance_0 : decode cX4_chance 0 = .ok (.iload_n 2, 1) := by decide +kernel
theorem dX4_chance_1 : decode cX4_chance 1 = .ok (.iconst 1, 1) := by decide +kernel
theorem dX4_chance_2 : decode cX4_chance 2 = .ok (.bipush 20, 2) := by decide +kernel
theorem dX4_chance_4 : decode cX4_chance 4 = .ok (.invokestatic 76, 3) := by decide +kernel
theorem dX4_chance_7 : decode cX4_chance 7 = .ok (.ifCond .eq 24, 3) := by decide +kernel
theorem dX4_chance_10 : decode cX4_chance 10 = .ok (.iload_n 3, 1) := by decide +kernel
theorem dX4_chance_11 : decode cX4_chance 11 = .ok (.bipush (-100), 2) := by decide +kernel
theorem dX4_chance_13 : decode cX4_chance 13 = .ok (.bipush 100, 2) := by decide +kernel
theorem dX4_chance_15 : decode cX4_chance 15 = .ok (.invokestatic 76, 3) := by decide +kernel
theorem dX4_chance_18 : decode cX4_chance 18 = .ok (.ifCond .eq 13, 3) := by decide +kernel
theorem dX4_chance_21 : decode cX4_chance 21 = .ok (.iload 4, 2) := by decide +kernel
theorem dX4_chance_23 : decode cX4_chance 23 = .ok (.iconst 0, 1) := by decide +kernel
theorem dX4_chance_24 : decode cX4_chance 24 = .ok (.iconst 1, 1) := by decide +kernel
theorem dX4_chance_25 : decode cX4_chance 25 = .ok (.invokestatic 76, 3) := by decide +kernel
theorem dX4_chance_28 : decode cX4_chance 28 = .ok (.ifCond .ne 7, 3) := by decide +kernel
theorem dX4_chance_31 : decode cX4_chance 31 = .ok (.ldc2_w 230, 3) := by decide +kernel
theorem dX4_chance_34 : decode cX4_chance 34 = .ok (.lreturn, 1) := by decide +kernel
theorem dX4_chance_35 : decode cX4_chance 35 = .ok (.iconst 0, 1) := by decide +kernel
theorem dX4_chance_36 : decode cX4_chance 36 = .ok (.istore 5, 2) := by decide +kernel
theorem dX4_chance_38 : decode cX4_chance 38 = .ok (.iconst 0, 1) := by decide +kernel
theorem dX4_chance_39 : decode cX4_chance 39 = .ok (.istore 6, 2) := by decide +kernel
theorem dX4_chance_41 : decode cX4_chance 41 = .ok (.iload 6, 2) := by decide +kernel
theorem dX4_chance_43 : decode cX4_chance 43 = .ok (.iload_n 2, 1) := by decide +kernel
theorem dX4_chance_44 : decode cX4_chance 44 = .ok (.if_icmp .ge 46, 3) := by decide +kernel
theorem dX4_chance_47 : decode cX4_chance 47 = .ok (.aload_n 0, 1) := by decide +kernel
theorem dX4_chance_48 : decode cX4_chance 48 = .ok (.getfield 43, 3) := by decide +kernel
theorem dX4_chance_51 : decode cX4_chance 51 = .ok (.aload_n 0, 1) := by decide +kernel
theorem dX4_chance_52 : decode cX4_chance 52 = .ok (.getfield 39, 3) := by decide +kernel
theorem dX4_chance_55 : decode cX4_chance 55 = .ok (.invokevirtual 116, 3) := by decide +kernel
theorem dX4_chance_58 : decode cX4_chance 58 = .ok (.aload_n 0, 1) := by decide +kernel
theorem dX4_chance_59 : decode cX4_chance 59 = .ok (.getfield 43, 3) := by decide +kernel
theorem dX4_chance_62 : decode cX4_chance 62 = .ok (.iload_n 1, 1) := by decide +kernel
theorem dX4_chance_63 : decode cX4_chance 63 = .ok (.iload 6, 2) := by decide +kernel
theorem dX4_chance_65 : decode cX4_chance 65 = .ok (.iadd, 1) := by decide +kernel
theorem dX4_chance_66 : decode cX4_chance 66 = .ok (.invokevirtual 226, 3) := by decide +kernel
theorem dX4_chance_69 : decode cX4_chance 69 = .ok (.aload_n 0, 1) := by decide +kernel
theorem dX4_chance_70 : decode cX4_chance 70 = .ok (.getfield 43, 3) := by decide +kernel
theorem dX4_chance_73 : decode cX4_chance 73 = .ok (.iconst 5, 1) := by decide +kernel
theorem dX4_chance_74 : decode cX4_chance 74 = .ok (.invokevirtual 158, 3) := by decide +kernel
theorem dX4_chance_77 : decode cX4_chance 77 = .ok (.iload_n 3, 1) := by decide +kernel
theorem dX4_chance_78 : decode cX4_chance 78 = .ok (.if_icmp .lt 6, 3) := by decide +kernel
theorem dX4_chance_81 : decode cX4_chance 81 = .ok (.iinc 5 1, 3) := by decide +kernel
theorem dX4_chance_84 : decode cX4_chance 84 = .ok (.iinc 6 1, 3) := by decide +kernel
theorem dX4_chance_87 : decode cX4_chance 87 = .ok (.goto (-46), 3) := by decide +kernel
theorem dX4_chance_90 : decode cX4_chance 90 = .ok (.iload 5, 2) := by decide +kernel
theorem dX4_chance_92 : decode cX4_chance 92 = .ok (.iload_n 2, 1) := by decide +kernel
theorem dX4_chance_93 : decode cX4_chance 93 = .ok (.invokestatic 232, 3) := by decide +kernel
theorem dX4_chance_96 : decode cX4_chance 96 = .ok (.istore 6, 2) := by decide +kernel
theorem dX4_chance_98 : decode cX4_chance 98 = .ok (.iload 4, 2) := by decide +kernel
theorem dX4_chance_100 : decode cX4_chance 100 = .ok (.ifCond .ne 12, 3) := by decide +kernel
theorem dX4_chance_103 : decode cX4_chance 103 = .ok (.iload 5, 2) := by decide +kernel
theorem dX4_chance_105 : decode cX4_chance 105 = .ok (.iload 6, 2) := by decide +kernel
theorem dX4_chance_107 : decode cX4_chance 107 = .ok (.idiv, 1) := by decide +kernel
theorem dX4_chance_108 : decode cX4_chance 108 = .ok (.i2l, 1) := by decide +kernel
theorem dX4_chance_109 : decode cX4_chance 109 = .ok (.goto 8, 3) := by decide +kernel
theorem dX4_chance_112 : decode cX4_chance 112 = .ok (.iload_n 2, 1) := by decide +kernel
theorem dX4_chance_113 : decode cX4_chance 113 = .ok (.iload 6, 2) := by decide +kernel
theorem dX4_chance_115 : decode cX4_chance 115 = .ok (.idiv, 1) := by decide +kernel
theorem dX4_chance_116 : decode cX4_chance 116 = .ok (.i2l, 1) := by decide +kernel
theorem dX4_chance_117 : decode cX4_chance 117 = .ok (.lreturn, 1) := by decide +kernel
theorem dX4_sharedDivisor_0 : decode cX4_sharedDivisor 0 = .ok (.iload_n 1, 1) := by decide +kernel
theorem dX4_sharedDivisor_1 : decode cX4_sharedDivisor 1 = .ok (.istore_n 2, 1) := by decide +kernel
theorem dX4_sharedDivisor_2 : decode cX4_sharedDivisor 2 = .ok (.iload_n 2, 1) := by decide +kernel
theorem dX4_sharedDivisor_3 : decode cX4_sharedDivisor 3 = .ok (.iconst 1, 1) := by decide +kernel
theorem dX4_sharedDivisor_4 : decode cX4_sharedDivisor 4 = .ok (.if_icmp .le 23, 3) := by decide +kernel
theorem dX4_sharedDivisor_7 : decode cX4_sharedDivisor 7 = .ok (.iload_n 0, 1) := by decide +kernel
theorem dX4_sharedDivisor_8 : decode cX4_sharedDivisor 8 = .ok (.iload_n 2, 1) := by decide +kernel
theorem dX4_sharedDivisor_9 : decode cX4_sharedDivisor 9 = .ok (.irem, 1) := by decide +kernel
theorem dX4_sharedDivisor_10 : decode cX4_sharedDivisor 10 = .ok (.ifCond .ne 11, 3) := by decide +kernel
theorem dX4_sharedDivisor_13 : decode cX4_sharedDivisor 13 = .ok (.iload_n 1, 1) := by decide +kernel
theorem dX4_sharedDivisor_14 : decode cX4_sharedDivisor 14 = .ok (.iload_n 2, 1) := by decide +kernel
theorem dX4_sharedDivisor_15 : decode cX4_sharedDivisor 15 = .ok (.irem, 1) := by decide +kernel
theorem dX4_sharedDivisor_16 : decode cX4_sharedDivisor 16 = .ok (.ifCond .ne 5, 3) := by decide +kernel
theorem dX4_sharedDivisor_19 : decode cX4_sharedDivisor 19 = .ok (.iload_n 2, 1) := by decide +kernel
theorem dX4_sharedDivisor_20 : decode cX4_sharedDivisor 20 = .ok (.ireturn, 1) := by decide +kernel
theorem dX4_sharedDivisor_21 : decode cX4_sharedDivisor 21 = .ok (.iinc 2 (-1), 3) := by decide +kernel
theorem dX4_sharedDivisor_24 : decode cX4_sharedDivisor 24 = .ok (.goto (-22), 3) := by decide +kernel
theorem dX4_sharedDivisor_27 : decode cX4_sharedDivisor 27 = .ok (.iconst 1, 1) := by decide +kernel
theorem dX4_sharedDivisor_28 : decode cX4_sharedDivisor 28 = .ok (.ireturn, 1) := by decide +kernel
theorem dX4_image_0 : decode cX4_image 0 = .ok (.aload_n 0, 1) := by decide +kernel
theorem dX4_image_1 : decode cX4_image 1 = .ok (.getfield 46, 3) := by decide +kernel
theorem dX4_image_4 : decode cX4_image 4 = .ok (.aload_n 0, 1) := by decide +kernel
theorem dX4_image_5 : decode cX4_image 5 = .ok (.getfield 39, 3) := by decide +kernel
theorem dX4_image_8 : decode cX4_image 8 = .ok (.invokevirtual 116, 3) := by decide +kernel
theorem dX4_image_11 : decode cX4_image 11 = .ok (.aload_n 0, 1) := by decide +kernel
theorem dX4_image_12 : decode cX4_image 12 = .ok (.iconst 1, 1) := by decide +kernel
theorem dX4_image_13 : decode cX4_image 13 = .ok (.putfield 235, 3) := by decide +kernel
theorem dX4_image_16 : decode cX4_image 16 = .ok (.aload_n 0, 1) := by decide +kernel
theorem dX4_image_17 : decode cX4_image 17 = .ok (.getfield 46, 3) := by decide +kernel
theorem dX4_image_20 : decode cX4_image 20 = .ok (.getfield 127, 3) := by decide +kernel
theorem dX4_image_23 : decode cX4_image 23 = .ok (.ireturn, 1) := by decide +kernel
theorem dX4_back_0 : decode cX4_back 0 = .ok (.aload_n 0, 1) := by decide +kernel
theorem dX4_back_1 : decode cX4_back 1 = .ok (.getfield 235, 3) := by decide +kernel
theorem dX4_back_4 : decode cX4_back 4 = .ok (.ifCond .ne 6, 3) := by decide +kernel
theorem dX4_back_7 : decode cX4_back 7 = .ok (.bipush (-3), 2) := by decide +kernel
theorem dX4_back_9 : decode cX4_back 9 = .ok (.ireturn, 1) := by decide +kernel
theorem dX4_back_10 : decode cX4_back 10 = .ok (.aload_n 0, 1) := by decide +kernel
theorem dX4_back_11 : decode cX4_back 11 = .ok (.getfield 39, 3) := by decide +kernel
theorem dX4_back_14 : decode cX4_back 14 = .ok (.aload_n 0, 1) := by decide +kernel
theorem dX4_back_15 : decode cX4_back 15 = .ok (.getfield 46, 3) := by decide +kernel
theorem dX4_back_18 : decode cX4_back 18 = .ok (.invokevirtual 116, 3) := by decide +kernel
theorem dX4_back_21 : decode cX4_back 21 = .ok (.aload_n 0, 1) := by decide +kernel
theorem dX4_back_22 : decode cX4_back 22 = .ok (.getfield 39, 3) := by decide +kernel
theorem dX4_back_25 : decode cX4_back 25 = .ok (.getfield 127, 3) := by decide +kernel
theorem dX4_back_28 : decode cX4_back 28 = .ok (.ireturn, 1) := by decide +kernel
theorem dX4_count_0 : decode cX4_count 0 = .ok (.iload_n 1, 1) := by decide +kernel
theorem dX4_count_1 : decode cX4_count 1 = .ok (.tableswitch 87 0 5 #[39, 47, 58, 66, 71, 79], 39) := by decide +kernel
theorem dX4_count_40 : decode cX4_count 40 = .ok (.aload_n 0, 1) := by decide +kernel
theorem dX4_count_41 : decode cX4_count 41 = .ok (.getfield 39, 3) := by decide +kernel
theorem dX4_count_44 : decode cX4_count 44 = .ok (.getfield 127, 3) := by decide +kernel
theorem dX4_count_47 : decode cX4_count 47 = .ok (.ireturn, 1) := by decide +kernel
theorem dX4_count_48 : decode cX4_count 48 = .ok (.aload_n 0, 1) := by decide +kernel
theorem dX4_count_49 : decode cX4_count 49 = .ok (.getfield 39, 3) := by decide +kernel
theorem dX4_count_52 : decode cX4_count 52 = .ok (.getfield 94, 3) := by decide +kernel
theorem dX4_count_55 : decode cX4_count 55 = .ok (.invokestatic 141, 3) := by decide +kernel
theorem dX4_count_58 : decode cX4_count 58 = .ok (.ireturn, 1) := by decide +kernel
theorem dX4_count_59 : decode cX4_count 59 = .ok (.aload_n 0, 1) := by decide +kernel
theorem dX4_count_60 : decode cX4_count 60 = .ok (.getfield 39, 3) := by decide +kernel
theorem dX4_count_63 : decode cX4_count 63 = .ok (.getfield 91, 3) := by decide +kernel
theorem dX4_count_66 : decode cX4_count 66 = .ok (.ireturn, 1) := by decide +kernel
theorem dX4_count_67 : decode cX4_count 67 = .ok (.aload_n 0, 1) := by decide +kernel
theorem dX4_count_68 : decode cX4_count 68 = .ok (.getfield 73, 3) := by decide +kernel
theorem dX4_count_71 : decode cX4_count 71 = .ok (.ireturn, 1) := by decide +kernel
theorem dX4_count_72 : decode cX4_count 72 = .ok (.aload_n 0, 1) := by decide +kernel
theorem dX4_count_73 : decode cX4_count 73 = .ok (.getfield 24, 3) := by decide +kernel
theorem dX4_count_76 : decode cX4_count 76 = .ok (.getfield 69, 3) := by decide +kernel
theorem dX4_count_79 : decode cX4_count 79 = .ok (.ireturn, 1) := by decide +kernel
theorem dX4_count_80 : decode cX4_count 80 = .ok (.aload_n 0, 1) := by decide +kernel
theorem dX4_count_81 : decode cX4_count 81 = .ok (.getfield 39, 3) := by decide +kernel
theorem dX4_count_84 : decode cX4_count 84 = .ok (.getfield 128, 3) := by decide +kernel
theorem dX4_count_87 : decode cX4_count 87 = .ok (.ireturn, 1) := by decide +kernel
theorem dX4_count_88 : decode cX4_count 88 = .ok (.bipush (-2), 2) := by decide +kernel
theorem dX4_count_90 : decode cX4_count 90 = .ok (.ireturn, 1) := by decide +kernel
theorem dX4_sheet_0 : decode cX4_sheet 0 = .ok (.iload_n 1, 1) := by decide +kernel
theorem dX4_sheet_1 : decode cX4_sheet 1 = .ok (.invokestatic 200, 3) := by decide +kernel
theorem dX4_sheet_4 : decode cX4_sheet 4 = .ok (.ifCond .eq 12, 3) := by decide +kernel
theorem dX4_sheet_7 : decode cX4_sheet 7 = .ok (.iload_n 2, 1) := by decide +kernel
theorem dX4_sheet_8 : decode cX4_sheet 8 = .ok (.iconst (-1), 1) := by decide +kernel
theorem dX4_sheet_9 : decode cX4_sheet 9 = .ok (.iconst 2, 1) := by decide +kernel
theorem dX4_sheet_10 : decode cX4_sheet 10 = .ok (.invokestatic 76, 3) := by decide +kernel
theorem dX4_sheet_13 : decode cX4_sheet 13 = .ok (.ifCond .ne 6, 3) := by decide +kernel
theorem dX4_sheet_16 : decode cX4_sheet 16 = .ok (.bipush (-2), 2) := by decide +kernel
theorem dX4_sheet_18 : decode cX4_sheet 18 = .ok (.ireturn, 1) := by decide +kernel
theorem dX4_sheet_19 : decode cX4_sheet 19 = .ok (.iload_n 2, 1) := by decide +kernel
theorem dX4_sheet_20 : decode cX4_sheet 20 = .ok (.iconst (-1), 1) := by decide +kernel
theorem dX4_sheet_21 : decode cX4_sheet 21 = .ok (.if_icmp .ne 16, 3) := by decide +kernel
theorem dX4_sheet_24 : decode cX4_sheet 24 = .ok (.aload_n 0, 1) := by decide +kernel
theorem dX4_sheet_25 : decode cX4_sheet 25 = .ok (.getfield 17, 3) := by decide +kernel
theorem dX4_sheet_28 : decode cX4_sheet 28 = .ok (.iload_n 1, 1) := by decide +kernel
theorem dX4_sheet_29 : decode cX4_sheet 29 = .ok (.aaload, 1) := by decide +kernel
theorem dX4_sheet_30 : decode cX4_sheet 30 = .ok (.iconst (-1), 1) := by decide +kernel
theorem dX4_sheet_31 : decode cX4_sheet 31 = .ok (.iconst 0, 1) := by decide +kernel
theorem dX4_sheet_32 : decode cX4_sheet 32 = .ok (.invokevirtual 219, 3) := by decide +kernel
theorem dX4_sheet_35 : decode cX4_sheet 35 = .ok (.iconst 1, 1) := by decide +kernel
theorem dX4_sheet_36 : decode cX4_sheet 36 = .ok (.ireturn, 1) := by decide +kernel
theorem dX4_sheet_37 : decode cX4_sheet 37 = .ok (.iload_n 3, 1) := by decide +kernel
theorem dX4_sheet_38 : decode cX4_sheet 38 = .ok (.bipush 40, 2) := by decide +kernel
theorem dX4_sheet_40 : decode cX4_sheet 40 = .ok (.if_icmp .le 6, 3) := by decide +kernel
theorem dX4_sheet_43 : decode cX4_sheet 43 = .ok (.bipush (-2), 2) := by decide +kernel
theorem dX4_sheet_45 : decode cX4_sheet 45 = .ok (.ireturn, 1) := by decide +kernel
theorem dX4_sheet_46 : decode cX4_sheet 46 = .ok (.iload_n 3, 1) := by decide +kernel
theorem dX4_sheet_47 : decode cX4_sheet 47 = .ok (.ifCond .ge 6, 3) := by decide +kernel
theorem dX4_sheet_50 : decode cX4_sheet 50 = .ok (.bipush (-14), 2) := by decide +kernel
theorem dX4_sheet_52 : decode cX4_sheet 52 = .ok (.ireturn, 1) := by decide +kernel
theorem dX4_sheet_53 : decode cX4_sheet 53 = .ok (.aload_n 0, 1) := by decide +kernel
theorem dX4_sheet_54 : decode cX4_sheet 54 = .ok (.getfield 17, 3) := by decide +kernel
theorem dX4_sheet_57 : decode cX4_sheet 57 = .ok (.iload_n 1, 1) := by decide +kernel
theorem dX4_sheet_58 : decode cX4_sheet 58 = .ok (.aaload, 1) := by decide +kernel
theorem dX4_sheet_59 : decode cX4_sheet 59 = .ok (.iload_n 2, 1) := by decide +kernel
theorem dX4_sheet_60 : decode cX4_sheet 60 = .ok (.iload_n 3, 1) := by decide +kernel
theorem dX4_sheet_61 : decode cX4_sheet 61 = .ok (.invokevirtual 219, 3) := by decide +kernel
theorem dX4_sheet_64 : decode cX4_sheet 64 = .ok (.iconst 1, 1) := by decide +kernel
theorem dX4_sheet_65 : decode cX4_sheet 65 = .ok (.ireturn, 1) := by decide +kernel
theorem dX4_cell_0 : decode cX4_cell 0 = .ok (.iload_n 1, 1) := by decide +kernel
theorem dX4_cell_1 : decode cX4_cell 1 = .ok (.invokestatic 200, 3) := by decide +kernel
theorem dX4_cell_4 : decode cX4_cell 4 = .ok (.ifCond .ne 6, 3) := by decide +kernel
theorem dX4_cell_7 : decode cX4_cell 7 = .ok (.bipush (-2), 2) := by decide +kernel
theorem dX4_cell_9 : decode cX4_cell 9 = .ok (.ireturn, 1) := by decide +kernel
theorem dX4_cell_10 : decode cX4_cell 10 = .ok (.aload_n 0, 1) := by decide +kernel
theorem dX4_cell_11 : decode cX4_cell 11 = .ok (.getfield 17, 3) := by decide +kernel
theorem dX4_cell_14 : decode cX4_cell 14 = .ok (.iload_n 1, 1) := by decide +kernel
theorem dX4_cell_15 : decode cX4_cell 15 = .ok (.aaload, 1) := by decide +kernel
theorem dX4_cell_16 : decode cX4_cell 16 = .ok (.astore 4, 2) := by decide +kernel
theorem dX4_cell_18 : decode cX4_cell 18 = .ok (.aload 4, 2) := by decide +kernel
theorem dX4_cell_20 : decode cX4_cell 20 = .ok (.invokevirtual 203, 3) := by decide +kernel
theorem dX4_cell_23 : decode cX4_cell 23 = .ok (.ifCond .eq 6, 3) := by decide +kernel
theorem dX4_cell_26 : decode cX4_cell 26 = .ok (.bipush (-11), 2) := by decide +kernel
theorem dX4_cell_28 : decode cX4_cell 28 = .ok (.ireturn, 1) := by decide +kernel
theorem dX4_cell_29 : decode cX4_cell 29 = .ok (.aload 4, 2) := by decide +kernel
theorem dX4_cell_31 : decode cX4_cell 31 = .ok (.iload_n 2, 1) := by decide +kernel
theorem dX4_cell_32 : decode cX4_cell 32 = .ok (.invokevirtual 239, 3) := by decide +kernel
theorem dX4_cell_35 : decode cX4_cell 35 = .ok (.ifCond .ne 6, 3) := by decide +kernel
theorem dX4_cell_38 : decode cX4_cell 38 = .ok (.bipush (-12), 2) := by decide +kernel
theorem dX4_cell_40 : decode cX4_cell 40 = .ok (.ireturn, 1) := by decide +kernel
theorem dX4_cell_41 : decode cX4_cell 41 = .ok (.aload 4, 2) := by decide +kernel
theorem dX4_cell_43 : decode cX4_cell 43 = .ok (.iload_n 2, 1) := by decide +kernel
theorem dX4_cell_44 : decode cX4_cell 44 = .ok (.iload_n 3, 1) := by decide +kernel
theorem dX4_cell_45 : decode cX4_cell 45 = .ok (.invokevirtual 223, 3) := by decide +kernel
theorem dX4_cell_48 : decode cX4_cell 48 = .ok (.iconst 1, 1) := by decide +kernel
theorem dX4_cell_49 : decode cX4_cell 49 = .ok (.ireturn, 1) := by decide +kernel
theorem dX4_copy_0 : decode cX4_copy 0 = .ok (.iload_n 1, 1) := by decide +kernel
theorem dX4_copy_1 : decode cX4_copy 1 = .ok (.invokestatic 200, 3) := by decide +kernel
theorem dX4_copy_4 : decode cX4_copy 4 = .ok (.ifCond .eq 10, 3) := by decide +kernel
theorem dX4_copy_7 : decode cX4_copy 7 = .ok (.iload_n 3, 1) := by decide +kernel
theorem dX4_copy_8 : decode cX4_copy 8 = .ok (.invokestatic 200, 3) := by decide +kernel
theorem dX4_copy_11 : decode cX4_copy 11 = .ok (.ifCond .ne 6, 3) := by decide +kernel
theorem dX4_copy_14 : decode cX4_copy 14 = .ok (.bipush (-2), 2) := by decide +kernel
theorem dX4_copy_16 : decode cX4_copy 16 = .ok (.ireturn, 1) := by decide +kernel
theorem dX4_copy_17 : decode cX4_copy 17 = .ok (.aload_n 0, 1) := by decide +kernel
theorem dX4_copy_18 : decode cX4_copy 18 = .ok (.getfield 17, 3) := by decide +kernel
theorem dX4_copy_21 : decode cX4_copy 21 = .ok (.iload_n 1, 1) := by decide +kernel
theorem dX4_copy_22 : decode cX4_copy 22 = .ok (.aaload, 1) := by decide +kernel
theorem dX4_copy_23 : decode cX4_copy 23 = .ok (.astore 6, 2) := by decide +kernel
theorem dX4_copy_25 : decode cX4_copy 25 = .ok (.aload_n 0, 1) := by decide +kernel
theorem dX4_copy_26 : decode cX4_copy 26 = .ok (.getfield 17, 3) := by decide +kernel
theorem dX4_copy_29 : decode cX4_copy 29 = .ok (.iload_n 3, 1) := by decide +kernel
theorem dX4_copy_30 : decode cX4_copy 30 = .ok (.aaload, 1) := by decide +kernel
theorem dX4_copy_31 : decode cX4_copy 31 = .ok (.astore 7, 2) := by decide +kernel
theorem dX4_copy_33 : decode cX4_copy 33 = .ok (.aload 6, 2) := by decide +kernel
theorem dX4_copy_35 : decode cX4_copy 35 = .ok (.invokevirtual 203, 3) := by decide +kernel
theorem dX4_copy_38 : decode cX4_copy 38 = .ok (.ifCond .ne 11, 3) := by decide +kernel
theorem dX4_copy_41 : decode cX4_copy 41 = .ok (.aload 7, 2) := by decide +kernel
theorem dX4_copy_43 : decode cX4_copy 43 = .ok (.invokevirtual 203, 3) := by decide +kernel
theorem dX4_copy_46 : decode cX4_copy 46 = .ok (.ifCond .eq 6, 3) := by decide +kernel
theorem dX4_copy_49 : decode cX4_copy 49 = .ok (.bipush (-11), 2) := by decide +kernel
theorem dX4_copy_51 : decode cX4_copy 51 = .ok (.ireturn, 1) := by decide +kernel
theorem dX4_copy_52 : decode cX4_copy 52 = .ok (.aload 6, 2) := by decide +kernel
theorem dX4_copy_54 : decode cX4_copy 54 = .ok (.getfield 242, 3) := by decide +kernel
theorem dX4_copy_57 : decode cX4_copy 57 = .ok (.aload 7, 2) := by decide +kernel
theorem dX4_copy_59 : decode cX4_copy 59 = .ok (.getfield 242, 3) := by decide +kernel
theorem dX4_copy_62 : decode cX4_copy 62 = .ok (.if_icmp .eq 6, 3) := by decide +kernel
theorem dX4_copy_65 : decode cX4_copy 65 = .ok (.bipush (-13), 2) := by decide +kernel
theorem dX4_copy_67 : decode cX4_copy 67 = .ok (.ireturn, 1) := by decide +kernel
theorem dX4_copy_68 : decode cX4_copy 68 = .ok (.aload 6, 2) := by decide +kernel
theorem dX4_copy_70 : decode cX4_copy 70 = .ok (.iload_n 2, 1) := by decide +kernel
theorem dX4_copy_71 : decode cX4_copy 71 = .ok (.iload 5, 2) := by decide +kernel
theorem dX4_copy_73 : decode cX4_copy 73 = .ok (.invokevirtual 245, 3) := by decide +kernel
theorem dX4_copy_76 : decode cX4_copy 76 = .ok (.ifCond .eq 15, 3) := by decide +kernel
theorem dX4_copy_79 : decode cX4_copy 79 = .ok (.aload 7, 2) := by decide +kernel
theorem dX4_copy_81 : decode cX4_copy 81 = .ok (.iload 4, 2) := by decide +kernel
theorem dX4_copy_83 : decode cX4_copy 83 = .ok (.iload 5, 2) := by decide +kernel
theorem dX4_copy_85 : decode cX4_copy 85 = .ok (.invokevirtual 245, 3) := by decide +kernel
theorem dX4_copy_88 : decode cX4_copy 88 = .ok (.ifCond .ne 6, 3) := by decide +kernel
theorem dX4_copy_91 : decode cX4_copy 91 = .ok (.bipush (-12), 2) := by decide +kernel
theorem dX4_copy_93 : decode cX4_copy 93 = .ok (.ireturn, 1) := by decide +kernel
theorem dX4_copy_94 : decode cX4_copy 94 = .ok (.aload 6, 2) := by decide +kernel
theorem dX4_copy_96 : decode cX4_copy 96 = .ok (.getfield 248, 3) := by decide +kernel
theorem dX4_copy_99 : decode cX4_copy 99 = .ok (.iload_n 2, 1) := by decide +kernel
theorem dX4_copy_100 : decode cX4_copy 100 = .ok (.aload 7, 2) := by decide +kernel
theorem dX4_copy_102 : decode cX4_copy 102 = .ok (.getfield 248, 3) := by decide +kernel
theorem dX4_copy_105 : decode cX4_copy 105 = .ok (.iload 4, 2) := by decide +kernel
theorem dX4_copy_107 : decode cX4_copy 107 = .ok (.iload 5, 2) := by decide +kernel
theorem dX4_copy_109 : decode cX4_copy 109 = .ok (.invokestatic 251, 3) := by decide +kernel
theorem dX4_copy_112 : decode cX4_copy 112 = .ok (.iload 5, 2) := by decide +kernel
theorem dX4_copy_114 : decode cX4_copy 114 = .ok (.ireturn, 1) := by decide +kernel
theorem dX4_people_0 : decode cX4_people 0 = .ok (.iload_n 1, 1) := by decide +kernel
theorem dX4_people_1 : decode cX4_people 1 = .ok (.invokestatic 200, 3) := by decide +kernel
theorem dX4_people_4 : decode cX4_people 4 = .ok (.ifCond .eq 22, 3) := by decide +kernel
theorem dX4_people_7 : decode cX4_people 7 = .ok (.iload_n 2, 1) := by decide +kernel
theorem dX4_people_8 : decode cX4_people 8 = .ok (.iconst 0, 1) := by decide +kernel
theorem dX4_people_9 : decode cX4_people 9 = .ok (.iconst 2, 1) := by decide +kernel
theorem dX4_people_10 : decode cX4_people 10 = .ok (.invokestatic 76, 3) := by decide +kernel
theorem dX4_people_13 : decode cX4_people 13 = .ok (.ifCond .eq 13, 3) := by decide +kernel
theorem dX4_people_16 : decode cX4_people 16 = .ok (.iload 4, 2) := by decide +kernel
theorem dX4_people_18 : decode cX4_people 18 = .ok (.iconst 0, 1) := by decide +kernel
theorem dX4_people_19 : decode cX4_people 19 = .ok (.iconst 5, 1) := by decide +kernel
theorem dX4_people_20 : decode cX4_people 20 = .ok (.invokestatic 76, 3) := by decide +kernel
theorem dX4_people_23 : decode cX4_people 23 = .ok (.ifCond .ne 6, 3) := by decide +kernel
theorem dX4_people_26 : decode cX4_people 26 = .ok (.bipush (-2), 2) := by decide +kernel
theorem dX4_people_28 : decode cX4_people 28 = .ok (.ireturn, 1) := by decide +kernel
theorem dX4_people_29 : decode cX4_people 29 = .ok (.aload_n 0, 1) := by decide +kernel
theorem dX4_people_30 : decode cX4_people 30 = .ok (.getfield 17, 3) := by decide +kernel
theorem dX4_people_33 : decode cX4_people 33 = .ok (.iload_n 1, 1) := by decide +kernel
theorem dX4_people_34 : decode cX4_people 34 = .ok (.aaload, 1) := by decide +kernel
theorem dX4_people_35 : decode cX4_people 35 = .ok (.astore 5, 2) := by decide +kernel
theorem dX4_people_37 : decode cX4_people 37 = .ok (.aload 5, 2) := by decide +kernel
theorem dX4_people_39 : decode cX4_people 39 = .ok (.invokevirtual 203, 3) := by decide +kernel
theorem dX4_people_42 : decode cX4_people 42 = .ok (.ifCond .eq 6, 3) := by decide +kernel
theorem dX4_people_45 : decode cX4_people 45 = .ok (.bipush (-11), 2) := by decide +kernel
theorem dX4_people_47 : decode cX4_people 47 = .ok (.ireturn, 1) := by decide +kernel
theorem dX4_people_48 : decode cX4_people 48 = .ok (.aload 5, 2) := by decide +kernel
theorem dX4_people_50 : decode cX4_people 50 = .ok (.getfield 242, 3) := by decide +kernel
theorem dX4_people_53 : decode cX4_people 53 = .ok (.iload_n 2, 1) := by decide +kernel
theorem dX4_people_54 : decode cX4_people 54 = .ok (.if_icmp .eq 6, 3) := by decide +kernel
theorem dX4_people_57 : decode cX4_people 57 = .ok (.bipush (-13), 2) := by decide +kernel
theorem dX4_people_59 : decode cX4_people 59 = .ok (.ireturn, 1) := by decide +kernel
theorem dX4_people_60 : decode cX4_people 60 = .ok (.iconst 0, 1) := by decide +kernel
theorem dX4_people_61 : decode cX4_people 61 = .ok (.istore 6, 2) := by decide +kernel
theorem dX4_people_63 : decode cX4_people 63 = .ok (.iconst 0, 1) := by decide +kernel
theorem dX4_people_64 : decode cX4_people 64 = .ok (.istore 7, 2) := by decide +kernel
theorem dX4_people_66 : decode cX4_people 66 = .ok (.iload 7, 2) := by decide +kernel
theorem dX4_people_68 : decode cX4_people 68 = .ok (.iload 4, 2) := by decide +kernel
theorem dX4_people_70 : decode cX4_people 70 = .ok (.if_icmp .ge 59, 3) := by decide +kernel
theorem dX4_people_73 : decode cX4_people 73 = .ok (.iload_n 3, 1) := by decide +kernel
theorem dX4_people_74 : decode cX4_people 74 = .ok (.iconst 2, 1) := by decide +kernel
theorem dX4_people_75 : decode cX4_people 75 = .ok (.iload 7, 2) := by decide +kernel
theorem dX4_people_77 : decode cX4_people 77 = .ok (.imul, 1) := by decide +kernel
theorem dX4_people_78 : decode cX4_people 78 = .ok (.iadd, 1) := by decide +kernel
theorem dX4_people_79 : decode cX4_people 79 = .ok (.istore 8, 2) := by decide +kernel
theorem dX4_people_81 : decode cX4_people 81 = .ok (.aload 5, 2) := by decide +kernel
theorem dX4_people_83 : decode cX4_people 83 = .ok (.iload 8, 2) := by decide +kernel
theorem dX4_people_85 : decode cX4_people 85 = .ok (.iconst 2, 1) := by decide +kernel
theorem dX4_people_86 : decode cX4_people 86 = .ok (.invokevirtual 245, 3) := by decide +kernel
theorem dX4_people_89 : decode cX4_people 89 = .ok (.ifCond .ne 6, 3) := by decide +kernel
theorem dX4_people_92 : decode cX4_people 92 = .ok (.bipush (-12), 2) := by decide +kernel
theorem dX4_people_94 : decode cX4_people 94 = .ok (.ireturn, 1) := by decide +kernel
theorem dX4_people_95 : decode cX4_people 95 = .ok (.aload_n 0, 1) := by decide +kernel
theorem dX4_people_96 : decode cX4_people 96 = .ok (.aload 5, 2) := by decide +kernel
theorem dX4_people_98 : decode cX4_people 98 = .ok (.getfield 248, 3) := by decide +kernel
theorem dX4_people_101 : decode cX4_people 101 = .ok (.iload 8, 2) := by decide +kernel
theorem dX4_people_103 : decode cX4_people 103 = .ok (.iaload, 1) := by decide +kernel
theorem dX4_people_104 : decode cX4_people 104 = .ok (.aload 5, 2) := by decide +kernel
theorem dX4_people_106 : decode cX4_people 106 = .ok (.getfield 248, 3) := by decide +kernel
theorem dX4_people_109 : decode cX4_people 109 = .ok (.iload 8, 2) := by decide +kernel
theorem dX4_people_111 : decode cX4_people 111 = .ok (.iconst 1, 1) := by decide +kernel
theorem dX4_people_112 : decode cX4_people 112 = .ok (.iadd, 1) := by decide +kernel
theorem dX4_people_113 : decode cX4_people 113 = .ok (.iaload, 1) := by decide +kernel
theorem dX4_people_114 : decode cX4_people 114 = .ok (.invokevirtual 257, 3) := by decide +kernel
theorem dX4_people_117 : decode cX4_people 117 = .ok (.ifCond .lt 6, 3) := by decide +kernel
theorem dX4_people_120 : decode cX4_people 120 = .ok (.iinc 6 1, 3) := by decide +kernel
theorem dX4_people_123 : decode cX4_people 123 = .ok (.iinc 7 1, 3) := by decide +kernel
theorem dX4_people_126 : decode cX4_people 126 = .ok (.goto (-60), 3) := by decide +kernel
theorem dX4_people_129 : decode cX4_people 129 = .ok (.iload 6, 2) := by decide +kernel
theorem dX4_people_131 : decode cX4_people 131 = .ok (.ireturn, 1) := by decide +kernel
theorem dX4_taken_0 : decode cX4_taken 0 = .ok (.iload_n 2, 1) := by decide +kernel
theorem dX4_taken_1 : decode cX4_taken 1 = .ok (.iconst 0, 1) := by decide +kernel
theorem dX4_taken_2 : decode cX4_taken 2 = .ok (.iconst 5, 1) := by decide +kernel
theorem dX4_taken_3 : decode cX4_taken 3 = .ok (.invokestatic 76, 3) := by decide +kernel
theorem dX4_taken_6 : decode cX4_taken 6 = .ok (.ifCond .ne 6, 3) := by decide +kernel
theorem dX4_taken_9 : decode cX4_taken 9 = .ok (.bipush (-2), 2) := by decide +kernel
theorem dX4_taken_11 : decode cX4_taken 11 = .ok (.ireturn, 1) := by decide +kernel
theorem dX4_taken_12 : decode cX4_taken 12 = .ok (.aload_n 0, 1) := by decide +kernel
theorem dX4_taken_13 : decode cX4_taken 13 = .ok (.iload_n 1, 1) := by decide +kernel
theorem dX4_taken_14 : decode cX4_taken 14 = .ok (.invokevirtual 124, 3) := by decide +kernel
theorem dX4_taken_17 : decode cX4_taken 17 = .ok (.ifCond .ne 6, 3) := by decide +kernel
theorem dX4_taken_20 : decode cX4_taken 20 = .ok (.bipush (-11), 2) := by decide +kernel
theorem dX4_taken_22 : decode cX4_taken 22 = .ok (.ireturn, 1) := by decide +kernel
theorem dX4_taken_23 : decode cX4_taken 23 = .ok (.aload_n 0, 1) := by decide +kernel
theorem dX4_taken_24 : decode cX4_taken 24 = .ok (.getfield 39, 3) := by decide +kernel
theorem dX4_taken_27 : decode cX4_taken 27 = .ok (.getfield 106, 3) := by decide +kernel
theorem dX4_taken_30 : decode cX4_taken 30 = .ok (.iload_n 1, 1) := by decide +kernel
theorem dX4_taken_31 : decode cX4_taken 31 = .ok (.iaload, 1) := by decide +kernel
theorem dX4_taken_32 : decode cX4_taken 32 = .ok (.istore_n 3, 1) := by decide +kernel
theorem dX4_taken_33 : decode cX4_taken 33 = .ok (.iconst 0, 1) := by decide +kernel
theorem dX4_taken_34 : decode cX4_taken 34 = .ok (.istore 4, 2) := by decide +kernel
theorem dX4_taken_36 : decode cX4_taken 36 = .ok (.iload 4, 2) := by decide +kernel
theorem dX4_taken_38 : decode cX4_taken 38 = .ok (.bipush 6, 2) := by decide +kernel
theorem dX4_taken_40 : decode cX4_taken 40 = .ok (.if_icmp .ge 39, 3) := by decide +kernel
theorem dX4_taken_43 : decode cX4_taken 43 = .ok (.iload_n 3, 1) := by decide +kernel
theorem dX4_taken_44 : decode cX4_taken 44 = .ok (.iconst 0, 1) := by decide +kernel
theorem dX4_taken_45 : decode cX4_taken 45 = .ok (.iconst 5, 1) := by decide +kernel
theorem dX4_taken_46 : decode cX4_taken 46 = .ok (.invokestatic 76, 3) := by decide +kernel
theorem dX4_taken_49 : decode cX4_taken 49 = .ok (.ifCond .eq 30, 3) := by decide +kernel
theorem dX4_taken_52 : decode cX4_taken 52 = .ok (.iload_n 3, 1) := by decide +kernel
theorem dX4_taken_53 : decode cX4_taken 53 = .ok (.iload_n 2, 1) := by decide +kernel
theorem dX4_taken_54 : decode cX4_taken 54 = .ok (.if_icmp .ne 13, 3) := by decide +kernel
theorem dX4_taken_57 : decode cX4_taken 57 = .ok (.aload_n 0, 1) := by decide +kernel
theorem dX4_taken_58 : decode cX4_taken 58 = .ok (.getfield 39, 3) := by decide +kernel
theorem dX4_taken_61 : decode cX4_taken 61 = .ok (.getfield 97, 3) := by decide +kernel
theorem dX4_taken_64 : decode cX4_taken 64 = .ok (.iload_n 1, 1) := by decide +kernel
theorem dX4_taken_65 : decode cX4_taken 65 = .ok (.iaload, 1) := by decide +kernel
theorem dX4_taken_66 : decode cX4_taken 66 = .ok (.ireturn, 1) := by decide +kernel
theorem dX4_taken_67 : decode cX4_taken 67 = .ok (.getstatic 260, 3) := by decide +kernel
theorem dX4_taken_70 : decode cX4_taken 70 = .ok (.iload_n 3, 1) := by decide +kernel
theorem dX4_taken_71 : decode cX4_taken 71 = .ok (.iaload, 1) := by decide +kernel
theorem dX4_taken_72 : decode cX4_taken 72 = .ok (.istore_n 3, 1) := by decide +kernel
theorem dX4_taken_73 : decode cX4_taken 73 = .ok (.iinc 4 1, 3) := by decide +kernel
theorem dX4_taken_76 : decode cX4_taken 76 = .ok (.goto (-40), 3) := by decide +kernel
theorem dX4_taken_79 : decode cX4_taken 79 = .ok (.bipush (-13), 2) := by decide +kernel
theorem dX4_taken_81 : decode cX4_taken 81 = .ok (.ireturn, 1) := by decide +kernel
theorem dX4_isSheet_0 : decode cX4_isSheet 0 = .ok (.iload_n 0, 1) := by decide +kernel
theorem dX4_isSheet_1 : decode cX4_isSheet 1 = .ok (.iconst 0, 1) := by decide +kernel
theorem dX4_isSheet_2 : decode cX4_isSheet 2 = .ok (.iconst 3, 1) := by decide +kernel
theorem dX4_isSheet_3 : decode cX4_isSheet 3 = .ok (.invokestatic 76, 3) := by decide +kernel
theorem dX4_isSheet_6 : decode cX4_isSheet 6 = .ok (.ireturn, 1) := by decide +kernel
end
section
/-! decode rows (printed by program) -/
theorem dX5_init_0 : decode cX5_init 0 = .ok (.aload_n 0, 1) := by decide +kernel
theorem dX5_init_1 : decode cX5_init 1 = .ok (.invokespecial 1, 3) := by decide +kernel
theorem dX5_init_4 : decode cX5_init 4 = .ok (.aload_n 0, 1) := by decide +kernel
theorem dX5_init_5 : decode cX5_init 5 = .ok (.bipush 8, 2) := by decide +kernel
theorem dX5_init_7 : decode cX5_init 7 = .ok (.newarray .boolean, 2) := by decide +kernel
theorem dX5_init_9 : decode cX5_init 9 = .ok (.putfield 7, 3) := by decide +kernel
theorem dX5_init_12 : decode cX5_init 12 = .ok (.aload_n 0, 1) := by decide +kernel
theorem dX5_init_13 : decode cX5_init 13 = .ok (.iconst 5, 1) := by decide +kernel
theorem dX5_init_14 : decode cX5_init 14 = .ok (.newarray .int, 2) := by decide +kernel
theorem dX5_init_16 : decode cX5_init 16 = .ok (.putfield 13, 3) := by decide +kernel
theorem dX5_init_19 : decode cX5_init 19 = .ok (.aload_n 0, 1) := by decide +kernel
theorem dX5_init_20 : decode cX5_init 20 = .ok (.iconst 5, 1) := by decide +kernel
theorem dX5_init_21 : decode cX5_init 21 = .ok (.newarray .int, 2) := by decide +kernel
theorem dX5_init_23 : decode cX5_init 23 = .ok (.putfield 17, 3) := by decide +kernel
theorem dX5_init_26 : decode cX5_init 26 = .ok (.aload_n 0, 1) := by decide +kernel
theorem dX5_init_27 : decode cX5_init 27 = .ok (.iconst 5, 1) := by decide +kernel
theorem dX5_init_28 : decode cX5_init 28 = .ok (.newarray .int, 2) := by decide +kernel
theorem dX5_init_30 : decode cX5_init 30 = .ok (.putfield 20, 3) := by decide +kernel
theorem dX5_init_33 : decode cX5_init 33 = .ok (.aload_n 0, 1) := by decide +kernel
theorem dX5_init_34 : decode cX5_init 34 = .ok (.sipush 160, 3) := by decide +kernel
theorem dX5_init_37 : decode cX5_init 37 = .ok (.newarray .int, 2) := by decide +kernel
theorem dX5_init_39 : decode cX5_init 39 = .ok (.putfield 23, 3) := by decide +kernel
theorem dX5_init_42 : decode cX5_init 42 = .ok (.aload_n 0, 1) := by decide +kernel
theorem dX5_init_43 : decode cX5_init 43 = .ok (.bipush 18, 2) := by decide +kernel
theorem dX5_init_45 : decode cX5_init 45 = .ok (.newarray .int, 2) := by decide +kernel
theorem dX5_init_47 : decode cX5_init 47 = .ok (.putfield 26, 3) := by decide +kernel
theorem dX5_init_50 : decode cX5_init 50 = .ok (.aload_n 0, 1) := by decide +kernel
theorem dX5_init_51 : decode cX5_init 51 = .ok (.bipush 18, 2) := by decide +kernel
theorem dX5_init_53 : decode cX5_init 53 = .ok (.newarray .int, 2) := by decide +kernel
theorem dX5_init_55 : decode cX5_init 55 = .ok (.putfield 29, 3) := by decide +kernel
theorem dX5_init_58 : decode cX5_init 58 = .ok (.aload_n 0, 1) := by decide +kernel
theorem dX5_init_59 : decode cX5_init 59 = .ok (.sipush 3000, 3) := by decide +kernel
theorem dX5_init_62 : decode cX5_init 62 = .ok (.newarray .int, 2) := by decide +kernel
theorem dX5_init_64 : decode cX5_init 64 = .ok (.putfield 32, 3) := by decide +kernel
theorem dX5_init_67 : decode cX5_init 67 = .ok (.aload_n 0, 1) := by decide +kernel
theorem dX5_init_68 : decode cX5_init 68 = .ok (.sipush 200, 3) := by decide +kernel
theorem dX5_init_71 : decode cX5_init 71 = .ok (.newarray .int, 2) := by decide +kernel
theorem dX5_init_73 : decode cX5_init 73 = .ok (.putfield 35, 3) := by decide +kernel
theorem dX5_init_76 : decode cX5_init 76 = .ok (.aload_n 0, 1) := by decide +kernel
theorem dX5_init_77 : decode cX5_init 77 = .ok (.sipush 200, 3) := by decide +kernel
theorem dX5_init_80 : decode cX5_init 80 = .ok (.newarray .int, 2) := by decide +kernel
theorem dX5_init_82 : decode cX5_init 82 = .ok (.putfield 38, 3) := by decide +kernel
theorem dX5_init_85 : decode cX5_init 85 = .ok (.aload_n 0, 1) := by decide +kernel
theorem dX5_init_86 : decode cX5_init 86 = .ok (.bipush 6, 2) := by decide +kernel
theorem dX5_init_88 : decode cX5_init 88 = .ok (.newarray .int, 2) := by decide +kernel
theorem dX5_init_90 : decode cX5_init 90 = .ok (.putfield 41, 3) := by decide +kernel
theorem dX5_init_93 : decode cX5_init 93 = .ok (.aload_n 0, 1) := by decide +kernel
theorem dX5_init_94 : decode cX5_init 94 = .ok (.iconst 5, 1) := by decide +kernel
theorem dX5_init_95 : decode cX5_init 95 = .ok (.newarray .int, 2) := by decide +kernel
theorem dX5_init_97 : decode cX5_init 97 = .ok (.putfield 44, 3) := by decide +kernel
theorem dX5_init_100 : decode cX5_init 100 = .ok (.aload_n 0, 1) := by decide +kernel
theorem dX5_init_101 : decode cX5_init 101 = .ok (.iconst 5, 1) := by decide +kernel
theorem dX5_init_102 : decode cX5_init 102 = .ok (.newarray .int, 2) := by decide +kernel
theorem dX5_init_104 : decode cX5_init 104 = .ok (.putfield 47, 3) := by decide +kernel
theorem dX5_init_107 : decode cX5_init 107 = .ok (.aload_n 0, 1) := by decide +kernel
theorem dX5_init_108 : decode cX5_init 108 = .ok (.sipush 205, 3) := by decide +kernel
theorem dX5_init_111 : decode cX5_init 111 = .ok (.newarray .int, 2) := by decide +kernel
theorem dX5_init_113 : decode cX5_init 113 = .ok (.putfield 50, 3) := by decide +kernel
theorem dX5_init_116 : decode cX5_init 116 = .ok (.aload_n 0, 1) := by decide +kernel
theorem dX5_init_117 : decode cX5_init 117 = .ok (.bipush 8, 2) := by decide +kernel
theorem dX5_init_119 : decode cX5_init 119 = .ok (.newarray .boolean, 2) := by decide +kernel
theorem dX5_init_121 : decode cX5_init 121 = .ok (.putfield 53, 3) := by decide +kernel
theorem dX5_init_124 : decode cX5_init 124 = .ok (.aload_n 0, 1) := by decide +kernel
theorem dX5_init_125 : decode cX5_init 125 = .ok (.bipush 10, 2) := by decide +kernel
theorem dX5_init_127 : decode cX5_init 127 = .ok (.newarray .int, 2) := by decide +kernel
theorem dX5_init_129 : decode cX5_init 129 = .ok (.putfield 56, 3) := by decide +kernel
theorem dX5_init_132 : decode cX5_init 132 = .ok (.aload_n 0, 1) := by decide +kernel
theorem dX5_init_133 : decode cX5_init 133 = .ok (.iconst 4, 1) := by decide +kernel
theorem dX5_init_134 : decode cX5_init 134 = .ok (.newarray .int, 2) := by decide +kernel
theorem dX5_init_136 : decode cX5_init 136 = .ok (.putfield 59, 3) := by decide +kernel
theorem dX5_init_139 : decode cX5_init 139 = .ok (.aload_n 0, 1) := by decide +kernel
theorem dX5_init_140 : decode cX5_init 140 = .ok (.iconst 4, 1) := by decide +kernel
theorem dX5_init_141 : decode cX5_init 141 = .ok (.newarray .int, 2) := by decide +kernel
theorem dX5_init_143 : decode cX5_init 143 = .ok (.putfield 62, 3) := by decide +kernel
theorem dX5_init_146 : decode cX5_init 146 = .ok (.aload_n 0, 1) := by decide +kernel
theorem dX5_init_147 : decode cX5_init 147 = .ok (.sipush 160, 3) := by decide +kernel
theorem dX5_init_150 : decode cX5_init 150 = .ok (.newarray .int, 2) := by decide +kernel
theorem dX5_init_152 : decode cX5_init 152 = .ok (.putfield 65, 3) := by decide +kernel
theorem dX5_init_155 : decode cX5_init 155 = .ok (.iconst 0, 1) := by decide +kernel
theorem dX5_init_156 : decode cX5_init 156 = .ok (.istore_n 1, 1) := by decide +kernel
theorem dX5_init_157 : decode cX5_init 157 = .ok (.iload_n 1, 1) := by decide +kernel
theorem dX5_init_158 : decode cX5_init 158 = .ok (.bipush 8, 2) := by decide +kernel
theorem dX5_init_160 : decode cX5_init 160 = .ok (.if_icmp .ge 16, 3) := by decide +kernel
theorem dX5_init_163 : decode cX5_init 163 = .ok (.aload_n 0, 1) := by decide +kernel
theorem dX5_init_164 : decode cX5_init 164 = .ok (.getfield 7, 3) := by decide +kernel
theorem dX5_init_167 : decode cX5_init 167 = .ok (.iload_n 1, 1) := by decide +kernel
theorem dX5_init_168 : decode cX5_init 168 = .ok (.iconst 1, 1) := by decide +kernel
theorem dX5_init_169 : decode cX5_init 169 = .ok (.bastore, 1) := by decide +kernel
theorem dX5_init_170 : decode cX5_init 170 = .ok (.iinc 1 1, 3) := by decide +kernel
theorem dX5_init_173 : decode cX5_init 173 = .ok (.goto (-16), 3) := by decide +kernel
theorem dX5_init_176 : decode cX5_init 176 = .ok (.iconst 0, 1) := by decide +kernel
theorem dX5_init_177 : decode cX5_init 177 = .ok (.istore_n 1, 1) := by decide +kernel
theorem dX5_init_178 : decode cX5_init 178 = .ok (.iload_n 1, 1) := by decide +kernel
theorem dX5_init_179 : decode cX5_init 179 = .ok (.iconst 4, 1) := by decide +kernel
theorem dX5_init_180 : decode cX5_init 180 = .ok (.if_icmp .ge 16, 3) := by decide +kernel
theorem dX5_init_183 : decode cX5_init 183 = .ok (.aload_n 0, 1) := by decide +kernel
theorem dX5_init_184 : decode cX5_init 184 = .ok (.getfield 59, 3) := by decide +kernel
theorem dX5_init_187 : decode cX5_init 187 = .ok (.iload_n 1, 1) := by decide +kernel
theorem dX5_init_188 : decode cX5_init 188 = .ok (.iconst (-1), 1) := by decide +kernel
theorem dX5_init_189 : decode cX5_init 189 = .ok (.iastore, 1) := by decide +kernel
theorem dX5_init_190 : decode cX5_init 190 = .ok (.iinc 1 1, 3) := by decide +kernel
theorem dX5_init_193 : decode cX5_init 193 = .ok (.goto (-15), 3) := by decide +kernel
theorem dX5_init_196 : decode cX5_init 196 = .ok (.aload_n 0, 1) := by decide +kernel
theorem dX5_init_197 : decode cX5_init 197 = .ok (.iconst (-1), 1) := by decide +kernel
theorem dX5_init_198 : decode cX5_init 198 = .ok (.putfield 68, 3) := by decide +kernel
theorem dX5_init_201 : decode cX5_init 201 = .ok (.aload_n 0, 1) := by decide +kernel
theorem dX5_init_202 : decode cX5_init 202 = .ok (.iconst 0, 1) := by decide +kernel
theorem dX5_init_203 : decode cX5_init 203 = .ok (.invokevirtual 72, 3) := by decide +kernel
theorem dX5_init_206 : decode cX5_init 206 = .ok (.aload_n 0, 1) := by decide +kernel
theorem dX5_init_207 : decode cX5_init 207 = .ok (.bipush 18, 2) := by decide +kernel
theorem dX5_init_209 : decode cX5_init 209 = .ok (.invokevirtual 72, 3) := by decide +kernel
theorem dX5_init_212 : decode cX5_init 212 = .ok (.aload_n 0, 1) := by decide +kernel
theorem dX5_init_213 : decode cX5_init 213 = .ok (.iconst 1, 1) := by decide +kernel
theorem dX5_init_214 : decode cX5_init 214 = .ok (.invokevirtual 72, 3) := by decide +kernel
theorem dX5_init_217 : decode cX5_init 217 = .ok (.aload_n 0, 1) := by decide +kernel
theorem dX5_init_218 : decode cX5_init 218 = .ok (.bipush 6, 2) := by decide +kernel
theorem dX5_init_220 : decode cX5_init 220 = .ok (.invokevirtual 72, 3) := by decide +kernel
theorem dX5_init_223 : decode cX5_init 223 = .ok (.aload_n 0, 1) := by decide +kernel
theorem dX5_init_224 : decode cX5_init 224 = .ok (.bipush 9, 2) := by decide +kernel
theorem dX5_init_226 : decode cX5_init 226 = .ok (.invokevirtual 72, 3) := by decide +kernel
theorem dX5_init_229 : decode cX5_init 229 = .ok (.aload_n 0, 1) := by decide +kernel
theorem dX5_init_230 : decode cX5_init 230 = .ok (.iconst 0, 1) := by decide +kernel
theorem dX5_init_231 : decode cX5_init 231 = .ok (.invokevirtual 72, 3) := by decide +kernel
theorem dX5_init_234 : decode cX5_init 234 = .ok (.aload_n 0, 1) := by decide +kernel
theorem dX5_init_235 : decode cX5_init 235 = .ok (.bipush 18, 2) := by decide +kernel
theorem dX5_init_237 : decode cX5_init 237 = .ok (.invokevirtual 72, 3) := by decide +kernel
theorem dX5_init_240 : decode cX5_init 240 = .ok (.aload_n 0, 1) := by decide +kernel
theorem dX5_init_241 : decode cX5_init 241 = .ok (.bipush 7, 2) := by decide +kernel
theorem dX5_init_243 : decode cX5_init 243 = .ok (.invokevirtual 72, 3) := by decide +kernel
theorem dX5_init_246 : decode cX5_init 246 = .ok (.aload_n 0, 1) := by decide +kernel
theorem dX5_init_247 : decode cX5_init 247 = .ok (.bipush 16, 2) := by decide +kernel
theorem dX5_init_249 : decode cX5_init 249 = .ok (.invokevirtual 72, 3) := by decide +kernel
theorem dX5_init_252 : decode cX5_init 252 = .ok (.aload_n 0, 1) := by decide +kernel
theorem dX5_init_253 : decode cX5_init 253 = .ok (.getfield 29, 3) := by decide +kernel
theorem dX5_init_256 : decode cX5_init 256 = .ok (.iconst 0, 1) := by decide +kernel
theorem dX5_init_257 : decode cX5_init 257 = .ok (.iconst 5, 1) := by decide +kernel
theorem dX5_init_258 : decode cX5_init 258 = .ok (.iastore, 1) := by decide +kernel
theorem dX5_init_259 : decode cX5_init 259 = .ok (.aload_n 0, 1) := by decide +kernel
theorem dX5_init_260 : decode cX5_init 260 = .ok (.getfield 26, 3) := by decide +kernel
theorem dX5_init_263 : decode cX5_init 263 = .ok (.iconst 1, 1) := by decide +kernel
theorem dX5_init_264 : decode cX5_init 264 = .ok (.iconst 5, 1) := by decide +kernel
theorem dX5_init_265 : decode cX5_init 265 = .ok (.iastore, 1) := by decide +kernel
theorem dX5_init_266 : decode cX5_init 266 = .ok (.aload_n 0, 1) := by decide +kernel
theorem dX5_init_267 : decode cX5_init 267 = .ok (.getfield 29, 3) := by decide +kernel
theorem dX5_init_270 : decode cX5_init 270 = .ok (.iconst 1, 1) := by decide +kernel
theorem dX5_init_271 : decode cX5_init 271 = .ok (.iconst 3, 1) := by decide +kernel
theorem dX5_init_272 : decode cX5_init 272 = .ok (.iastore, 1) := by decide +kernel
theorem dX5_init_273 : decode cX5_init 273 = .ok (.aload_n 0, 1) := by decide +kernel
theorem dX5_init_274 : decode cX5_init 274 = .ok (.getfield 26, 3) := by decide +kernel
theorem dX5_init_277 : decode cX5_init 277 = .ok (.iconst 2, 1) := by decide +kernel
theorem dX5_init_278 : decode cX5_init 278 = .ok (.bipush 8, 2) := by decide +kernel
theorem dX5_init_280 : decode cX5_init 280 = .ok (.iastore, 1) := by decide +kernel
theorem dX5_init_281 : decode cX5_init 281 = .ok (.aload_n 0, 1) := by decide +kernel
theorem dX5_init_282 : decode cX5_init 282 = .ok (.getfield 29, 3) := by decide +kernel
theorem dX5_init_285 : decode cX5_init 285 = .ok (.iconst 2, 1) := by decide +kernel
theorem dX5_init_286 : decode cX5_init 286 = .ok (.iconst 1, 1) := by decide +kernel
theorem dX5_init_287 : decode cX5_init 287 = .ok (.iastore, 1) := by decide +kernel
theorem dX5_init_288 : decode cX5_init 288 = .ok (.aload_n 0, 1) := by decide +kernel
theorem dX5_init_289 : decode cX5_init 289 = .ok (.iconst 1, 1) := by decide +kernel
theorem dX5_init_290 : decode cX5_init 290 = .ok (.putfield 76, 3) := by decide +kernel
theorem dX5_init_293 : decode cX5_init 293 = .ok (.return_, 1) := by decide +kernel
theorem dX5_within_0 : decode cX5_within 0 = .ok (.iload_n 0, 1) := by decide +kernel
theorem dX5_within_1 : decode cX5_within 1 = .ok (.iload_n 1, 1) := by decide +kernel
theorem dX5_within_2 : decode cX5_within 2 = .ok (.if_icmp .lt 12, 3) := by decide +kernel
theorem dX5_within_5 : decode cX5_within 5 = .ok (.iload_n 0, 1) := by decide +kernel
theorem dX5_within_6 : decode cX5_within 6 = .ok (.iload_n 2, 1) := by decide +kernel
theorem dX5_within_7 : decode cX5_within 7 = .ok (.if_icmp .gt 7, 3) := by decide +kernel
theorem dX5_within_10 : decode cX5_within 10 = .ok (.iconst 1, 1) := by decide +kernel
theorem dX5_within_11 : decode cX5_within 11 = .ok (.goto 4, 3) := by decide +kernel
theorem dX5_within_14 : decode cX5_within 14 = .ok (.iconst 0, 1) := by decide +kernel
theorem dX5_within_15 : decode cX5_within 15 = .ok (.ireturn, 1) := by decide +kernel
theorem dX5_bound_0 : decode cX5_bound 0 = .ok (.iload_n 0, 1) := by decide +kernel
theorem dX5_bound_1 : decode cX5_bound 1 = .ok (.bipush (-20), 2) := by decide +kernel
theorem dX5_bound_3 : decode cX5_bound 3 = .ok (.if_icmp .ge 8, 3) := by decide +kernel
theorem dX5_bound_6 : decode cX5_bound 6 = .ok (.bipush (-20), 2) := by decide +kernel
theorem dX5_bound_8 : decode cX5_bound 8 = .ok (.goto 15, 3) := by decide +kernel
theorem dX5_bound_11 : decode cX5_bound 11 = .ok (.iload_n 0, 1) := by decide +kernel
theorem dX5_bound_12 : decode cX5_bound 12 = .ok (.bipush 20, 2) := by decide +kernel
theorem dX5_bound_14 : decode cX5_bound 14 = .ok (.if_icmp .le 8, 3) := by decide +kernel
theorem dX5_bound_17 : decode cX5_bound 17 = .ok (.bipush 20, 2) := by decide +kernel
theorem dX5_bound_19 : decode cX5_bound 19 = .ok (.goto 4, 3) := by decide +kernel
theorem dX5_bound_22 : decode cX5_bound 22 = .ok (.iload_n 0, 1) := by decide +kernel
theorem dX5_bound_23 : decode cX5_bound 23 = .ok (.ireturn, 1) := by decide +kernel
theorem dX5_isOne_0 : decode cX5_isOne 0 = .ok (.iload_n 1, 1) := by decide +kernel
theorem dX5_isOne_1 : decode cX5_isOne 1 = .ok (.iconst 0, 1) := by decide +kernel
theorem dX5_isOne_2 : decode cX5_isOne 2 = .ok (.aload_n 0, 1) := by decide +kernel
theorem dX5_isOne_3 : decode cX5_isOne 3 = .ok (.getfield 79, 3) := by decide +kernel
theorem dX5_isOne_6 : decode cX5_isOne 6 = .ok (.iconst 1, 1) := by decide +kernel
theorem dX5_isOne_7 : decode cX5_isOne 7 = .ok (.isub, 1) := by decide +kernel
theorem dX5_isOne_8 : decode cX5_isOne 8 = .ok (.invokestatic 82, 3) := by decide +kernel
theorem dX5_isOne_11 : decode cX5_isOne 11 = .ok (.ireturn, 1) := by decide +kernel
theorem dX5_areTwo_0 : decode cX5_areTwo 0 = .ok (.aload_n 0, 1) := by decide +kernel
theorem dX5_areTwo_1 : decode cX5_areTwo 1 = .ok (.iload_n 1, 1) := by decide +kernel
theorem dX5_areTwo_2 : decode cX5_areTwo 2 = .ok (.invokevirtual 86, 3) := by decide +kernel
theorem dX5_areTwo_5 : decode cX5_areTwo 5 = .ok (.ifCond .eq 20, 3) := by decide +kernel
theorem dX5_areTwo_8 : decode cX5_areTwo 8 = .ok (.aload_n 0, 1) := by decide +kernel
theorem dX5_areTwo_9 : decode cX5_areTwo 9 = .ok (.iload_n 2, 1) := by decide +kernel
theorem dX5_areTwo_10 : decode cX5_areTwo 10 = .ok (.invokevirtual 86, 3) := by decide +kernel
theorem dX5_areTwo_13 : decode cX5_areTwo 13 = .ok (.ifCond .eq 12, 3) := by decide +kernel
theorem dX5_areTwo_16 : decode cX5_areTwo 16 = .ok (.iload_n 1, 1) := by decide +kernel
theorem dX5_areTwo_17 : decode cX5_areTwo 17 = .ok (.iload_n 2, 1) := by decide +kernel
theorem dX5_areTwo_18 : decode cX5_areTwo 18 = .ok (.if_icmp .eq 7, 3) := by decide +kernel
theorem dX5_areTwo_21 : decode cX5_areTwo 21 = .ok (.iconst 1, 1) := by decide +kernel
theorem dX5_areTwo_22 : decode cX5_areTwo 22 = .ok (.goto 4, 3) := by decide +kernel
theorem dX5_areTwo_25 : decode cX5_areTwo 25 = .ok (.iconst 0, 1) := by decide +kernel
theorem dX5_areTwo_26 : decode cX5_areTwo 26 = .ok (.ireturn, 1) := by decide +kernel
theorem dX5_isLayer_0 : decode cX5_isLayer 0 = .ok (.iload_n 0, 1) := by decide +kernel
theorem dX5_isLayer_1 : decode cX5_isLayer 1 = .ok (.iconst 0, 1) := by decide +kernel
theorem dX5_isLayer_2 : decode cX5_isLayer 2 = .ok (.bipush 7, 2) := by decide +kernel
theorem dX5_isLayer_4 : decode cX5_isLayer 4 = .ok (.invokestatic 82, 3) := by decide +kernel
theorem dX5_isLayer_7 : decode cX5_isLayer 7 = .ok (.ireturn, 1) := by decide +kernel
theorem dX5_isSheet_0 : decode cX5_isSheet 0 = .ok (.iload_n 0, 1) := by decide +kernel
theorem dX5_isSheet_1 : decode cX5_isSheet 1 = .ok (.iconst 0, 1) := by decide +kernel
theorem dX5_isSheet_2 : decode cX5_isSheet 2 = .ok (.iconst 3, 1) := by decide +kernel
theorem dX5_isSheet_3 : decode cX5_isSheet 3 = .ok (.invokestatic 82, 3) := by decide +kernel
theorem dX5_isSheet_6 : decode cX5_isSheet 6 = .ok (.ireturn, 1) := by decide +kernel
theorem dX5_bitsOf_0 : decode cX5_bitsOf 0 = .ok (.iconst 0, 1) := by decide +kernel
theorem dX5_bitsOf_1 : decode cX5_bitsOf 1 = .ok (.istore_n 1, 1) := by decide +kernel
theorem dX5_bitsOf_2 : decode cX5_bitsOf 2 = .ok (.iconst 0, 1) := by decide +kernel
theorem dX5_bitsOf_3 : decode cX5_bitsOf 3 = .ok (.istore_n 2, 1) := by decide +kernel
theorem dX5_bitsOf_4 : decode cX5_bitsOf 4 = .ok (.iload_n 2, 1) := by decide +kernel
theorem dX5_bitsOf_5 : decode cX5_bitsOf 5 = .ok (.bipush 8, 2) := by decide +kernel
theorem dX5_bitsOf_7 : decode cX5_bitsOf 7 = .ok (.if_icmp .ge 17, 3) := by decide +kernel
theorem dX5_bitsOf_10 : decode cX5_bitsOf 10 = .ok (.iload_n 1, 1) := by decide +kernel
theorem dX5_bitsOf_11 : decode cX5_bitsOf 11 = .ok (.iload_n 0, 1) := by decide +kernel
theorem dX5_bitsOf_12 : decode cX5_bitsOf 12 = .ok (.iload_n 2, 1) := by decide +kernel
theorem dX5_bitsOf_13 : decode cX5_bitsOf 13 = .ok (.ishr, 1) := by decide +kernel
theorem dX5_bitsOf_14 : decode cX5_bitsOf 14 = .ok (.iconst 1, 1) := by decide +kernel
theorem dX5_bitsOf_15 : decode cX5_bitsOf 15 = .ok (.iand, 1) := by decide +kernel
theorem dX5_bitsOf_16 : decode cX5_bitsOf 16 = .ok (.iadd, 1) := by decide +kernel
theorem dX5_bitsOf_17 : decode cX5_bitsOf 17 = .ok (.istore_n 1, 1) := by decide +kernel
theorem dX5_bitsOf_18 : decode cX5_bitsOf 18 = .ok (.iinc 2 1, 3) := by decide +kernel
theorem dX5_bitsOf_21 : decode cX5_bitsOf 21 = .ok (.goto (-17), 3) := by decide +kernel
theorem dX5_bitsOf_24 : decode cX5_bitsOf 24 = .ok (.iload_n 1, 1) := by decide +kernel
theorem dX5_bitsOf_25 : decode cX5_bitsOf 25 = .ok (.ireturn, 1) := by decide +kernel
theorem dX5_isOf_0 : decode cX5_isOf 0 = .ok (.iload_n 1, 1) := by decide +kernel
theorem dX5_isOf_1 : decode cX5_isOf 1 = .ok (.ifCond .eq 35, 3) := by decide +kernel
theorem dX5_isOf_4 : decode cX5_isOf 4 = .ok (.iload_n 1, 1) := by decide +kernel
theorem dX5_isOf_5 : decode cX5_isOf 5 = .ok (.iconst 1, 1) := by decide +kernel
theorem dX5_isOf_6 : decode cX5_isOf 6 = .ok (.if_icmp .ne 13, 3) := by decide +kernel
theorem dX5_isOf_9 : decode cX5_isOf 9 = .ok (.iload_n 2, 1) := by decide +kernel
theorem dX5_isOf_10 : decode cX5_isOf 10 = .ok (.invokestatic 90, 3) := by decide +kernel
theorem dX5_isOf_13 : decode cX5_isOf 13 = .ok (.ifCond .eq 27, 3) := by decide +kernel
theorem dX5_isOf_16 : decode cX5_isOf 16 = .ok (.goto 20, 3) := by decide +kernel
theorem dX5_isOf_19 : decode cX5_isOf 19 = .ok (.iload_n 1, 1) := by decide +kernel
theorem dX5_isOf_20 : decode cX5_isOf 20 = .ok (.iconst 2, 1) := by decide +kernel
theorem dX5_isOf_21 : decode cX5_isOf 21 = .ok (.iconst 3, 1) := by decide +kernel
theorem dX5_isOf_22 : decode cX5_isOf 22 = .ok (.invokestatic 82, 3) := by decide +kernel
theorem dX5_isOf_25 : decode cX5_isOf 25 = .ok (.ifCond .eq 15, 3) := by decide +kernel
theorem dX5_isOf_28 : decode cX5_isOf 28 = .ok (.aload_n 0, 1) := by decide +kernel
theorem dX5_isOf_29 : decode cX5_isOf 29 = .ok (.iload_n 2, 1) := by decide +kernel
theorem dX5_isOf_30 : decode cX5_isOf 30 = .ok (.invokevirtual 86, 3) := by decide +kernel
theorem dX5_isOf_33 : decode cX5_isOf 33 = .ok (.ifCond .eq 7, 3) := by decide +kernel
theorem dX5_isOf_36 : decode cX5_isOf 36 = .ok (.iconst 1, 1) := by decide +kernel
theorem dX5_isOf_37 : decode cX5_isOf 37 = .ok (.goto 4, 3) := by decide +kernel
theorem dX5_isOf_40 : decode cX5_isOf 40 = .ok (.iconst 0, 1) := by decide +kernel
theorem dX5_isOf_41 : decode cX5_isOf 41 = .ok (.ireturn, 1) := by decide +kernel
theorem dX5_isFit_0 : decode cX5_isFit 0 = .ok (.iload_n 0, 1) := by decide +kernel
theorem dX5_isFit_1 : decode cX5_isFit 1 = .ok (.tableswitch 51 0 2 #[27, 36, 43], 27) := by decide +kernel
theorem dX5_isFit_28 : decode cX5_isFit 28 = .ok (.iload_n 1, 1) := by decide +kernel
theorem dX5_isFit_29 : decode cX5_isFit 29 = .ok (.iconst 0, 1) := by decide +kernel
theorem dX5_isFit_30 : decode cX5_isFit 30 = .ok (.sipush 999, 3) := by decide +kernel
theorem dX5_isFit_33 : decode cX5_isFit 33 = .ok (.invokestatic 82, 3) := by decide +kernel
theorem dX5_isFit_36 : decode cX5_isFit 36 = .ok (.ireturn, 1) := by decide +kernel
theorem dX5_isFit_37 : decode cX5_isFit 37 = .ok (.iload_n 1, 1) := by decide +kernel
theorem dX5_isFit_38 : decode cX5_isFit 38 = .ok (.iconst 0, 1) := by decide +kernel
theorem dX5_isFit_39 : decode cX5_isFit 39 = .ok (.iconst 1, 1) := by decide +kernel
theorem dX5_isFit_40 : decode cX5_isFit 40 = .ok (.invokestatic 82, 3) := by decide +kernel
theorem dX5_isFit_43 : decode cX5_isFit 43 = .ok (.ireturn, 1) := by decide +kernel
theorem dX5_isFit_44 : decode cX5_isFit 44 = .ok (.iload_n 1, 1) := by decide +kernel
theorem dX5_isFit_45 : decode cX5_isFit 45 = .ok (.iconst 0, 1) := by decide +kernel
theorem dX5_isFit_46 : decode cX5_isFit 46 = .ok (.bipush 9, 2) := by decide +kernel
theorem dX5_isFit_48 : decode cX5_isFit 48 = .ok (.invokestatic 82, 3) := by decide +kernel
theorem dX5_isFit_51 : decode cX5_isFit 51 = .ok (.ireturn, 1) := by decide +kernel
theorem dX5_isFit_52 : decode cX5_isFit 52 = .ok (.iload_n 1, 1) := by decide +kernel
theorem dX5_isFit_53 : decode cX5_isFit 53 = .ok (.bipush (-20), 2) := by decide +kernel
theorem dX5_isFit_55 : decode cX5_isFit 55 = .ok (.bipush 20, 2) := by decide +kernel
theorem dX5_isFit_57 : decode cX5_isFit 57 = .ok (.invokestatic 82, 3) := by decide +kernel
theorem dX5_isFit_60 : decode cX5_isFit 60 = .ok (.ireturn, 1) := by decide +kernel
theorem dX5_get_0 : decode cX5_get 0 = .ok (.iload_n 1, 1) := by decide +kernel
theorem dX5_get_1 : decode cX5_get 1 = .ok (.tableswitch 54 0 2 #[27, 32, 47], 27) := by decide +kernel
theorem dX5_get_28 : decode cX5_get 28 = .ok (.aload_n 0, 1) := by decide +kernel
theorem dX5_get_29 : decode cX5_get 29 = .ok (.getfield 93, 3) := by decide +kernel
theorem dX5_get_32 : decode cX5_get 32 = .ok (.ireturn, 1) := by decide +kernel
theorem dX5_get_33 : decode cX5_get 33 = .ok (.aload_n 0, 1) := by decide +kernel
theorem dX5_get_34 : decode cX5_get 34 = .ok (.getfield 7, 3) := by decide +kernel
theorem dX5_get_37 : decode cX5_get 37 = .ok (.iload_n 2, 1) := by decide +kernel
theorem dX5_get_38 : decode cX5_get 38 = .ok (.baload, 1) := by decide +kernel
theorem dX5_get_39 : decode cX5_get 39 = .ok (.ifCond .eq 7, 3) := by decide +kernel
theorem dX5_get_42 : decode cX5_get 42 = .ok (.iconst 1, 1) := by decide +kernel
theorem dX5_get_43 : decode cX5_get 43 = .ok (.goto 4, 3) := by decide +kernel
theorem dX5_get_46 : decode cX5_get 46 = .ok (.iconst 0, 1) := by decide +kernel
theorem dX5_get_47 : decode cX5_get 47 = .ok (.ireturn, 1) := by decide +kernel
theorem dX5_get_48 : decode cX5_get 48 = .ok (.aload_n 0, 1) := by decide +kernel
theorem dX5_get_49 : decode cX5_get 49 = .ok (.getfield 17, 3) := by decide +kernel
theorem dX5_get_52 : decode cX5_get 52 = .ok (.iload_n 2, 1) := by decide +kernel
theorem dX5_get_53 : decode cX5_get 53 = .ok (.iaload, 1) := by decide +kernel
theorem dX5_get_54 : decode cX5_get 54 = .ok (.ireturn, 1) := by decide +kernel
theorem dX5_get_55 : decode cX5_get 55 = .ok (.aload_n 0, 1) := by decide +kernel
theorem dX5_get_56 : decode cX5_get 56 = .ok (.getfield 20, 3) := by decide +kernel
theorem dX5_get_59 : decode cX5_get 59 = .ok (.iload_n 2, 1) := by decide +kernel
theorem dX5_get_60 : decode cX5_get 60 = .ok (.iaload, 1) := by decide +kernel
theorem dX5_get_61 : decode cX5_get 61 = .ok (.ireturn, 1) := by decide +kernel
theorem dX5_set_0 : decode cX5_set 0 = .ok (.aload_n 0, 1) := by decide +kernel
theorem dX5_set_1 : decode cX5_set 1 = .ok (.iload_n 1, 1) := by decide +kernel
theorem dX5_set_2 : decode cX5_set 2 = .ok (.iload_n 2, 1) := by decide +kernel
theorem dX5_set_3 : decode cX5_set 3 = .ok (.invokevirtual 96, 3) := by decide +kernel
theorem dX5_set_6 : decode cX5_set 6 = .ok (.ifCond .eq 11, 3) := by decide +kernel
theorem dX5_set_9 : decode cX5_set 9 = .ok (.iload_n 1, 1) := by decide +kernel
theorem dX5_set_10 : decode cX5_set 10 = .ok (.iload_n 3, 1) := by decide +kernel
theorem dX5_set_11 : decode cX5_set 11 = .ok (.invokestatic 100, 3) := by decide +kernel
theorem dX5_set_14 : decode cX5_set 14 = .ok (.ifCond .ne 7, 3) := by decide +kernel
theorem dX5_set_17 : decode cX5_set 17 = .ok (.sipush (-1000), 3) := by decide +kernel
theorem dX5_set_20 : decode cX5_set 20 = .ok (.ireturn, 1) := by decide +kernel
theorem dX5_set_21 : decode cX5_set 21 = .ok (.aload_n 0, 1) := by decide +kernel
theorem dX5_set_22 : decode cX5_set 22 = .ok (.iload_n 1, 1) := by decide +kernel
theorem dX5_set_23 : decode cX5_set 23 = .ok (.iload_n 2, 1) := by decide +kernel
theorem dX5_set_24 : decode cX5_set 24 = .ok (.invokevirtual 103, 3) := by decide +kernel
theorem dX5_set_27 : decode cX5_set 27 = .ok (.istore 4, 2) := by decide +kernel
theorem dX5_set_29 : decode cX5_set 29 = .ok (.iload_n 1, 1) := by decide +kernel
theorem dX5_set_30 : decode cX5_set 30 = .ok (.ifCond .ne 11, 3) := by decide +kernel
theorem dX5_set_33 : decode cX5_set 33 = .ok (.aload_n 0, 1) := by decide +kernel
theorem dX5_set_34 : decode cX5_set 34 = .ok (.iload_n 3, 1) := by decide +kernel
theorem dX5_set_35 : decode cX5_set 35 = .ok (.putfield 93, 3) := by decide +kernel
theorem dX5_set_38 : decode cX5_set 38 = .ok (.goto 49, 3) := by decide +kernel
theorem dX5_set_41 : decode cX5_set 41 = .ok (.iload_n 1, 1) := by decide +kernel
theorem dX5_set_42 : decode cX5_set 42 = .ok (.iconst 1, 1) := by decide +kernel
theorem dX5_set_43 : decode cX5_set 43 = .ok (.if_icmp .ne 22, 3) := by decide +kernel
theorem dX5_set_46 : decode cX5_set 46 = .ok (.aload_n 0, 1) := by decide +kernel
theorem dX5_set_47 : decode cX5_set 47 = .ok (.getfield 7, 3) := by decide +kernel
theorem dX5_set_50 : decode cX5_set 50 = .ok (.iload_n 2, 1) := by decide +kernel
theorem dX5_set_51 : decode cX5_set 51 = .ok (.iload_n 3, 1) := by decide +kernel
theorem dX5_set_52 : decode cX5_set 52 = .ok (.iconst 1, 1) := by decide +kernel
theorem dX5_set_53 : decode cX5_set 53 = .ok (.if_icmp .ne 7, 3) := by decide +kernel
theorem dX5_set_56 : decode cX5_set 56 = .ok (.iconst 1, 1) := by decide +kernel
theorem dX5_set_57 : decode cX5_set 57 = .ok (.goto 4, 3) := by decide +kernel
theorem dX5_set_60 : decode cX5_set 60 = .ok (.iconst 0, 1) := by decide +kernel
theorem dX5_set_61 : decode cX5_set 61 = .ok (.bastore, 1) := by decide +kernel
theorem dX5_set_62 : decode cX5_set 62 = .ok (.goto 25, 3) := by decide +kernel
theorem dX5_set_65 : decode cX5_set 65 = .ok (.iload_n 1, 1) := by decide +kernel
theorem dX5_set_66 : decode cX5_set 66 = .ok (.iconst 2, 1) := by decide +kernel
theorem dX5_set_67 : decode cX5_set 67 = .ok (.if_icmp .ne 13, 3) := by decide +kernel
theorem dX5_set_70 : decode cX5_set 70 = .ok (.aload_n 0, 1) := by decide +kernel
theorem dX5_set_71 : decode cX5_set 71 = .ok (.getfield 17, 3) := by decide +kernel
theorem dX5_set_74 : decode cX5_set 74 = .ok (.iload_n 2, 1) := by decide +kernel
theorem dX5_set_75 : decode cX5_set 75 = .ok (.iload_n 3, 1) := by decide +kernel
theorem dX5_set_76 : decode cX5_set 76 = .ok (.iastore, 1) := by decide +kernel
theorem dX5_set_77 : decode cX5_set 77 = .ok (.goto 10, 3) := by decide +kernel
theorem dX5_set_80 : decode cX5_set 80 = .ok (.aload_n 0, 1) := by decide +kernel
theorem dX5_set_81 : decode cX5_set 81 = .ok (.getfield 20, 3) := by decide +kernel
theorem dX5_set_84 : decode cX5_set 84 = .ok (.iload_n 2, 1) := by decide +kernel
theorem dX5_set_85 : decode cX5_set 85 = .ok (.iload_n 3, 1) := by decide +kernel
theorem dX5_set_86 : decode cX5_set 86 = .ok (.iastore, 1) := by decide +kernel
theorem dX5_set_87 : decode cX5_set 87 = .ok (.iload 4, 2) := by decide +kernel
theorem dX5_set_89 : decode cX5_set 89 = .ok (.ireturn, 1) := by decide +kernel
theorem dX5_person_0 : decode cX5_person 0 = .ok (.iload_n 1, 1) := by decide +kernel
theorem dX5_person_1 : decode cX5_person 1 = .ok (.iconst 0, 1) := by decide +kernel
theorem dX5_person_2 : decode cX5_person 2 = .ok (.iconst 5, 1) := by decide +kernel
theorem dX5_person_3 : decode cX5_person 3 = .ok (.invokestatic 82, 3) := by decide +kernel
theorem dX5_person_6 : decode cX5_person 6 = .ok (.ifCond .eq 13, 3) := by decide +kernel
theorem dX5_person_9 : decode cX5_person 9 = .ok (.iload_n 2, 1) := by decide +kernel
theorem dX5_person_10 : decode cX5_person 10 = .ok (.iconst 0, 1) := by decide +kernel
theorem dX5_person_11 : decode cX5_person 11 = .ok (.bipush 9, 2) := by decide +kernel
theorem dX5_person_13 : decode cX5_person 13 = .ok (.invokestatic 82, 3) := by decide +kernel
theorem dX5_person_16 : decode cX5_person 16 = .ok (.ifCond .ne 6, 3) := by decide +kernel
theorem dX5_person_19 : decode cX5_person 19 = .ok (.bipush (-2), 2) := by decide +kernel
theorem dX5_person_21 : decode cX5_person 21 = .ok (.ireturn, 1) := by decide +kernel
theorem dX5_person_22 : decode cX5_person 22 = .ok (.aload_n 0, 1) := by decide +kernel
theorem dX5_person_23 : decode cX5_person 23 = .ok (.getfield 79, 3) := by decide +kernel
theorem dX5_person_26 : decode cX5_person 26 = .ok (.iconst 5, 1) := by decide +kernel
theorem dX5_person_27 : decode cX5_person 27 = .ok (.if_icmp .ne 6, 3) := by decide +kernel
theorem dX5_person_30 : decode cX5_person 30 = .ok (.bipush (-4), 2) := by decide +kernel
theorem dX5_person_32 : decode cX5_person 32 = .ok (.ireturn, 1) := by decide +kernel
theorem dX5_person_33 : decode cX5_person 33 = .ok (.aload_n 0, 1) := by decide +kernel
theorem dX5_person_34 : decode cX5_person 34 = .ok (.getfield 13, 3) := by decide +kernel
theorem dX5_person_37 : decode cX5_person 37 = .ok (.aload_n 0, 1) := by decide +kernel
theorem dX5_person_38 : decode cX5_person 38 = .ok (.getfield 79, 3) := by decide +kernel
theorem dX5_person_41 : decode cX5_person 41 = .ok (.iload_n 1, 1) := by decide +kernel
theorem dX5_person_42 : decode cX5_person 42 = .ok (.iastore, 1) := by decide +kernel
theorem dX5_person_43 : decode cX5_person 43 = .ok (.aload_n 0, 1) := by decide +kernel
theorem dX5_person_44 : decode cX5_person 44 = .ok (.getfield 17, 3) := by decide +kernel
theorem dX5_person_47 : decode cX5_person 47 = .ok (.aload_n 0, 1) := by decide +kernel
theorem dX5_person_48 : decode cX5_person 48 = .ok (.getfield 79, 3) := by decide +kernel
theorem dX5_person_51 : decode cX5_person 51 = .ok (.iload_n 2, 1) := by decide +kernel
theorem dX5_person_52 : decode cX5_person 52 = .ok (.iastore, 1) := by decide +kernel
theorem dX5_person_53 : decode cX5_person 53 = .ok (.aload_n 0, 1) := by decide +kernel
theorem dX5_person_54 : decode cX5_person 54 = .ok (.getfield 20, 3) := by decide +kernel
theorem dX5_person_57 : decode cX5_person 57 = .ok (.aload_n 0, 1) := by decide +kernel
theorem dX5_person_58 : decode cX5_person 58 = .ok (.getfield 79, 3) := by decide +kernel
theorem dX5_person_61 : decode cX5_person 61 = .ok (.iconst 0, 1) := by decide +kernel
theorem dX5_person_62 : decode cX5_person 62 = .ok (.iastore, 1) := by decide +kernel
theorem dX5_person_63 : decode cX5_person 63 = .ok (.aload_n 0, 1) := by decide +kernel
theorem dX5_person_64 : decode cX5_person 64 = .ok (.dup, 1) := by decide +kernel
theorem dX5_person_65 : decode cX5_person 65 = .ok (.getfield 79, 3) := by decide +kernel
theorem dX5_person_68 : decode cX5_person 68 = .ok (.dup_x1, 1) := by decide +kernel
theorem dX5_person_69 : decode cX5_person 69 = .ok (.iconst 1, 1) := by decide +kernel
theorem dX5_person_70 : decode cX5_person 70 = .ok (.iadd, 1) := by decide +kernel
theorem dX5_person_71 : decode cX5_person 71 = .ok (.putfield 79, 3) := by decide +kernel
theorem dX5_person_74 : decode cX5_person 74 = .ok (.ireturn, 1) := by decide +kernel
theorem dX5_sent_0 : decode cX5_sent 0 = .ok (.iconst 0, 1) := by decide +kernel
theorem dX5_sent_1 : decode cX5_sent 1 = .ok (.istore_n 2, 1) := by decide +kernel
theorem dX5_sent_2 : decode cX5_sent 2 = .ok (.iconst 0, 1) := by decide +kernel
theorem dX5_sent_3 : decode cX5_sent 3 = .ok (.istore_n 3, 1) := by decide +kernel
theorem dX5_sent_4 : decode cX5_sent 4 = .ok (.iload_n 3, 1) := by decide +kernel
theorem dX5_sent_5 : decode cX5_sent 5 = .ok (.aload_n 0, 1) := by decide +kernel
theorem dX5_sent_6 : decode cX5_sent 6 = .ok (.getfield 79, 3) := by decide +kernel
theorem dX5_sent_9 : decode cX5_sent 9 = .ok (.if_icmp .ge 26, 3) := by decide +kernel
theorem dX5_sent_12 : decode cX5_sent 12 = .ok (.iload_n 3, 1) := by decide +kernel
theorem dX5_sent_13 : decode cX5_sent 13 = .ok (.iload_n 1, 1) := by decide +kernel
theorem dX5_sent_14 : decode cX5_sent 14 = .ok (.if_icmp .eq 15, 3) := by decide +kernel
theorem dX5_sent_17 : decode cX5_sent 17 = .ok (.aload_n 0, 1) := by decide +kernel
theorem dX5_sent_18 : decode cX5_sent 18 = .ok (.iload_n 1, 1) := by decide +kernel
theorem dX5_sent_19 : decode cX5_sent 19 = .ok (.iload_n 3, 1) := by decide +kernel
theorem dX5_sent_20 : decode cX5_sent 20 = .ok (.invokevirtual 107, 3) := by decide +kernel
theorem dX5_sent_23 : decode cX5_sent 23 = .ok (.ifCond .eq 6, 3) := by decide +kernel
theorem dX5_sent_26 : decode cX5_sent 26 = .ok (.iinc 2 1, 3) := by decide +kernel
theorem dX5_sent_29 : decode cX5_sent 29 = .ok (.iinc 3 1, 3) := by decide +kernel
theorem dX5_sent_32 : decode cX5_sent 32 = .ok (.goto (-28), 3) := by decide +kernel
theorem dX5_sent_35 : decode cX5_sent 35 = .ok (.iload_n 2, 1) := by decide +kernel
theorem dX5_sent_36 : decode cX5_sent 36 = .ok (.ireturn, 1) := by decide +kernel
theorem dX5_gotten_0 : decode cX5_gotten 0 = .ok (.iconst 0, 1) := by decide +kernel
theorem dX5_gotten_1 : decode cX5_gotten 1 = .ok (.istore_n 2, 1) := by decide +kernel
theorem dX5_gotten_2 : decode cX5_gotten 2 = .ok (.iconst 0, 1) := by decide +kernel
theorem dX5_gotten_3 : decode cX5_gotten 3 = .ok (.istore_n 3, 1) := by decide +kernel
theorem dX5_gotten_4 : decode cX5_gotten 4 = .ok (.iload_n 3, 1) := by decide +kernel
theorem dX5_gotten_5 : decode cX5_gotten 5 = .ok (.aload_n 0, 1) := by decide +kernel
theorem dX5_gotten_6 : decode cX5_gotten 6 = .ok (.getfield 79, 3) := by decide +kernel
theorem dX5_gotten_9 : decode cX5_gotten 9 = .ok (.if_icmp .ge 26, 3) := by decide +kernel
theorem dX5_gotten_12 : decode cX5_gotten 12 = .ok (.iload_n 3, 1) := by decide +kernel
theorem dX5_gotten_13 : decode cX5_gotten 13 = .ok (.iload_n 1, 1) := by decide +kernel
theorem dX5_gotten_14 : decode cX5_gotten 14 = .ok (.if_icmp .eq 15, 3) := by decide +kernel
theorem dX5_gotten_17 : decode cX5_gotten 17 = .ok (.iload_n 2, 1) := by decide +kernel
theorem dX5_gotten_18 : decode cX5_gotten 18 = .ok (.aload_n 0, 1) := by decide +kernel
theorem dX5_gotten_19 : decode cX5_gotten 19 = .ok (.iload_n 3, 1) := by decide +kernel
theorem dX5_gotten_20 : decode cX5_gotten 20 = .ok (.iload_n 1, 1) := by decide +kernel
theorem dX5_gotten_21 : decode cX5_gotten 21 = .ok (.invokevirtual 107, 3) := by decide +kernel
theorem dX5_gotten_24 : decode cX5_gotten 24 = .ok (.invokestatic 110, 3) := by decide +kernel
theorem dX5_gotten_27 : decode cX5_gotten 27 = .ok (.iadd, 1) := by decide +kernel
theorem dX5_gotten_28 : decode cX5_gotten 28 = .ok (.istore_n 2, 1) := by decide +kernel
theorem dX5_gotten_29 : decode cX5_gotten 29 = .ok (.iinc 3 1, 3) := by decide +kernel
theorem dX5_gotten_32 : decode cX5_gotten 32 = .ok (.goto (-28), 3) := by decide +kernel
theorem dX5_gotten_35 : decode cX5_gotten 35 = .ok (.iload_n 2, 1) := by decide +kernel
theorem dX5_gotten_36 : decode cX5_gotten 36 = .ok (.ireturn, 1) := by decide +kernel
theorem dX5_told_0 : decode cX5_told 0 = .ok (.iload_n 2, 1) := by decide +kernel
theorem dX5_told_1 : decode cX5_told 1 = .ok (.iconst 0, 1) := by decide +kernel
theorem dX5_told_2 : decode cX5_told 2 = .ok (.iconst 3, 1) := by decide +kernel
theorem dX5_told_3 : decode cX5_told 3 = .ok (.invokestatic 82, 3) := by decide +kernel
theorem dX5_told_6 : decode cX5_told 6 = .ok (.ifCond .eq 25, 3) := by decide +kernel
theorem dX5_told_9 : decode cX5_told 9 = .ok (.aload_n 0, 1) := by decide +kernel
theorem dX5_told_10 : decode cX5_told 10 = .ok (.iload_n 2, 1) := by decide +kernel
theorem dX5_told_11 : decode cX5_told 11 = .ok (.iload_n 1, 1) := by decide +kernel
theorem dX5_told_12 : decode cX5_told 12 = .ok (.invokevirtual 96, 3) := by decide +kernel
theorem dX5_told_15 : decode cX5_told 15 = .ok (.ifCond .eq 12, 3) := by decide +kernel
theorem dX5_told_18 : decode cX5_told 18 = .ok (.aload_n 0, 1) := by decide +kernel
theorem dX5_told_19 : decode cX5_told 19 = .ok (.iload_n 2, 1) := by decide +kernel
theorem dX5_told_20 : decode cX5_told 20 = .ok (.iload_n 1, 1) := by decide +kernel
theorem dX5_told_21 : decode cX5_told 21 = .ok (.invokevirtual 103, 3) := by decide +kernel
theorem dX5_told_24 : decode cX5_told 24 = .ok (.goto 6, 3) := by decide +kernel
theorem dX5_told_27 : decode cX5_told 27 = .ok (.sipush (-1000), 3) := by decide +kernel
theorem dX5_told_30 : decode cX5_told 30 = .ok (.ireturn, 1) := by decide +kernel
theorem dX5_told_31 : decode cX5_told 31 = .ok (.aload_n 0, 1) := by decide +kernel
theorem dX5_told_32 : decode cX5_told 32 = .ok (.iload_n 1, 1) := by decide +kernel
theorem dX5_told_33 : decode cX5_told 33 = .ok (.invokevirtual 86, 3) := by decide +kernel
theorem dX5_told_36 : decode cX5_told 36 = .ok (.ifCond .ne 7, 3) := by decide +kernel
theorem dX5_told_39 : decode cX5_told 39 = .ok (.sipush (-1000), 3) := by decide +kernel
theorem dX5_told_42 : decode cX5_told 42 = .ok (.ireturn, 1) := by decide +kernel
theorem dX5_told_43 : decode cX5_told 43 = .ok (.iload_n 2, 1) := by decide +kernel
theorem dX5_told_44 : decode cX5_told 44 = .ok (.tableswitch 67 4 7 #[32, 39, 45, 51], 32) := by decide +kernel
theorem dX5_told_76 : decode cX5_told 76 = .ok (.aload_n 0, 1) := by decide +kernel
theorem dX5_told_77 : decode cX5_told 77 = .ok (.getfield 13, 3) := by decide +kernel
theorem dX5_told_80 : decode cX5_told 80 = .ok (.iload_n 1, 1) := by decide +kernel
theorem dX5_told_81 : decode cX5_told 81 = .ok (.iaload, 1) := by decide +kernel
theorem dX5_told_82 : decode cX5_told 82 = .ok (.ireturn, 1) := by decide +kernel
theorem dX5_told_83 : decode cX5_told 83 = .ok (.aload_n 0, 1) := by decide +kernel
theorem dX5_told_84 : decode cX5_told 84 = .ok (.iload_n 1, 1) := by decide +kernel
theorem dX5_told_85 : decode cX5_told 85 = .ok (.invokevirtual 114, 3) := by decide +kernel
theorem dX5_told_88 : decode cX5_told 88 = .ok (.ireturn, 1) := by decide +kernel
theorem dX5_told_89 : decode cX5_told 89 = .ok (.aload_n 0, 1) := by decide +kernel
theorem dX5_told_90 : decode cX5_told 90 = .ok (.iload_n 1, 1) := by decide +kernel
theorem dX5_told_91 : decode cX5_told 91 = .ok (.invokevirtual 117, 3) := by decide +kernel
theorem dX5_told_94 : decode cX5_told 94 = .ok (.ireturn, 1) := by decide +kernel
theorem dX5_told_95 : decode cX5_told 95 = .ok (.aload_n 0, 1) := by decide +kernel
theorem dX5_told_96 : decode cX5_told 96 = .ok (.getfield 20, 3) := by decide +kernel
theorem dX5_told_99 : decode cX5_told 99 = .ok (.iload_n 1, 1) := by decide +kernel
theorem dX5_told_100 : decode cX5_told 100 = .ok (.iaload, 1) := by decide +kernel
theorem dX5_told_101 : decode cX5_told 101 = .ok (.aload_n 0, 1) := by decide +kernel
theorem dX5_told_102 : decode cX5_told 102 = .ok (.iload_n 1, 1) := by decide +kernel
theorem dX5_told_103 : decode cX5_told 103 = .ok (.invokevirtual 120, 3) := by decide +kernel
theorem dX5_told_106 : decode cX5_told 106 = .ok (.iadd, 1) := by decide +kernel
theorem dX5_told_107 : decode cX5_told 107 = .ok (.invokestatic 123, 3) := by decide +kernel
theorem dX5_told_110 : decode cX5_told 110 = .ok (.ireturn, 1) := by decide +kernel
theorem dX5_told_111 : decode cX5_told 111 = .ok (.sipush (-1000), 3) := by decide +kernel
theorem dX5_told_114 : decode cX5_told 114 = .ok (.ireturn, 1) := by decide +kernel
theorem dX5_feed_0 : decode cX5_feed 0 = .ok (.iload_n 1, 1) := by decide +kernel
theorem dX5_feed_1 : decode cX5_feed 1 = .ok (.iconst 0, 1) := by decide +kernel
theorem dX5_feed_2 : decode cX5_feed 2 = .ok (.sipush 255, 3) := by decide +kernel
theorem dX5_feed_5 : decode cX5_feed 5 = .ok (.invokestatic 82, 3) := by decide +kernel
theorem dX5_feed_8 : decode cX5_feed 8 = .ok (.ifCond .ne 6, 3) := by decide +kernel
theorem dX5_feed_11 : decode cX5_feed 11 = .ok (.bipush (-2), 2) := by decide +kernel
theorem dX5_feed_13 : decode cX5_feed 13 = .ok (.ireturn, 1) := by decide +kernel
theorem dX5_feed_14 : decode cX5_feed 14 = .ok (.aload_n 0, 1) := by decide +kernel
theorem dX5_feed_15 : decode cX5_feed 15 = .ok (.getfield 126, 3) := by decide +kernel
theorem dX5_feed_18 : decode cX5_feed 18 = .ok (.sipush 160, 3) := by decide +kernel
theorem dX5_feed_21 : decode cX5_feed 21 = .ok (.if_icmp .ne 6, 3) := by decide +kernel
theorem dX5_feed_24 : decode cX5_feed 24 = .ok (.bipush (-4), 2) := by decide +kernel
theorem dX5_feed_26 : decode cX5_feed 26 = .ok (.ireturn, 1) := by decide +kernel
theorem dX5_feed_27 : decode cX5_feed 27 = .ok (.aload_n 0, 1) := by decide +kernel
theorem dX5_feed_28 : decode cX5_feed 28 = .ok (.getfield 23, 3) := by decide +kernel
theorem dX5_feed_31 : decode cX5_feed 31 = .ok (.aload_n 0, 1) := by decide +kernel
theorem dX5_feed_32 : decode cX5_feed 32 = .ok (.dup, 1) := by decide +kernel
theorem dX5_feed_33 : decode cX5_feed 33 = .ok (.getfield 126, 3) := by decide +kernel
theorem dX5_feed_36 : decode cX5_feed 36 = .ok (.dup_x1, 1) := by decide +kernel
theorem dX5_feed_37 : decode cX5_feed 37 = .ok (.iconst 1, 1) := by decide +kernel
theorem dX5_feed_38 : decode cX5_feed 38 = .ok (.iadd, 1) := by decide +kernel
theorem dX5_feed_39 : decode cX5_feed 39 = .ok (.putfield 126, 3) := by decide +kernel
theorem dX5_feed_42 : decode cX5_feed 42 = .ok (.iload_n 1, 1) := by decide +kernel
theorem dX5_feed_43 : decode cX5_feed 43 = .ok (.iastore, 1) := by decide +kernel
theorem dX5_feed_44 : decode cX5_feed 44 = .ok (.aload_n 0, 1) := by decide +kernel
theorem dX5_feed_45 : decode cX5_feed 45 = .ok (.getfield 126, 3) := by decide +kernel
theorem dX5_feed_48 : decode cX5_feed 48 = .ok (.ireturn, 1) := by decide +kernel
theorem dX5_isLetter_0 : decode cX5_isLetter 0 = .ok (.iload_n 0, 1) := by decide +kernel
theorem dX5_isLetter_1 : decode cX5_isLetter 1 = .ok (.bipush 97, 2) := by decide +kernel
theorem dX5_isLetter_3 : decode cX5_isLetter 3 = .ok (.if_icmp .lt 13, 3) := by decide +kernel
theorem dX5_isLetter_6 : decode cX5_isLetter 6 = .ok (.iload_n 0, 1) := by decide +kernel
theorem dX5_isLetter_7 : decode cX5_isLetter 7 = .ok (.bipush 122, 2) := by decide +kernel
theorem dX5_isLetter_9 : decode cX5_isLetter 9 = .ok (.if_icmp .gt 7, 3) := by decide +kernel
theorem dX5_isLetter_12 : decode cX5_isLetter 12 = .ok (.iconst 1, 1) := by decide +kernel
theorem dX5_isLetter_13 : decode cX5_isLetter 13 = .ok (.goto 4, 3) := by decide +kernel
theorem dX5_isLetter_16 : decode cX5_isLetter 16 = .ok (.iconst 0, 1) := by decide +kernel
theorem dX5_isLetter_17 : decode cX5_isLetter 17 = .ok (.ireturn, 1) := by decide +kernel
theorem dX5_isDigit_0 : decode cX5_isDigit 0 = .ok (.iload_n 0, 1) := by decide +kernel
theorem dX5_isDigit_1 : decode cX5_isDigit 1 = .ok (.bipush 48, 2) := by decide +kernel
theorem dX5_isDigit_3 : decode cX5_isDigit 3 = .ok (.if_icmp .lt 13, 3) := by decide +kernel
theorem dX5_isDigit_6 : decode cX5_isDigit 6 = .ok (.iload_n 0, 1) := by decide +kernel
theorem dX5_isDigit_7 : decode cX5_isDigit 7 = .ok (.bipush 57, 2) := by decide +kernel
theorem dX5_isDigit_9 : decode cX5_isDigit 9 = .ok (.if_icmp .gt 7, 3) := by decide +kernel
theorem dX5_isDigit_12 : decode cX5_isDigit 12 = .ok (.iconst 1, 1) := by decide +kernel
theorem dX5_isDigit_13 : decode cX5_isDigit 13 = .ok (.goto 4, 3) := by decide +kernel
theorem dX5_isDigit_16 : decode cX5_isDigit 16 = .ok (.iconst 0, 1) := by decide +kernel
theorem dX5_isDigit_17 : decode cX5_isDigit 17 = .ok (.ireturn, 1) := by decide +kernel
theorem dX5_isSign_0 : decode cX5_isSign 0 = .ok (.iload_n 0, 1) := by decide +kernel
theorem dX5_isSign_1 : decode cX5_isSign 1 = .ok (.tableswitch 105 40 61 #[103, 103, 103, 103, 105, 103, 105, 105, 105, 105, 105, 105, 105, 105, 105, 105, 105, 105, 105, 103, 103, 103], 103) := by decide +kernel
theorem dX5_isSign_104 : decode cX5_isSign 104 = .ok (.iconst 1, 1) := by decide +kernel
theorem dX5_isSign_105 : decode cX5_isSign 105 = .ok (.ireturn, 1) := by decide +kernel
theorem dX5_isSign_106 : decode cX5_isSign 106 = .ok (.iconst 0, 1) := by decide +kernel
theorem dX5_isSign_107 : decode cX5_isSign 107 = .ok (.ireturn, 1) := by decide +kernel
theorem dX5_named_0 : decode cX5_named 0 = .ok (.aload_n 0, 1) := by decide +kernel
theorem dX5_named_1 : decode cX5_named 1 = .ok (.getfield 129, 3) := by decide +kernel
theorem dX5_named_4 : decode cX5_named 4 = .ok (.lookupswitch 72 #[(555, 70), (131638, 68), (267223, 62), (6415353, 60), (212302449, 64), (291335149, 66)], 60) := by decide +kernel
theorem dX5_named_64 : decode cX5_named 64 = .ok (.iconst 0, 1) := by decide +kernel
theorem dX5_named_65 : decode cX5_named 65 = .ok (.ireturn, 1) := by decide +kernel
theorem dX5_named_66 : decode cX5_named 66 = .ok (.iconst 1, 1) := by decide +kernel
theorem dX5_named_67 : decode cX5_named 67 = .ok (.ireturn, 1) := by decide +kernel
theorem dX5_named_68 : decode cX5_named 68 = .ok (.iconst 2, 1) := by decide +kernel
theorem dX5_named_69 : decode cX5_named 69 = .ok (.ireturn, 1) := by decide +kernel
theorem dX5_named_70 : decode cX5_named 70 = .ok (.iconst 3, 1) := by decide +kernel
theorem dX5_named_71 : decode cX5_named 71 = .ok (.ireturn, 1) := by decide +kernel
theorem dX5_named_72 : decode cX5_named 72 = .ok (.iconst 4, 1) := by decide +kernel
theorem dX5_named_73 : decode cX5_named 73 = .ok (.ireturn, 1) := by decide +kernel
theorem dX5_named_74 : decode cX5_named 74 = .ok (.iconst 5, 1) := by decide +kernel
theorem dX5_named_75 : decode cX5_named 75 = .ok (.ireturn, 1) := by decide +kernel
theorem dX5_named_76 : decode cX5_named 76 = .ok (.iconst (-1), 1) := by decide +kernel
theorem dX5_named_77 : decode cX5_named 77 = .ok (.ireturn, 1) := by decide +kernel
theorem dX5_isKey_0 : decode cX5_isKey 0 = .ok (.aload_n 0, 1) := by decide +kernel
theorem dX5_isKey_1 : decode cX5_isKey 1 = .ok (.getfield 129, 3) := by decide +kernel
theorem dX5_isKey_4 : decode cX5_isKey 4 = .ok (.lookupswitch 62 #[(423, 60), (1111, 60), (10631, 60), (74917, 60), (3291049, 60), (10206127, 60)], 60) := by decide +kernel
theorem dX5_isKey_64 : decode cX5_isKey 64 = .ok (.iconst 1, 1) := by decide +kernel
theorem dX5_isKey_65 : decode cX5_isKey 65 = .ok (.ireturn, 1) := by decide +kernel
theorem dX5_isKey_66 : decode cX5_isKey 66 = .ok (.iconst 0, 1) := by decide +kernel
theorem dX5_isKey_67 : decode cX5_isKey 67 = .ok (.ireturn, 1) := by decide +kernel
theorem dX5_next_0 : decode cX5_next 0 = .ok (.aload_n 0, 1) := by decide +kernel
theorem dX5_next_1 : decode cX5_next 1 = .ok (.aload_n 0, 1) := by decide +kernel
theorem dX5_next_2 : decode cX5_next 2 = .ok (.getfield 132, 3) := by decide +kernel
theorem dX5_next_5 : decode cX5_next 5 = .ok (.putfield 135, 3) := by decide +kernel
theorem dX5_next_8 : decode cX5_next 8 = .ok (.aload_n 0, 1) := by decide +kernel
theorem dX5_next_9 : decode cX5_next 9 = .ok (.getfield 135, 3) := by decide +kernel
theorem dX5_next_12 : decode cX5_next 12 = .ok (.aload_n 0, 1) := by decide +kernel
theorem dX5_next_13 : decode cX5_next 13 = .ok (.getfield 126, 3) := by decide +kernel
theorem dX5_next_16 : decode cX5_next 16 = .ok (.if_icmp .ge 44, 3) := by decide +kernel
theorem dX5_next_19 : decode cX5_next 19 = .ok (.aload_n 0, 1) := by decide +kernel
theorem dX5_next_20 : decode cX5_next 20 = .ok (.getfield 23, 3) := by decide +kernel
theorem dX5_next_23 : decode cX5_next 23 = .ok (.aload_n 0, 1) := by decide +kernel
theorem dX5_next_24 : decode cX5_next 24 = .ok (.getfield 135, 3) := by decide +kernel
theorem dX5_next_27 : decode cX5_next 27 = .ok (.iaload, 1) := by decide +kernel
theorem dX5_next_28 : decode cX5_next 28 = .ok (.bipush 32, 2) := by decide +kernel
theorem dX5_next_30 : decode cX5_next 30 = .ok (.if_icmp .eq 17, 3) := by decide +kernel
theorem dX5_next_33 : decode cX5_next 33 = .ok (.aload_n 0, 1) := by decide +kernel
theorem dX5_next_34 : decode cX5_next 34 = .ok (.getfield 23, 3) := by decide +kernel
theorem dX5_next_37 : decode cX5_next 37 = .ok (.aload_n 0, 1) := by decide +kernel
theorem dX5_next_38 : decode cX5_next 38 = .ok (.getfield 135, 3) := by decide +kernel
theorem dX5_next_41 : decode cX5_next 41 = .ok (.iaload, 1) := by decide +kernel
theorem dX5_next_42 : decode cX5_next 42 = .ok (.bipush 10, 2) := by decide +kernel
theorem dX5_next_44 : decode cX5_next 44 = .ok (.if_icmp .ne 16, 3) := by decide +kernel
theorem dX5_next_47 : decode cX5_next 47 = .ok (.aload_n 0, 1) := by decide +kernel
theorem dX5_next_48 : decode cX5_next 48 = .ok (.dup, 1) := by decide +kernel
theorem dX5_next_49 : decode cX5_next 49 = .ok (.getfield 135, 3) := by decide +kernel
theorem dX5_next_52 : decode cX5_next 52 = .ok (.iconst 1, 1) := by decide +kernel
theorem dX5_next_53 : decode cX5_next 53 = .ok (.iadd, 1) := by decide +kernel
theorem dX5_next_54 : decode cX5_next 54 = .ok (.putfield 135, 3) := by decide +kernel
theorem dX5_next_57 : decode cX5_next 57 = .ok (.goto (-49), 3) := by decide +kernel
theorem dX5_next_60 : decode cX5_next 60 = .ok (.aload_n 0, 1) := by decide +kernel
theorem dX5_next_61 : decode cX5_next 61 = .ok (.aload_n 0, 1) := by decide +kernel
theorem dX5_next_62 : decode cX5_next 62 = .ok (.getfield 135, 3) := by decide +kernel
theorem dX5_next_65 : decode cX5_next 65 = .ok (.putfield 132, 3) := by decide +kernel
theorem dX5_next_68 : decode cX5_next 68 = .ok (.aload_n 0, 1) := by decide +kernel
theorem dX5_next_69 : decode cX5_next 69 = .ok (.iconst 0, 1) := by decide +kernel
theorem dX5_next_70 : decode cX5_next 70 = .ok (.putfield 129, 3) := by decide +kernel
theorem dX5_next_73 : decode cX5_next 73 = .ok (.aload_n 0, 1) := by decide +kernel
theorem dX5_next_74 : decode cX5_next 74 = .ok (.getfield 135, 3) := by decide +kernel
theorem dX5_next_77 : decode cX5_next 77 = .ok (.aload_n 0, 1) := by decide +kernel
theorem dX5_next_78 : decode cX5_next 78 = .ok (.getfield 126, 3) := by decide +kernel
theorem dX5_next_81 : decode cX5_next 81 = .ok (.if_icmp .ne 10, 3) := by decide +kernel
theorem dX5_next_84 : decode cX5_next 84 = .ok (.aload_n 0, 1) := by decide +kernel
theorem dX5_next_85 : decode cX5_next 85 = .ok (.bipush 101, 2) := by decide +kernel
theorem dX5_next_87 : decode cX5_next 87 = .ok (.putfield 138, 3) := by decide +kernel
theorem dX5_next_90 : decode cX5_next 90 = .ok (.return_, 1) := by decide +kernel
theorem dX5_next_91 : decode cX5_next 91 = .ok (.aload_n 0, 1) := by decide +kernel
theorem dX5_next_92 : decode cX5_next 92 = .ok (.getfield 23, 3) := by decide +kernel
theorem dX5_next_95 : decode cX5_next 95 = .ok (.aload_n 0, 1) := by decide +kernel
theorem dX5_next_96 : decode cX5_next 96 = .ok (.getfield 135, 3) := by decide +kernel
theorem dX5_next_99 : decode cX5_next 99 = .ok (.iaload, 1) := by decide +kernel
theorem dX5_next_100 : decode cX5_next 100 = .ok (.istore_n 1, 1) := by decide +kernel
theorem dX5_next_101 : decode cX5_next 101 = .ok (.iload_n 1, 1) := by decide +kernel
theorem dX5_next_102 : decode cX5_next 102 = .ok (.invokestatic 141, 3) := by decide +kernel
theorem dX5_next_105 : decode cX5_next 105 = .ok (.ifCond .eq 128, 3) := by decide +kernel
theorem dX5_next_108 : decode cX5_next 108 = .ok (.aload_n 0, 1) := by decide +kernel
theorem dX5_next_109 : decode cX5_next 109 = .ok (.getfield 132, 3) := by decide +kernel
theorem dX5_next_112 : decode cX5_next 112 = .ok (.aload_n 0, 1) := by decide +kernel
theorem dX5_next_113 : decode cX5_next 113 = .ok (.getfield 126, 3) := by decide +kernel
theorem dX5_next_116 : decode cX5_next 116 = .ok (.if_icmp .ge 69, 3) := by decide +kernel
theorem dX5_next_119 : decode cX5_next 119 = .ok (.aload_n 0, 1) := by decide +kernel
theorem dX5_next_120 : decode cX5_next 120 = .ok (.getfield 23, 3) := by decide +kernel
theorem dX5_next_123 : decode cX5_next 123 = .ok (.aload_n 0, 1) := by decide +kernel
theorem dX5_next_124 : decode cX5_next 124 = .ok (.getfield 132, 3) := by decide +kernel
theorem dX5_next_127 : decode cX5_next 127 = .ok (.iaload, 1) := by decide +kernel
theorem dX5_next_128 : decode cX5_next 128 = .ok (.invokestatic 141, 3) := by decide +kernel
theorem dX5_next_131 : decode cX5_next 131 = .ok (.ifCond .eq 54, 3) := by decide +kernel
theorem dX5_next_134 : decode cX5_next 134 = .ok (.aload_n 0, 1) := by decide +kernel
theorem dX5_next_135 : decode cX5_next 135 = .ok (.getfield 132, 3) := by decide +kernel
theorem dX5_next_138 : decode cX5_next 138 = .ok (.aload_n 0, 1) := by decide +kernel
theorem dX5_next_139 : decode cX5_next 139 = .ok (.getfield 135, 3) := by decide +kernel
theorem dX5_next_142 : decode cX5_next 142 = .ok (.isub, 1) := by decide +kernel
theorem dX5_next_143 : decode cX5_next 143 = .ok (.bipush 6, 2) := by decide +kernel
theorem dX5_next_145 : decode cX5_next 145 = .ok (.if_icmp .ge 27, 3) := by decide +kernel
theorem dX5_next_148 : decode cX5_next 148 = .ok (.aload_n 0, 1) := by decide +kernel
theorem dX5_next_149 : decode cX5_next 149 = .ok (.bipush 27, 2) := by decide +kernel
theorem dX5_next_151 : decode cX5_next 151 = .ok (.aload_n 0, 1) := by decide +kernel
theorem dX5_next_152 : decode cX5_next 152 = .ok (.getfield 129, 3) := by decide +kernel
theorem dX5_next_155 : decode cX5_next 155 = .ok (.imul, 1) := by decide +kernel
theorem dX5_next_156 : decode cX5_next 156 = .ok (.aload_n 0, 1) := by decide +kernel
theorem dX5_next_157 : decode cX5_next 157 = .ok (.getfield 23, 3) := by decide +kernel
theorem dX5_next_160 : decode cX5_next 160 = .ok (.aload_n 0, 1) := by decide +kernel
theorem dX5_next_161 : decode cX5_next 161 = .ok (.getfield 132, 3) := by decide +kernel
theorem dX5_next_164 : decode cX5_next 164 = .ok (.iaload, 1) := by decide +kernel
theorem dX5_next_165 : decode cX5_next 165 = .ok (.iadd, 1) := by decide +kernel
theorem dX5_next_166 : decode cX5_next 166 = .ok (.bipush 96, 2) := by decide +kernel
theorem dX5_next_168 : decode cX5_next 168 = .ok (.isub, 1) := by decide +kernel
theorem dX5_next_169 : decode cX5_next 169 = .ok (.putfield 129, 3) := by decide +kernel
theorem dX5_next_172 : decode cX5_next 172 = .ok (.aload_n 0, 1) := by decide +kernel
theorem dX5_next_173 : decode cX5_next 173 = .ok (.dup, 1) := by decide +kernel
theorem dX5_next_174 : decode cX5_next 174 = .ok (.getfield 132, 3) := by decide +kernel
theorem dX5_next_177 : decode cX5_next 177 = .ok (.iconst 1, 1) := by decide +kernel
theorem dX5_next_178 : decode cX5_next 178 = .ok (.iadd, 1) := by decide +kernel
theorem dX5_next_179 : decode cX5_next 179 = .ok (.putfield 132, 3) := by decide +kernel
theorem dX5_next_182 : decode cX5_next 182 = .ok (.goto (-74), 3) := by decide +kernel
theorem dX5_next_185 : decode cX5_next 185 = .ok (.aload_n 0, 1) := by decide +kernel
theorem dX5_next_186 : decode cX5_next 186 = .ok (.getfield 132, 3) := by decide +kernel
theorem dX5_next_189 : decode cX5_next 189 = .ok (.aload_n 0, 1) := by decide +kernel
theorem dX5_next_190 : decode cX5_next 190 = .ok (.getfield 135, 3) := by decide +kernel
theorem dX5_next_193 : decode cX5_next 193 = .ok (.isub, 1) := by decide +kernel
theorem dX5_next_194 : decode cX5_next 194 = .ok (.bipush 6, 2) := by decide +kernel
theorem dX5_next_196 : decode cX5_next 196 = .ok (.if_icmp .le 8, 3) := by decide +kernel
theorem dX5_next_199 : decode cX5_next 199 = .ok (.aload_n 0, 1) := by decide +kernel
theorem dX5_next_200 : decode cX5_next 200 = .ok (.iconst (-1), 1) := by decide +kernel
theorem dX5_next_201 : decode cX5_next 201 = .ok (.putfield 129, 3) := by decide +kernel
theorem dX5_next_204 : decode cX5_next 204 = .ok (.aload_n 0, 1) := by decide +kernel
theorem dX5_next_205 : decode cX5_next 205 = .ok (.aload_n 0, 1) := by decide +kernel
theorem dX5_next_206 : decode cX5_next 206 = .ok (.invokevirtual 144, 3) := by decide +kernel
theorem dX5_next_209 : decode cX5_next 209 = .ok (.iconst (-1), 1) := by decide +kernel
theorem dX5_next_210 : decode cX5_next 210 = .ok (.if_icmp .ne 15, 3) := by decide +kernel
theorem dX5_next_213 : decode cX5_next 213 = .ok (.aload_n 0, 1) := by decide +kernel
theorem dX5_next_214 : decode cX5_next 214 = .ok (.invokevirtual 148, 3) := by decide +kernel
theorem dX5_next_217 : decode cX5_next 217 = .ok (.ifCond .ne 8, 3) := by decide +kernel
theorem dX5_next_220 : decode cX5_next 220 = .ok (.bipush 120, 2) := by decide +kernel
theorem dX5_next_222 : decode cX5_next 222 = .ok (.goto 5, 3) := by decide +kernel
theorem dX5_next_225 : decode cX5_next 225 = .ok (.bipush 119, 2) := by decide +kernel
theorem dX5_next_227 : decode cX5_next 227 = .ok (.putfield 138, 3) := by decide +kernel
theorem dX5_next_230 : decode cX5_next 230 = .ok (.goto 145, 3) := by decide +kernel
theorem dX5_next_233 : decode cX5_next 233 = .ok (.iload_n 1, 1) := by decide +kernel
theorem dX5_next_234 : decode cX5_next 234 = .ok (.invokestatic 152, 3) := by decide +kernel
theorem dX5_next_237 : decode cX5_next 237 = .ok (.ifCond .eq 111, 3) := by decide +kernel
theorem dX5_next_240 : decode cX5_next 240 = .ok (.aload_n 0, 1) := by decide +kernel
theorem dX5_next_241 : decode cX5_next 241 = .ok (.iconst 0, 1) := by decide +kernel
theorem dX5_next_242 : decode cX5_next 242 = .ok (.putfield 155, 3) := by decide +kernel
theorem dX5_next_245 : decode cX5_next 245 = .ok (.aload_n 0, 1) := by decide +kernel
theorem dX5_next_246 : decode cX5_next 246 = .ok (.getfield 132, 3) := by decide +kernel
theorem dX5_next_249 : decode cX5_next 249 = .ok (.aload_n 0, 1) := by decide +kernel
theorem dX5_next_250 : decode cX5_next 250 = .ok (.getfield 126, 3) := by decide +kernel
theorem dX5_next_253 : decode cX5_next 253 = .ok (.if_icmp .ge 68, 3) := by decide +kernel
theorem dX5_next_256 : decode cX5_next 256 = .ok (.aload_n 0, 1) := by decide +kernel
theorem dX5_next_257 : decode cX5_next 257 = .ok (.getfield 23, 3) := by decide +kernel
theorem dX5_next_260 : decode cX5_next 260 = .ok (.aload_n 0, 1) := by decide +kernel
theorem dX5_next_261 : decode cX5_next 261 = .ok (.getfield 132, 3) := by decide +kernel
theorem dX5_next_264 : decode cX5_next 264 = .ok (.iaload, 1) := by decide +kernel
theorem dX5_next_265 : decode cX5_next 265 = .ok (.invokestatic 152, 3) := by decide +kernel
theorem dX5_next_268 : decode cX5_next 268 = .ok (.ifCond .eq 53, 3) := by decide +kernel
theorem dX5_next_271 : decode cX5_next 271 = .ok (.aload_n 0, 1) := by decide +kernel
theorem dX5_next_272 : decode cX5_next 272 = .ok (.getfield 132, 3) := by decide +kernel
theorem dX5_next_275 : decode cX5_next 275 = .ok (.aload_n 0, 1) := by decide +kernel
theorem dX5_next_276 : decode cX5_next 276 = .ok (.getfield 135, 3) := by decide +kernel
theorem dX5_next_279 : decode cX5_next 279 = .ok (.isub, 1) := by decide +kernel
theorem dX5_next_280 : decode cX5_next 280 = .ok (.iconst 4, 1) := by decide +kernel
theorem dX5_next_281 : decode cX5_next 281 = .ok (.if_icmp .ge 27, 3) := by decide +kernel
theorem dX5_next_284 : decode cX5_next 284 = .ok (.aload_n 0, 1) := by decide +kernel
theorem dX5_next_285 : decode cX5_next 285 = .ok (.bipush 10, 2) := by decide +kernel
theorem dX5_next_287 : decode cX5_next 287 = .ok (.aload_n 0, 1) := by decide +kernel
theorem dX5_next_288 : decode cX5_next 288 = .ok (.getfield 155, 3) := by decide +kernel
theorem dX5_next_291 : decode cX5_next 291 = .ok (.imul, 1) := by decide +kernel
theorem dX5_next_292 : decode cX5_next 292 = .ok (.aload_n 0, 1) := by decide +kernel
theorem dX5_next_293 : decode cX5_next 293 = .ok (.getfield 23, 3) := by decide +kernel
theorem dX5_next_296 : decode cX5_next 296 = .ok (.aload_n 0, 1) := by decide +kernel
theorem dX5_next_297 : decode cX5_next 297 = .ok (.getfield 132, 3) := by decide +kernel
theorem dX5_next_300 : decode cX5_next 300 = .ok (.iaload, 1) := by decide +kernel
theorem dX5_next_301 : decode cX5_next 301 = .ok (.iadd, 1) := by decide +kernel
theorem dX5_next_302 : decode cX5_next 302 = .ok (.bipush 48, 2) := by decide +kernel
theorem dX5_next_304 : decode cX5_next 304 = .ok (.isub, 1) := by decide +kernel
theorem dX5_next_305 : decode cX5_next 305 = .ok (.putfield 155, 3) := by decide +kernel
theorem dX5_next_308 : decode cX5_next 308 = .ok (.aload_n 0, 1) := by decide +kernel
theorem dX5_next_309 : decode cX5_next 309 = .ok (.dup, 1) := by decide +kernel
theorem dX5_next_310 : decode cX5_next 310 = .ok (.getfield 132, 3) := by decide +kernel
theorem dX5_next_313 : decode cX5_next 313 = .ok (.iconst 1, 1) := by decide +kernel
theorem dX5_next_314 : decode cX5_next 314 = .ok (.iadd, 1) := by decide +kernel
theorem dX5_next_315 : decode cX5_next 315 = .ok (.putfield 132, 3) := by decide +kernel
theorem dX5_next_318 : decode cX5_next 318 = .ok (.goto (-73), 3) := by decide +kernel
theorem dX5_next_321 : decode cX5_next 321 = .ok (.aload_n 0, 1) := by decide +kernel
theorem dX5_next_322 : decode cX5_next 322 = .ok (.aload_n 0, 1) := by decide +kernel
theorem dX5_next_323 : decode cX5_next 323 = .ok (.getfield 132, 3) := by decide +kernel
theorem dX5_next_326 : decode cX5_next 326 = .ok (.aload_n 0, 1) := by decide +kernel
theorem dX5_next_327 : decode cX5_next 327 = .ok (.getfield 135, 3) := by decide +kernel
theorem dX5_next_330 : decode cX5_next 330 = .ok (.isub, 1) := by decide +kernel
theorem dX5_next_331 : decode cX5_next 331 = .ok (.iconst 4, 1) := by decide +kernel
theorem dX5_next_332 : decode cX5_next 332 = .ok (.if_icmp .le 8, 3) := by decide +kernel
theorem dX5_next_335 : decode cX5_next 335 = .ok (.bipush 120, 2) := by decide +kernel
theorem dX5_next_337 : decode cX5_next 337 = .ok (.goto 5, 3) := by decide +kernel
theorem dX5_next_340 : decode cX5_next 340 = .ok (.bipush 48, 2) := by decide +kernel
theorem dX5_next_342 : decode cX5_next 342 = .ok (.putfield 138, 3) := by decide +kernel
theorem dX5_next_345 : decode cX5_next 345 = .ok (.goto 30, 3) := by decide +kernel
theorem dX5_next_348 : decode cX5_next 348 = .ok (.aload_n 0, 1) := by decide +kernel
theorem dX5_next_349 : decode cX5_next 349 = .ok (.dup, 1) := by decide +kernel
theorem dX5_next_350 : decode cX5_next 350 = .ok (.getfield 132, 3) := by decide +kernel
theorem dX5_next_353 : decode cX5_next 353 = .ok (.iconst 1, 1) := by decide +kernel
theorem dX5_next_354 : decode cX5_next 354 = .ok (.iadd, 1) := by decide +kernel
theorem dX5_next_355 : decode cX5_next 355 = .ok (.putfield 132, 3) := by decide +kernel
theorem dX5_next_358 : decode cX5_next 358 = .ok (.aload_n 0, 1) := by decide +kernel
theorem dX5_next_359 : decode cX5_next 359 = .ok (.iload_n 1, 1) := by decide +kernel
theorem dX5_next_360 : decode cX5_next 360 = .ok (.invokestatic 158, 3) := by decide +kernel
theorem dX5_next_363 : decode cX5_next 363 = .ok (.ifCond .eq 7, 3) := by decide +kernel
theorem dX5_next_366 : decode cX5_next 366 = .ok (.iload_n 1, 1) := by decide +kernel
theorem dX5_next_367 : decode cX5_next 367 = .ok (.goto 5, 3) := by decide +kernel
theorem dX5_next_370 : decode cX5_next 370 = .ok (.bipush 120, 2) := by decide +kernel
theorem dX5_next_372 : decode cX5_next 372 = .ok (.putfield 138, 3) := by decide +kernel
theorem dX5_next_375 : decode cX5_next 375 = .ok (.return_, 1) := by decide +kernel
theorem dX5_takes_0 : decode cX5_takes 0 = .ok (.aload_n 0, 1) := by decide +kernel
theorem dX5_takes_1 : decode cX5_takes 1 = .ok (.getfield 138, 3) := by decide +kernel
theorem dX5_takes_4 : decode cX5_takes 4 = .ok (.bipush 119, 2) := by decide +kernel
theorem dX5_takes_6 : decode cX5_takes 6 = .ok (.if_icmp .ne 11, 3) := by decide +kernel
theorem dX5_takes_9 : decode cX5_takes 9 = .ok (.aload_n 0, 1) := by decide +kernel
theorem dX5_takes_10 : decode cX5_takes 10 = .ok (.getfield 129, 3) := by decide +kernel
theorem dX5_takes_13 : decode cX5_takes 13 = .ok (.iload_n 1, 1) := by decide +kernel
theorem dX5_takes_14 : decode cX5_takes 14 = .ok (.if_icmp .eq 5, 3) := by decide +kernel
theorem dX5_takes_17 : decode cX5_takes 17 = .ok (.iconst 0, 1) := by decide +kernel
theorem dX5_takes_18 : decode cX5_takes 18 = .ok (.ireturn, 1) := by decide +kernel
theorem dX5_takes_19 : decode cX5_takes 19 = .ok (.aload_n 0, 1) := by decide +kernel
theorem dX5_takes_20 : decode cX5_takes 20 = .ok (.invokevirtual 161, 3) := by decide +kernel
theorem dX5_takes_23 : decode cX5_takes 23 = .ok (.iconst 1, 1) := by decide +kernel
theorem dX5_takes_24 : decode cX5_takes 24 = .ok (.ireturn, 1) := by decide +kernel
theorem dX5_codes_0 : decode cX5_codes 0 = .ok (.aload_n 0, 1) := by decide +kernel
theorem dX5_codes_1 : decode cX5_codes 1 = .ok (.getfield 32, 3) := by decide +kernel
theorem dX5_codes_4 : decode cX5_codes 4 = .ok (.aload_n 0, 1) := by decide +kernel
theorem dX5_codes_5 : decode cX5_codes 5 = .ok (.dup, 1) := by decide +kernel
theorem dX5_codes_6 : decode cX5_codes 6 = .ok (.getfield 164, 3) := by decide +kernel
theorem dX5_codes_9 : decode cX5_codes 9 = .ok (.dup_x1, 1) := by decide +kernel
theorem dX5_codes_10 : decode cX5_codes 10 = .ok (.iconst 1, 1) := by decide +kernel
theorem dX5_codes_11 : decode cX5_codes 11 = .ok (.iadd, 1) := by decide +kernel
theorem dX5_codes_12 : decode cX5_codes 12 = .ok (.putfield 164, 3) := by decide +kernel
theorem dX5_codes_15 : decode cX5_codes 15 = .ok (.iload_n 1, 1) := by decide +kernel
theorem dX5_codes_16 : decode cX5_codes 16 = .ok (.iastore, 1) := by decide +kernel
theorem dX5_codes_17 : decode cX5_codes 17 = .ok (.return_, 1) := by decide +kernel
theorem dX5_rank_0 : decode cX5_rank 0 = .ok (.iload_n 0, 1) := by decide +kernel
theorem dX5_rank_1 : decode cX5_rank 1 = .ok (.tableswitch 67 6 14 #[59, 59, 61, 57, 57, 53, 51, 55, 64], 51) := by decide +kernel
theorem dX5_rank_52 : decode cX5_rank 52 = .ok (.iconst 1, 1) := by decide +kernel
theorem dX5_rank_53 : decode cX5_rank 53 = .ok (.ireturn, 1) := by decide +kernel
theorem dX5_rank_54 : decode cX5_rank 54 = .ok (.iconst 2, 1) := by decide +kernel
theorem dX5_rank_55 : decode cX5_rank 55 = .ok (.ireturn, 1) := by decide +kernel
theorem dX5_rank_56 : decode cX5_rank 56 = .ok (.iconst 3, 1) := by decide +kernel
theorem dX5_rank_57 : decode cX5_rank 57 = .ok (.ireturn, 1) := by decide +kernel
theorem dX5_rank_58 : decode cX5_rank 58 = .ok (.iconst 4, 1) := by decide +kernel
theorem dX5_rank_59 : decode cX5_rank 59 = .ok (.ireturn, 1) := by decide +kernel
theorem dX5_rank_60 : decode cX5_rank 60 = .ok (.iconst 5, 1) := by decide +kernel
theorem dX5_rank_61 : decode cX5_rank 61 = .ok (.ireturn, 1) := by decide +kernel
theorem dX5_rank_62 : decode cX5_rank 62 = .ok (.bipush 6, 2) := by decide +kernel
theorem dX5_rank_64 : decode cX5_rank 64 = .ok (.ireturn, 1) := by decide +kernel
theorem dX5_rank_65 : decode cX5_rank 65 = .ok (.bipush 7, 2) := by decide +kernel
theorem dX5_rank_67 : decode cX5_rank 67 = .ok (.ireturn, 1) := by decide +kernel
theorem dX5_rank_68 : decode cX5_rank 68 = .ok (.iconst 0, 1) := by decide +kernel
theorem dX5_rank_69 : decode cX5_rank 69 = .ok (.ireturn, 1) := by decide +kernel
theorem dX5_lays_0 : decode cX5_lays 0 = .ok (.aload_n 0, 1) := by decide +kernel
theorem dX5_lays_1 : decode cX5_lays 1 = .ok (.getfield 167, 3) := by decide +kernel
theorem dX5_lays_4 : decode cX5_lays 4 = .ok (.ifCond .le 85, 3) := by decide +kernel
theorem dX5_lays_7 : decode cX5_lays 7 = .ok (.aload_n 0, 1) := by decide +kernel
theorem dX5_lays_8 : decode cX5_lays 8 = .ok (.getfield 35, 3) := by decide +kernel
theorem dX5_lays_11 : decode cX5_lays 11 = .ok (.aload_n 0, 1) := by decide +kernel
theorem dX5_lays_12 : decode cX5_lays 12 = .ok (.getfield 167, 3) := by decide +kernel
theorem dX5_lays_15 : decode cX5_lays 15 = .ok (.iconst 1, 1) := by decide +kernel
theorem dX5_lays_16 : decode cX5_lays 16 = .ok (.isub, 1) := by decide +kernel
theorem dX5_lays_17 : decode cX5_lays 17 = .ok (.iaload, 1) := by decide +kernel
theorem dX5_lays_18 : decode cX5_lays 18 = .ok (.invokestatic 170, 3) := by decide +kernel
theorem dX5_lays_21 : decode cX5_lays 21 = .ok (.iload_n 1, 1) := by decide +kernel
theorem dX5_lays_22 : decode cX5_lays 22 = .ok (.if_icmp .lt 67, 3) := by decide +kernel
theorem dX5_lays_25 : decode cX5_lays 25 = .ok (.aload_n 0, 1) := by decide +kernel
theorem dX5_lays_26 : decode cX5_lays 26 = .ok (.dup, 1) := by decide +kernel
theorem dX5_lays_27 : decode cX5_lays 27 = .ok (.getfield 167, 3) := by decide +kernel
theorem dX5_lays_30 : decode cX5_lays 30 = .ok (.iconst 1, 1) := by decide +kernel
theorem dX5_lays_31 : decode cX5_lays 31 = .ok (.isub, 1) := by decide +kernel
theorem dX5_lays_32 : decode cX5_lays 32 = .ok (.putfield 167, 3) := by decide +kernel
theorem dX5_lays_35 : decode cX5_lays 35 = .ok (.aload_n 0, 1) := by decide +kernel
theorem dX5_lays_36 : decode cX5_lays 36 = .ok (.aload_n 0, 1) := by decide +kernel
theorem dX5_lays_37 : decode cX5_lays 37 = .ok (.getfield 35, 3) := by decide +kernel
theorem dX5_lays_40 : decode cX5_lays 40 = .ok (.aload_n 0, 1) := by decide +kernel
theorem dX5_lays_41 : decode cX5_lays 41 = .ok (.getfield 167, 3) := by decide +kernel
theorem dX5_lays_44 : decode cX5_lays 44 = .ok (.iaload, 1) := by decide +kernel
theorem dX5_lays_45 : decode cX5_lays 45 = .ok (.invokevirtual 72, 3) := by decide +kernel
theorem dX5_lays_48 : decode cX5_lays 48 = .ok (.aload_n 0, 1) := by decide +kernel
theorem dX5_lays_49 : decode cX5_lays 49 = .ok (.getfield 35, 3) := by decide +kernel
theorem dX5_lays_52 : decode cX5_lays 52 = .ok (.aload_n 0, 1) := by decide +kernel
theorem dX5_lays_53 : decode cX5_lays 53 = .ok (.getfield 167, 3) := by decide +kernel
theorem dX5_lays_56 : decode cX5_lays 56 = .ok (.iaload, 1) := by decide +kernel
theorem dX5_lays_57 : decode cX5_lays 57 = .ok (.bipush 13, 2) := by decide +kernel
theorem dX5_lays_59 : decode cX5_lays 59 = .ok (.if_icmp .eq 17, 3) := by decide +kernel
theorem dX5_lays_62 : decode cX5_lays 62 = .ok (.aload_n 0, 1) := by decide +kernel
theorem dX5_lays_63 : decode cX5_lays 63 = .ok (.getfield 35, 3) := by decide +kernel
theorem dX5_lays_66 : decode cX5_lays 66 = .ok (.aload_n 0, 1) := by decide +kernel
theorem dX5_lays_67 : decode cX5_lays 67 = .ok (.getfield 167, 3) := by decide +kernel
theorem dX5_lays_70 : decode cX5_lays 70 = .ok (.iaload, 1) := by decide +kernel
theorem dX5_lays_71 : decode cX5_lays 71 = .ok (.bipush 14, 2) := by decide +kernel
theorem dX5_lays_73 : decode cX5_lays 73 = .ok (.if_icmp .ne (-73), 3) := by decide +kernel
theorem dX5_lays_76 : decode cX5_lays 76 = .ok (.aload_n 0, 1) := by decide +kernel
theorem dX5_lays_77 : decode cX5_lays 77 = .ok (.dup, 1) := by decide +kernel
theorem dX5_lays_78 : decode cX5_lays 78 = .ok (.getfield 173, 3) := by decide +kernel
theorem dX5_lays_81 : decode cX5_lays 81 = .ok (.iconst 1, 1) := by decide +kernel
theorem dX5_lays_82 : decode cX5_lays 82 = .ok (.isub, 1) := by decide +kernel
theorem dX5_lays_83 : decode cX5_lays 83 = .ok (.putfield 173, 3) := by decide +kernel
theorem dX5_lays_86 : decode cX5_lays 86 = .ok (.goto (-86), 3) := by decide +kernel
theorem dX5_lays_89 : decode cX5_lays 89 = .ok (.return_, 1) := by decide +kernel
theorem dX5_push_0 : decode cX5_push 0 = .ok (.aload_n 0, 1) := by decide +kernel
theorem dX5_push_1 : decode cX5_push 1 = .ok (.getfield 35, 3) := by decide +kernel
theorem dX5_push_4 : decode cX5_push 4 = .ok (.aload_n 0, 1) := by decide +kernel
theorem dX5_push_5 : decode cX5_push 5 = .ok (.dup, 1) := by decide +kernel
theorem dX5_push_6 : decode cX5_push 6 = .ok (.getfield 167, 3) := by decide +kernel
theorem dX5_push_9 : decode cX5_push 9 = .ok (.dup_x1, 1) := by decide +kernel
theorem dX5_push_10 : decode cX5_push 10 = .ok (.iconst 1, 1) := by decide +kernel
theorem dX5_push_11 : decode cX5_push 11 = .ok (.iadd, 1) := by decide +kernel
theorem dX5_push_12 : decode cX5_push 12 = .ok (.putfield 167, 3) := by decide +kernel
theorem dX5_push_15 : decode cX5_push 15 = .ok (.iload_n 1, 1) := by decide +kernel
theorem dX5_push_16 : decode cX5_push 16 = .ok (.iastore, 1) := by decide +kernel
theorem dX5_push_17 : decode cX5_push 17 = .ok (.iload_n 1, 1) := by decide +kernel
theorem dX5_push_18 : decode cX5_push 18 = .ok (.bipush 13, 2) := by decide +kernel
theorem dX5_push_20 : decode cX5_push 20 = .ok (.if_icmp .eq 16, 3) := by decide +kernel
theorem dX5_push_23 : decode cX5_push 23 = .ok (.iload_n 1, 1) := by decide +kernel
theorem dX5_push_24 : decode cX5_push 24 = .ok (.bipush 14, 2) := by decide +kernel
theorem dX5_push_26 : decode cX5_push 26 = .ok (.if_icmp .eq 10, 3) := by decide +kernel
theorem dX5_push_29 : decode cX5_push 29 = .ok (.iload_n 1, 1) := by decide +kernel
theorem dX5_push_30 : decode cX5_push 30 = .ok (.invokestatic 170, 3) := by decide +kernel
theorem dX5_push_33 : decode cX5_push 33 = .ok (.ifCond .ne 13, 3) := by decide +kernel
theorem dX5_push_36 : decode cX5_push 36 = .ok (.aload_n 0, 1) := by decide +kernel
theorem dX5_push_37 : decode cX5_push 37 = .ok (.dup, 1) := by decide +kernel
theorem dX5_push_38 : decode cX5_push 38 = .ok (.getfield 173, 3) := by decide +kernel
theorem dX5_push_41 : decode cX5_push 41 = .ok (.iconst 1, 1) := by decide +kernel
theorem dX5_push_42 : decode cX5_push 42 = .ok (.iadd, 1) := by decide +kernel
theorem dX5_push_43 : decode cX5_push 43 = .ok (.putfield 173, 3) := by decide +kernel
theorem dX5_push_46 : decode cX5_push 46 = .ok (.return_, 1) := by decide +kernel
theorem dX5_one_0 : decode cX5_one 0 = .ok (.aload_n 0, 1) := by decide +kernel
theorem dX5_one_1 : decode cX5_one 1 = .ok (.getfield 138, 3) := by decide +kernel
theorem dX5_one_4 : decode cX5_one 4 = .ok (.bipush 119, 2) := by decide +kernel
theorem dX5_one_6 : decode cX5_one 6 = .ok (.if_icmp .ne 10, 3) := by decide +kernel
theorem dX5_one_9 : decode cX5_one 9 = .ok (.aload_n 0, 1) := by decide +kernel
theorem dX5_one_10 : decode cX5_one 10 = .ok (.invokevirtual 144, 3) := by decide +kernel
theorem dX5_one_13 : decode cX5_one 13 = .ok (.goto 4, 3) := by decide +kernel
theorem dX5_one_16 : decode cX5_one 16 = .ok (.iconst (-1), 1) := by decide +kernel
theorem dX5_one_17 : decode cX5_one 17 = .ok (.istore_n 2, 1) := by decide +kernel
theorem dX5_one_18 : decode cX5_one 18 = .ok (.aload_n 0, 1) := by decide +kernel
theorem dX5_one_19 : decode cX5_one 19 = .ok (.getfield 138, 3) := by decide +kernel
theorem dX5_one_22 : decode cX5_one 22 = .ok (.bipush 48, 2) := by decide +kernel
theorem dX5_one_24 : decode cX5_one 24 = .ok (.if_icmp .eq 8, 3) := by decide +kernel
theorem dX5_one_27 : decode cX5_one 27 = .ok (.iload_n 2, 1) := by decide +kernel
theorem dX5_one_28 : decode cX5_one 28 = .ok (.iconst (-1), 1) := by decide +kernel
theorem dX5_one_29 : decode cX5_one 29 = .ok (.if_icmp .eq 36, 3) := by decide +kernel
theorem dX5_one_32 : decode cX5_one 32 = .ok (.aload_n 0, 1) := by decide +kernel
theorem dX5_one_33 : decode cX5_one 33 = .ok (.iload_n 2, 1) := by decide +kernel
theorem dX5_one_34 : decode cX5_one 34 = .ok (.iconst (-1), 1) := by decide +kernel
theorem dX5_one_35 : decode cX5_one 35 = .ok (.if_icmp .ne 13, 3) := by decide +kernel
theorem dX5_one_38 : decode cX5_one 38 = .ok (.bipush 15, 2) := by decide +kernel
theorem dX5_one_40 : decode cX5_one 40 = .ok (.aload_n 0, 1) := by decide +kernel
theorem dX5_one_41 : decode cX5_one 41 = .ok (.getfield 155, 3) := by decide +kernel
theorem dX5_one_44 : decode cX5_one 44 = .ok (.iadd, 1) := by decide +kernel
theorem dX5_one_45 : decode cX5_one 45 = .ok (.goto 4, 3) := by decide +kernel
theorem dX5_one_48 : decode cX5_one 48 = .ok (.iload_n 2, 1) := by decide +kernel
theorem dX5_one_49 : decode cX5_one 49 = .ok (.invokevirtual 72, 3) := by decide +kernel
theorem dX5_one_52 : decode cX5_one 52 = .ok (.aload_n 0, 1) := by decide +kernel
theorem dX5_one_53 : decode cX5_one 53 = .ok (.bipush 7, 2) := by decide +kernel
theorem dX5_one_55 : decode cX5_one 55 = .ok (.invokevirtual 176, 3) := by decide +kernel
theorem dX5_one_58 : decode cX5_one 58 = .ok (.aload_n 0, 1) := by decide +kernel
theorem dX5_one_59 : decode cX5_one 59 = .ok (.iconst 1, 1) := by decide +kernel
theorem dX5_one_60 : decode cX5_one 60 = .ok (.putfield 179, 3) := by decide +kernel
theorem dX5_one_63 : decode cX5_one 63 = .ok (.iconst 1, 1) := by decide +kernel
theorem dX5_one_64 : decode cX5_one 64 = .ok (.ireturn, 1) := by decide +kernel
theorem dX5_one_65 : decode cX5_one 65 = .ok (.iload_n 1, 1) := by decide +kernel
theorem dX5_one_66 : decode cX5_one 66 = .ok (.ifCond .eq 26, 3) := by decide +kernel
theorem dX5_one_69 : decode cX5_one 69 = .ok (.aload_n 0, 1) := by decide +kernel
theorem dX5_one_70 : decode cX5_one 70 = .ok (.getfield 138, 3) := by decide +kernel
theorem dX5_one_73 : decode cX5_one 73 = .ok (.bipush 119, 2) := by decide +kernel
theorem dX5_one_75 : decode cX5_one 75 = .ok (.if_icmp .ne 17, 3) := by decide +kernel
theorem dX5_one_78 : decode cX5_one 78 = .ok (.aload_n 0, 1) := by decide +kernel
theorem dX5_one_79 : decode cX5_one 79 = .ok (.getfield 129, 3) := by decide +kernel
theorem dX5_one_82 : decode cX5_one 82 = .ok (.sipush 10631, 3) := by decide +kernel
theorem dX5_one_85 : decode cX5_one 85 = .ok (.if_icmp .ne 7, 3) := by decide +kernel
theorem dX5_one_88 : decode cX5_one 88 = .ok (.iconst 1, 1) := by decide +kernel
theorem dX5_one_89 : decode cX5_one 89 = .ok (.goto 4, 3) := by decide +kernel
theorem dX5_one_92 : decode cX5_one 92 = .ok (.iconst 0, 1) := by decide +kernel
theorem dX5_one_93 : decode cX5_one 93 = .ok (.istore_n 3, 1) := by decide +kernel
theorem dX5_one_94 : decode cX5_one 94 = .ok (.iload_n 3, 1) := by decide +kernel
theorem dX5_one_95 : decode cX5_one 95 = .ok (.ifCond .ne 21, 3) := by decide +kernel
theorem dX5_one_98 : decode cX5_one 98 = .ok (.aload_n 0, 1) := by decide +kernel
theorem dX5_one_99 : decode cX5_one 99 = .ok (.getfield 138, 3) := by decide +kernel
theorem dX5_one_102 : decode cX5_one 102 = .ok (.bipush 45, 2) := by decide +kernel
theorem dX5_one_104 : decode cX5_one 104 = .ok (.if_icmp .eq 12, 3) := by decide +kernel
theorem dX5_one_107 : decode cX5_one 107 = .ok (.aload_n 0, 1) := by decide +kernel
theorem dX5_one_108 : decode cX5_one 108 = .ok (.getfield 138, 3) := by decide +kernel
theorem dX5_one_111 : decode cX5_one 111 = .ok (.bipush 40, 2) := by decide +kernel
theorem dX5_one_113 : decode cX5_one 113 = .ok (.if_icmp .ne 11, 3) := by decide +kernel
theorem dX5_one_116 : decode cX5_one 116 = .ok (.aload_n 0, 1) := by decide +kernel
theorem dX5_one_117 : decode cX5_one 117 = .ok (.getfield 173, 3) := by decide +kernel
theorem dX5_one_120 : decode cX5_one 120 = .ok (.iconst 5, 1) := by decide +kernel
theorem dX5_one_121 : decode cX5_one 121 = .ok (.if_icmp .ne 5, 3) := by decide +kernel
theorem dX5_one_124 : decode cX5_one 124 = .ok (.iconst 0, 1) := by decide +kernel
theorem dX5_one_125 : decode cX5_one 125 = .ok (.ireturn, 1) := by decide +kernel
theorem dX5_one_126 : decode cX5_one 126 = .ok (.aload_n 0, 1) := by decide +kernel
theorem dX5_one_127 : decode cX5_one 127 = .ok (.getfield 138, 3) := by decide +kernel
theorem dX5_one_130 : decode cX5_one 130 = .ok (.bipush 40, 2) := by decide +kernel
theorem dX5_one_132 : decode cX5_one 132 = .ok (.if_icmp .ne 28, 3) := by decide +kernel
theorem dX5_one_135 : decode cX5_one 135 = .ok (.aload_n 0, 1) := by decide +kernel
theorem dX5_one_136 : decode cX5_one 136 = .ok (.aload_n 0, 1) := by decide +kernel
theorem dX5_one_137 : decode cX5_one 137 = .ok (.getfield 183, 3) := by decide +kernel
theorem dX5_one_140 : decode cX5_one 140 = .ok (.ifCond .eq 8, 3) := by decide +kernel
theorem dX5_one_143 : decode cX5_one 143 = .ok (.bipush (-2), 2) := by decide +kernel
theorem dX5_one_145 : decode cX5_one 145 = .ok (.goto 4, 3) := by decide +kernel
theorem dX5_one_148 : decode cX5_one 148 = .ok (.iconst (-1), 1) := by decide +kernel
theorem dX5_one_149 : decode cX5_one 149 = .ok (.invokevirtual 186, 3) := by decide +kernel
theorem dX5_one_152 : decode cX5_one 152 = .ok (.aload_n 0, 1) := by decide +kernel
theorem dX5_one_153 : decode cX5_one 153 = .ok (.iconst 0, 1) := by decide +kernel
theorem dX5_one_154 : decode cX5_one 154 = .ok (.putfield 183, 3) := by decide +kernel
theorem dX5_one_157 : decode cX5_one 157 = .ok (.goto 18, 3) := by decide +kernel
theorem dX5_one_160 : decode cX5_one 160 = .ok (.aload_n 0, 1) := by decide +kernel
theorem dX5_one_161 : decode cX5_one 161 = .ok (.iload_n 3, 1) := by decide +kernel
theorem dX5_one_162 : decode cX5_one 162 = .ok (.ifCond .eq 8, 3) := by decide +kernel
theorem dX5_one_165 : decode cX5_one 165 = .ok (.bipush 13, 2) := by decide +kernel
theorem dX5_one_167 : decode cX5_one 167 = .ok (.goto 5, 3) := by decide +kernel
theorem dX5_one_170 : decode cX5_one 170 = .ok (.bipush 14, 2) := by decide +kernel
theorem dX5_one_172 : decode cX5_one 172 = .ok (.invokevirtual 186, 3) := by decide +kernel
theorem dX5_one_175 : decode cX5_one 175 = .ok (.aload_n 0, 1) := by decide +kernel
theorem dX5_one_176 : decode cX5_one 176 = .ok (.aload_n 0, 1) := by decide +kernel
theorem dX5_one_177 : decode cX5_one 177 = .ok (.getfield 138, 3) := by decide +kernel
theorem dX5_one_180 : decode cX5_one 180 = .ok (.bipush 45, 2) := by decide +kernel
theorem dX5_one_182 : decode cX5_one 182 = .ok (.if_icmp .eq 7, 3) := by decide +kernel
theorem dX5_one_185 : decode cX5_one 185 = .ok (.iconst 1, 1) := by decide +kernel
theorem dX5_one_186 : decode cX5_one 186 = .ok (.goto 4, 3) := by decide +kernel
theorem dX5_one_189 : decode cX5_one 189 = .ok (.iconst 0, 1) := by decide +kernel
theorem dX5_one_190 : decode cX5_one 190 = .ok (.putfield 189, 3) := by decide +kernel
theorem dX5_one_193 : decode cX5_one 193 = .ok (.iconst 1, 1) := by decide +kernel
theorem dX5_one_194 : decode cX5_one 194 = .ok (.ireturn, 1) := by decide +kernel
theorem dX5_signed_0 : decode cX5_signed 0 = .ok (.aload_n 0, 1) := by decide +kernel
theorem dX5_signed_1 : decode cX5_signed 1 = .ok (.getfield 138, 3) := by decide +kernel
theorem dX5_signed_4 : decode cX5_signed 4 = .ok (.lookupswitch 129 #[(42, 60), (43, 63), (45, 66), (60, 69), (61, 83), (119, 97)], 60) := by decide +kernel
theorem dX5_signed_64 : decode cX5_signed 64 = .ok (.bipush 8, 2) := by decide +kernel
theorem dX5_signed_66 : decode cX5_signed 66 = .ok (.ireturn, 1) := by decide +kernel
theorem dX5_signed_67 : decode cX5_signed 67 = .ok (.bipush 6, 2) := by decide +kernel
theorem dX5_signed_69 : decode cX5_signed 69 = .ok (.ireturn, 1) := by decide +kernel
theorem dX5_signed_70 : decode cX5_signed 70 = .ok (.bipush 7, 2) := by decide +kernel
theorem dX5_signed_72 : decode cX5_signed 72 = .ok (.ireturn, 1) := by decide +kernel
theorem dX5_signed_73 : decode cX5_signed 73 = .ok (.aload_n 0, 1) := by decide +kernel
theorem dX5_signed_74 : decode cX5_signed 74 = .ok (.getfield 183, 3) := by decide +kernel
theorem dX5_signed_77 : decode cX5_signed 77 = .ok (.ifCond .eq 7, 3) := by decide +kernel
theorem dX5_signed_80 : decode cX5_signed 80 = .ok (.iconst (-1), 1) := by decide +kernel
theorem dX5_signed_81 : decode cX5_signed 81 = .ok (.goto 5, 3) := by decide +kernel
theorem dX5_signed_84 : decode cX5_signed 84 = .ok (.bipush 9, 2) := by decide +kernel
theorem dX5_signed_86 : decode cX5_signed 86 = .ok (.ireturn, 1) := by decide +kernel
theorem dX5_signed_87 : decode cX5_signed 87 = .ok (.aload_n 0, 1) := by decide +kernel
theorem dX5_signed_88 : decode cX5_signed 88 = .ok (.getfield 183, 3) := by decide +kernel
theorem dX5_signed_91 : decode cX5_signed 91 = .ok (.ifCond .eq 7, 3) := by decide +kernel
theorem dX5_signed_94 : decode cX5_signed 94 = .ok (.iconst (-1), 1) := by decide +kernel
theorem dX5_signed_95 : decode cX5_signed 95 = .ok (.goto 5, 3) := by decide +kernel
theorem dX5_signed_98 : decode cX5_signed 98 = .ok (.bipush 10, 2) := by decide +kernel
theorem dX5_signed_100 : decode cX5_signed 100 = .ok (.ireturn, 1) := by decide +kernel
theorem dX5_signed_101 : decode cX5_signed 101 = .ok (.aload_n 0, 1) := by decide +kernel
theorem dX5_signed_102 : decode cX5_signed 102 = .ok (.getfield 129, 3) := by decide +kernel
theorem dX5_signed_105 : decode cX5_signed 105 = .ok (.sipush 1111, 3) := by decide +kernel
theorem dX5_signed_108 : decode cX5_signed 108 = .ok (.if_icmp .ne 8, 3) := by decide +kernel
theorem dX5_signed_111 : decode cX5_signed 111 = .ok (.bipush 11, 2) := by decide +kernel
theorem dX5_signed_113 : decode cX5_signed 113 = .ok (.goto 19, 3) := by decide +kernel
theorem dX5_signed_116 : decode cX5_signed 116 = .ok (.aload_n 0, 1) := by decide +kernel
theorem dX5_signed_117 : decode cX5_signed 117 = .ok (.getfield 129, 3) := by decide +kernel
theorem dX5_signed_120 : decode cX5_signed 120 = .ok (.sipush 423, 3) := by decide +kernel
theorem dX5_signed_123 : decode cX5_signed 123 = .ok (.if_icmp .ne 8, 3) := by decide +kernel
theorem dX5_signed_126 : decode cX5_signed 126 = .ok (.bipush 12, 2) := by decide +kernel
theorem dX5_signed_128 : decode cX5_signed 128 = .ok (.goto 4, 3) := by decide +kernel
theorem dX5_signed_131 : decode cX5_signed 131 = .ok (.iconst (-1), 1) := by decide +kernel
theorem dX5_signed_132 : decode cX5_signed 132 = .ok (.ireturn, 1) := by decide +kernel
theorem dX5_signed_133 : decode cX5_signed 133 = .ok (.iconst (-1), 1) := by decide +kernel
theorem dX5_signed_134 : decode cX5_signed 134 = .ok (.ireturn, 1) := by decide +kernel
theorem dX5_closes_0 : decode cX5_closes 0 = .ok (.aload_n 0, 1) := by decide +kernel
theorem dX5_closes_1 : decode cX5_closes 1 = .ok (.iconst 1, 1) := by decide +kernel
theorem dX5_closes_2 : decode cX5_closes 2 = .ok (.invokevirtual 176, 3) := by decide +kernel
theorem dX5_closes_5 : decode cX5_closes 5 = .ok (.aload_n 0, 1) := by decide +kernel
theorem dX5_closes_6 : decode cX5_closes 6 = .ok (.getfield 167, 3) := by decide +kernel
theorem dX5_closes_9 : decode cX5_closes 9 = .ok (.ifCond .ne 5, 3) := by decide +kernel
theorem dX5_closes_12 : decode cX5_closes 12 = .ok (.iconst 0, 1) := by decide +kernel
theorem dX5_closes_13 : decode cX5_closes 13 = .ok (.ireturn, 1) := by decide +kernel
theorem dX5_closes_14 : decode cX5_closes 14 = .ok (.aload_n 0, 1) := by decide +kernel
theorem dX5_closes_15 : decode cX5_closes 15 = .ok (.dup, 1) := by decide +kernel
theorem dX5_closes_16 : decode cX5_closes 16 = .ok (.getfield 167, 3) := by decide +kernel
theorem dX5_closes_19 : decode cX5_closes 19 = .ok (.iconst 1, 1) := by decide +kernel
theorem dX5_closes_20 : decode cX5_closes 20 = .ok (.isub, 1) := by decide +kernel
theorem dX5_closes_21 : decode cX5_closes 21 = .ok (.putfield 167, 3) := by decide +kernel
theorem dX5_closes_24 : decode cX5_closes 24 = .ok (.aload_n 0, 1) := by decide +kernel
theorem dX5_closes_25 : decode cX5_closes 25 = .ok (.aload_n 0, 1) := by decide +kernel
theorem dX5_closes_26 : decode cX5_closes 26 = .ok (.getfield 35, 3) := by decide +kernel
theorem dX5_closes_29 : decode cX5_closes 29 = .ok (.aload_n 0, 1) := by decide +kernel
theorem dX5_closes_30 : decode cX5_closes 30 = .ok (.getfield 167, 3) := by decide +kernel
theorem dX5_closes_33 : decode cX5_closes 33 = .ok (.iaload, 1) := by decide +kernel
theorem dX5_closes_34 : decode cX5_closes 34 = .ok (.bipush (-2), 2) := by decide +kernel
theorem dX5_closes_36 : decode cX5_closes 36 = .ok (.if_icmp .ne 7, 3) := by decide +kernel
theorem dX5_closes_39 : decode cX5_closes 39 = .ok (.iconst 1, 1) := by decide +kernel
theorem dX5_closes_40 : decode cX5_closes 40 = .ok (.goto 4, 3) := by decide +kernel
theorem dX5_closes_43 : decode cX5_closes 43 = .ok (.iconst 0, 1) := by decide +kernel
theorem dX5_closes_44 : decode cX5_closes 44 = .ok (.putfield 183, 3) := by decide +kernel
theorem dX5_closes_47 : decode cX5_closes 47 = .ok (.aload_n 0, 1) := by decide +kernel
theorem dX5_closes_48 : decode cX5_closes 48 = .ok (.dup, 1) := by decide +kernel
theorem dX5_closes_49 : decode cX5_closes 49 = .ok (.getfield 173, 3) := by decide +kernel
theorem dX5_closes_52 : decode cX5_closes 52 = .ok (.iconst 1, 1) := by decide +kernel
theorem dX5_closes_53 : decode cX5_closes 53 = .ok (.isub, 1) := by decide +kernel
theorem dX5_closes_54 : decode cX5_closes 54 = .ok (.putfield 173, 3) := by decide +kernel
theorem dX5_closes_57 : decode cX5_closes 57 = .ok (.aload_n 0, 1) := by decide +kernel
theorem dX5_closes_58 : decode cX5_closes 58 = .ok (.bipush 7, 2) := by decide +kernel
theorem dX5_closes_60 : decode cX5_closes 60 = .ok (.invokevirtual 176, 3) := by decide +kernel
theorem dX5_closes_63 : decode cX5_closes 63 = .ok (.iconst 1, 1) := by decide +kernel
theorem dX5_closes_64 : decode cX5_closes 64 = .ok (.ireturn, 1) := by decide +kernel
theorem dX5_goesOn_0 : decode cX5_goesOn 0 = .ok (.aload_n 0, 1) := by decide +kernel
theorem dX5_goesOn_1 : decode cX5_goesOn 1 = .ok (.getfield 179, 3) := by decide +kernel
theorem dX5_goesOn_4 : decode cX5_goesOn 4 = .ok (.ifCond .ne 12, 3) := by decide +kernel
theorem dX5_goesOn_7 : decode cX5_goesOn 7 = .ok (.aload_n 0, 1) := by decide +kernel
theorem dX5_goesOn_8 : decode cX5_goesOn 8 = .ok (.aload_n 0, 1) := by decide +kernel
theorem dX5_goesOn_9 : decode cX5_goesOn 9 = .ok (.getfield 189, 3) := by decide +kernel
theorem dX5_goesOn_12 : decode cX5_goesOn 12 = .ok (.invokevirtual 192, 3) := by decide +kernel
theorem dX5_goesOn_15 : decode cX5_goesOn 15 = .ok (.ireturn, 1) := by decide +kernel
theorem dX5_goesOn_16 : decode cX5_goesOn 16 = .ok (.aload_n 0, 1) := by decide +kernel
theorem dX5_goesOn_17 : decode cX5_goesOn 17 = .ok (.getfield 138, 3) := by decide +kernel
theorem dX5_goesOn_20 : decode cX5_goesOn 20 = .ok (.bipush 41, 2) := by decide +kernel
theorem dX5_goesOn_22 : decode cX5_goesOn 22 = .ok (.if_icmp .ne 8, 3) := by decide +kernel
theorem dX5_goesOn_25 : decode cX5_goesOn 25 = .ok (.aload_n 0, 1) := by decide +kernel
theorem dX5_goesOn_26 : decode cX5_goesOn 26 = .ok (.invokevirtual 196, 3) := by decide +kernel
theorem dX5_goesOn_29 : decode cX5_goesOn 29 = .ok (.ireturn, 1) := by decide +kernel
theorem dX5_goesOn_30 : decode cX5_goesOn 30 = .ok (.aload_n 0, 1) := by decide +kernel
theorem dX5_goesOn_31 : decode cX5_goesOn 31 = .ok (.invokevirtual 199, 3) := by decide +kernel
theorem dX5_goesOn_34 : decode cX5_goesOn 34 = .ok (.istore_n 1, 1) := by decide +kernel
theorem dX5_goesOn_35 : decode cX5_goesOn 35 = .ok (.iload_n 1, 1) := by decide +kernel
theorem dX5_goesOn_36 : decode cX5_goesOn 36 = .ok (.iconst (-1), 1) := by decide +kernel
theorem dX5_goesOn_37 : decode cX5_goesOn 37 = .ok (.if_icmp .ne 5, 3) := by decide +kernel
theorem dX5_goesOn_40 : decode cX5_goesOn 40 = .ok (.iconst 0, 1) := by decide +kernel
theorem dX5_goesOn_41 : decode cX5_goesOn 41 = .ok (.ireturn, 1) := by decide +kernel
theorem dX5_goesOn_42 : decode cX5_goesOn 42 = .ok (.aload_n 0, 1) := by decide +kernel
theorem dX5_goesOn_43 : decode cX5_goesOn 43 = .ok (.iload_n 1, 1) := by decide +kernel
theorem dX5_goesOn_44 : decode cX5_goesOn 44 = .ok (.invokestatic 170, 3) := by decide +kernel
theorem dX5_goesOn_47 : decode cX5_goesOn 47 = .ok (.invokevirtual 176, 3) := by decide +kernel
theorem dX5_goesOn_50 : decode cX5_goesOn 50 = .ok (.aload_n 0, 1) := by decide +kernel
theorem dX5_goesOn_51 : decode cX5_goesOn 51 = .ok (.iload_n 1, 1) := by decide +kernel
theorem dX5_goesOn_52 : decode cX5_goesOn 52 = .ok (.invokevirtual 186, 3) := by decide +kernel
theorem dX5_goesOn_55 : decode cX5_goesOn 55 = .ok (.aload_n 0, 1) := by decide +kernel
theorem dX5_goesOn_56 : decode cX5_goesOn 56 = .ok (.iconst 0, 1) := by decide +kernel
theorem dX5_goesOn_57 : decode cX5_goesOn 57 = .ok (.putfield 179, 3) := by decide +kernel
theorem dX5_goesOn_60 : decode cX5_goesOn 60 = .ok (.aload_n 0, 1) := by decide +kernel
theorem dX5_goesOn_61 : decode cX5_goesOn 61 = .ok (.iload_n 1, 1) := by decide +kernel
theorem dX5_goesOn_62 : decode cX5_goesOn 62 = .ok (.invokestatic 170, 3) := by decide +kernel
theorem dX5_goesOn_65 : decode cX5_goesOn 65 = .ok (.iconst 3, 1) := by decide +kernel
theorem dX5_goesOn_66 : decode cX5_goesOn 66 = .ok (.if_icmp .ge 7, 3) := by decide +kernel
theorem dX5_goesOn_69 : decode cX5_goesOn 69 = .ok (.iconst 1, 1) := by decide +kernel
theorem dX5_goesOn_70 : decode cX5_goesOn 70 = .ok (.goto 4, 3) := by decide +kernel
theorem dX5_goesOn_73 : decode cX5_goesOn 73 = .ok (.iconst 0, 1) := by decide +kernel
theorem dX5_goesOn_74 : decode cX5_goesOn 74 = .ok (.putfield 189, 3) := by decide +kernel
theorem dX5_goesOn_77 : decode cX5_goesOn 77 = .ok (.aload_n 0, 1) := by decide +kernel
theorem dX5_goesOn_78 : decode cX5_goesOn 78 = .ok (.getfield 189, 3) := by decide +kernel
theorem dX5_goesOn_81 : decode cX5_goesOn 81 = .ok (.ifCond .eq 11, 3) := by decide +kernel
theorem dX5_goesOn_84 : decode cX5_goesOn 84 = .ok (.aload_n 0, 1) := by decide +kernel
theorem dX5_goesOn_85 : decode cX5_goesOn 85 = .ok (.iconst 0, 1) := by decide +kernel
theorem dX5_goesOn_86 : decode cX5_goesOn 86 = .ok (.putfield 183, 3) := by decide +kernel
theorem dX5_goesOn_89 : decode cX5_goesOn 89 = .ok (.goto 16, 3) := by decide +kernel
theorem dX5_goesOn_92 : decode cX5_goesOn 92 = .ok (.iload_n 1, 1) := by decide +kernel
theorem dX5_goesOn_93 : decode cX5_goesOn 93 = .ok (.invokestatic 170, 3) := by decide +kernel
theorem dX5_goesOn_96 : decode cX5_goesOn 96 = .ok (.iconst 4, 1) := by decide +kernel
theorem dX5_goesOn_97 : decode cX5_goesOn 97 = .ok (.if_icmp .ne 8, 3) := by decide +kernel
theorem dX5_goesOn_100 : decode cX5_goesOn 100 = .ok (.aload_n 0, 1) := by decide +kernel
theorem dX5_goesOn_101 : decode cX5_goesOn 101 = .ok (.iconst 1, 1) := by decide +kernel
theorem dX5_goesOn_102 : decode cX5_goesOn 102 = .ok (.putfield 183, 3) := by decide +kernel
theorem dX5_goesOn_105 : decode cX5_goesOn 105 = .ok (.iconst 1, 1) := by decide +kernel
theorem dX5_goesOn_106 : decode cX5_goesOn 106 = .ok (.ireturn, 1) := by decide +kernel
theorem dX5_part_0 : decode cX5_part 0 = .ok (.aload_n 0, 1) := by decide +kernel
theorem dX5_part_1 : decode cX5_part 1 = .ok (.iload_n 2, 1) := by decide +kernel
theorem dX5_part_2 : decode cX5_part 2 = .ok (.invokevirtual 202, 3) := by decide +kernel
theorem dX5_part_5 : decode cX5_part 5 = .ok (.ifCond .ne 5, 3) := by decide +kernel
theorem dX5_part_8 : decode cX5_part 8 = .ok (.iconst 0, 1) := by decide +kernel
theorem dX5_part_9 : decode cX5_part 9 = .ok (.ireturn, 1) := by decide +kernel
theorem dX5_part_10 : decode cX5_part 10 = .ok (.aload_n 0, 1) := by decide +kernel
theorem dX5_part_11 : decode cX5_part 11 = .ok (.getfield 26, 3) := by decide +kernel
theorem dX5_part_14 : decode cX5_part 14 = .ok (.iload_n 1, 1) := by decide +kernel
theorem dX5_part_15 : decode cX5_part 15 = .ok (.aload_n 0, 1) := by decide +kernel
theorem dX5_part_16 : decode cX5_part 16 = .ok (.getfield 164, 3) := by decide +kernel
theorem dX5_part_19 : decode cX5_part 19 = .ok (.iastore, 1) := by decide +kernel
theorem dX5_part_20 : decode cX5_part 20 = .ok (.aload_n 0, 1) := by decide +kernel
theorem dX5_part_21 : decode cX5_part 21 = .ok (.iconst 0, 1) := by decide +kernel
theorem dX5_part_22 : decode cX5_part 22 = .ok (.putfield 167, 3) := by decide +kernel
theorem dX5_part_25 : decode cX5_part 25 = .ok (.aload_n 0, 1) := by decide +kernel
theorem dX5_part_26 : decode cX5_part 26 = .ok (.iconst 0, 1) := by decide +kernel
theorem dX5_part_27 : decode cX5_part 27 = .ok (.putfield 173, 3) := by decide +kernel
theorem dX5_part_30 : decode cX5_part 30 = .ok (.aload_n 0, 1) := by decide +kernel
theorem dX5_part_31 : decode cX5_part 31 = .ok (.iconst 0, 1) := by decide +kernel
theorem dX5_part_32 : decode cX5_part 32 = .ok (.putfield 183, 3) := by decide +kernel
theorem dX5_part_35 : decode cX5_part 35 = .ok (.aload_n 0, 1) := by decide +kernel
theorem dX5_part_36 : decode cX5_part 36 = .ok (.iconst 0, 1) := by decide +kernel
theorem dX5_part_37 : decode cX5_part 37 = .ok (.putfield 179, 3) := by decide +kernel
theorem dX5_part_40 : decode cX5_part 40 = .ok (.aload_n 0, 1) := by decide +kernel
theorem dX5_part_41 : decode cX5_part 41 = .ok (.iconst 1, 1) := by decide +kernel
theorem dX5_part_42 : decode cX5_part 42 = .ok (.putfield 189, 3) := by decide +kernel
theorem dX5_part_45 : decode cX5_part 45 = .ok (.aload_n 0, 1) := by decide +kernel
theorem dX5_part_46 : decode cX5_part 46 = .ok (.getfield 179, 3) := by decide +kernel
theorem dX5_part_49 : decode cX5_part 49 = .ok (.ifCond .eq 12, 3) := by decide +kernel
theorem dX5_part_52 : decode cX5_part 52 = .ok (.aload_n 0, 1) := by decide +kernel
theorem dX5_part_53 : decode cX5_part 53 = .ok (.getfield 138, 3) := by decide +kernel
theorem dX5_part_56 : decode cX5_part 56 = .ok (.bipush 59, 2) := by decide +kernel
theorem dX5_part_58 : decode cX5_part 58 = .ok (.if_icmp .eq 19, 3) := by decide +kernel
theorem dX5_part_61 : decode cX5_part 61 = .ok (.aload_n 0, 1) := by decide +kernel
theorem dX5_part_62 : decode cX5_part 62 = .ok (.invokevirtual 205, 3) := by decide +kernel
theorem dX5_part_65 : decode cX5_part 65 = .ok (.ifCond .ne 5, 3) := by decide +kernel
theorem dX5_part_68 : decode cX5_part 68 = .ok (.iconst 0, 1) := by decide +kernel
theorem dX5_part_69 : decode cX5_part 69 = .ok (.ireturn, 1) := by decide +kernel
theorem dX5_part_70 : decode cX5_part 70 = .ok (.aload_n 0, 1) := by decide +kernel
theorem dX5_part_71 : decode cX5_part 71 = .ok (.invokevirtual 161, 3) := by decide +kernel
theorem dX5_part_74 : decode cX5_part 74 = .ok (.goto (-29), 3) := by decide +kernel
theorem dX5_part_77 : decode cX5_part 77 = .ok (.aload_n 0, 1) := by decide +kernel
theorem dX5_part_78 : decode cX5_part 78 = .ok (.iconst 1, 1) := by decide +kernel
theorem dX5_part_79 : decode cX5_part 79 = .ok (.invokevirtual 176, 3) := by decide +kernel
theorem dX5_part_82 : decode cX5_part 82 = .ok (.aload_n 0, 1) := by decide +kernel
theorem dX5_part_83 : decode cX5_part 83 = .ok (.getfield 167, 3) := by decide +kernel
theorem dX5_part_86 : decode cX5_part 86 = .ok (.ifCond .le 5, 3) := by decide +kernel
theorem dX5_part_89 : decode cX5_part 89 = .ok (.iconst 0, 1) := by decide +kernel
theorem dX5_part_90 : decode cX5_part 90 = .ok (.ireturn, 1) := by decide +kernel
theorem dX5_part_91 : decode cX5_part 91 = .ok (.aload_n 0, 1) := by decide +kernel
theorem dX5_part_92 : decode cX5_part 92 = .ok (.getfield 29, 3) := by decide +kernel
theorem dX5_part_95 : decode cX5_part 95 = .ok (.iload_n 1, 1) := by decide +kernel
theorem dX5_part_96 : decode cX5_part 96 = .ok (.aload_n 0, 1) := by decide +kernel
theorem dX5_part_97 : decode cX5_part 97 = .ok (.getfield 164, 3) := by decide +kernel
theorem dX5_part_100 : decode cX5_part 100 = .ok (.aload_n 0, 1) := by decide +kernel
theorem dX5_part_101 : decode cX5_part 101 = .ok (.getfield 26, 3) := by decide +kernel
theorem dX5_part_104 : decode cX5_part 104 = .ok (.iload_n 1, 1) := by decide +kernel
theorem dX5_part_105 : decode cX5_part 105 = .ok (.iaload, 1) := by decide +kernel
theorem dX5_part_106 : decode cX5_part 106 = .ok (.isub, 1) := by decide +kernel
theorem dX5_part_107 : decode cX5_part 107 = .ok (.iastore, 1) := by decide +kernel
theorem dX5_part_108 : decode cX5_part 108 = .ok (.aload_n 0, 1) := by decide +kernel
theorem dX5_part_109 : decode cX5_part 109 = .ok (.invokevirtual 161, 3) := by decide +kernel
theorem dX5_part_112 : decode cX5_part 112 = .ok (.iconst 1, 1) := by decide +kernel
theorem dX5_part_113 : decode cX5_part 113 = .ok (.ireturn, 1) := by decide +kernel
theorem dX5_text_0 : decode cX5_text 0 = .ok (.aload_n 0, 1) := by decide +kernel
theorem dX5_text_1 : decode cX5_text 1 = .ok (.getfield 76, 3) := by decide +kernel
theorem dX5_text_4 : decode cX5_text 4 = .ok (.bipush 6, 2) := by decide +kernel
theorem dX5_text_6 : decode cX5_text 6 = .ok (.if_icmp .ne 6, 3) := by decide +kernel
theorem dX5_text_9 : decode cX5_text 9 = .ok (.bipush (-4), 2) := by decide +kernel
theorem dX5_text_11 : decode cX5_text 11 = .ok (.ireturn, 1) := by decide +kernel
theorem dX5_text_12 : decode cX5_text 12 = .ok (.aload_n 0, 1) := by decide +kernel
theorem dX5_text_13 : decode cX5_text 13 = .ok (.getfield 164, 3) := by decide +kernel
theorem dX5_text_16 : decode cX5_text 16 = .ok (.istore_n 1, 1) := by decide +kernel
theorem dX5_text_17 : decode cX5_text 17 = .ok (.aload_n 0, 1) := by decide +kernel
theorem dX5_text_18 : decode cX5_text 18 = .ok (.iconst 0, 1) := by decide +kernel
theorem dX5_text_19 : decode cX5_text 19 = .ok (.putfield 132, 3) := by decide +kernel
theorem dX5_text_22 : decode cX5_text 22 = .ok (.aload_n 0, 1) := by decide +kernel
theorem dX5_text_23 : decode cX5_text 23 = .ok (.invokevirtual 161, 3) := by decide +kernel
theorem dX5_text_26 : decode cX5_text 26 = .ok (.aload_n 0, 1) := by decide +kernel
theorem dX5_text_27 : decode cX5_text 27 = .ok (.iconst 3, 1) := by decide +kernel
theorem dX5_text_28 : decode cX5_text 28 = .ok (.aload_n 0, 1) := by decide +kernel
theorem dX5_text_29 : decode cX5_text 29 = .ok (.getfield 76, 3) := by decide +kernel
theorem dX5_text_32 : decode cX5_text 32 = .ok (.imul, 1) := by decide +kernel
theorem dX5_text_33 : decode cX5_text 33 = .ok (.ldc 208, 2) := by decide +kernel
theorem dX5_text_35 : decode cX5_text 35 = .ok (.invokevirtual 209, 3) := by decide +kernel
theorem dX5_text_38 : decode cX5_text 38 = .ok (.ifCond .eq 50, 3) := by decide +kernel
theorem dX5_text_41 : decode cX5_text 41 = .ok (.aload_n 0, 1) := by decide +kernel
theorem dX5_text_42 : decode cX5_text 42 = .ok (.iconst 3, 1) := by decide +kernel
theorem dX5_text_43 : decode cX5_text 43 = .ok (.aload_n 0, 1) := by decide +kernel
theorem dX5_text_44 : decode cX5_text 44 = .ok (.getfield 76, 3) := by decide +kernel
theorem dX5_text_47 : decode cX5_text 47 = .ok (.imul, 1) := by decide +kernel
theorem dX5_text_48 : decode cX5_text 48 = .ok (.iconst 1, 1) := by decide +kernel
theorem dX5_text_49 : decode cX5_text 49 = .ok (.iadd, 1) := by decide +kernel
theorem dX5_text_50 : decode cX5_text 50 = .ok (.ldc 212, 2) := by decide +kernel
theorem dX5_text_52 : decode cX5_text 52 = .ok (.invokevirtual 209, 3) := by decide +kernel
theorem dX5_text_55 : decode cX5_text 55 = .ok (.ifCond .eq 33, 3) := by decide +kernel
theorem dX5_text_58 : decode cX5_text 58 = .ok (.aload_n 0, 1) := by decide +kernel
theorem dX5_text_59 : decode cX5_text 59 = .ok (.iconst 3, 1) := by decide +kernel
theorem dX5_text_60 : decode cX5_text 60 = .ok (.aload_n 0, 1) := by decide +kernel
theorem dX5_text_61 : decode cX5_text 61 = .ok (.getfield 76, 3) := by decide +kernel
theorem dX5_text_64 : decode cX5_text 64 = .ok (.imul, 1) := by decide +kernel
theorem dX5_text_65 : decode cX5_text 65 = .ok (.iconst 2, 1) := by decide +kernel
theorem dX5_text_66 : decode cX5_text 66 = .ok (.iadd, 1) := by decide +kernel
theorem dX5_text_67 : decode cX5_text 67 = .ok (.ldc 213, 2) := by decide +kernel
theorem dX5_text_69 : decode cX5_text 69 = .ok (.invokevirtual 209, 3) := by decide +kernel
theorem dX5_text_72 : decode cX5_text 72 = .ok (.ifCond .eq 16, 3) := by decide +kernel
theorem dX5_text_75 : decode cX5_text 75 = .ok (.aload_n 0, 1) := by decide +kernel
theorem dX5_text_76 : decode cX5_text 76 = .ok (.getfield 138, 3) := by decide +kernel
theorem dX5_text_79 : decode cX5_text 79 = .ok (.bipush 101, 2) := by decide +kernel
theorem dX5_text_81 : decode cX5_text 81 = .ok (.if_icmp .ne 7, 3) := by decide +kernel
theorem dX5_text_84 : decode cX5_text 84 = .ok (.iconst 1, 1) := by decide +kernel
theorem dX5_text_85 : decode cX5_text 85 = .ok (.goto 4, 3) := by decide +kernel
theorem dX5_text_88 : decode cX5_text 88 = .ok (.iconst 0, 1) := by decide +kernel
theorem dX5_text_89 : decode cX5_text 89 = .ok (.istore_n 2, 1) := by decide +kernel
theorem dX5_text_90 : decode cX5_text 90 = .ok (.aload_n 0, 1) := by decide +kernel
theorem dX5_text_91 : decode cX5_text 91 = .ok (.iconst 0, 1) := by decide +kernel
theorem dX5_text_92 : decode cX5_text 92 = .ok (.putfield 126, 3) := by decide +kernel
theorem dX5_text_95 : decode cX5_text 95 = .ok (.iload_n 2, 1) := by decide +kernel
theorem dX5_text_96 : decode cX5_text 96 = .ok (.ifCond .eq 15, 3) := by decide +kernel
theorem dX5_text_99 : decode cX5_text 99 = .ok (.aload_n 0, 1) := by decide +kernel
theorem dX5_text_100 : decode cX5_text 100 = .ok (.dup, 1) := by decide +kernel
theorem dX5_text_101 : decode cX5_text 101 = .ok (.getfield 76, 3) := by decide +kernel
theorem dX5_text_104 : decode cX5_text 104 = .ok (.dup_x1, 1) := by decide +kernel
theorem dX5_text_105 : decode cX5_text 105 = .ok (.iconst 1, 1) := by decide +kernel
theorem dX5_text_106 : decode cX5_text 106 = .ok (.iadd, 1) := by decide +kernel
theorem dX5_text_107 : decode cX5_text 107 = .ok (.putfield 76, 3) := by decide +kernel
theorem dX5_text_110 : decode cX5_text 110 = .ok (.ireturn, 1) := by decide +kernel
theorem dX5_text_111 : decode cX5_text 111 = .ok (.aload_n 0, 1) := by decide +kernel
theorem dX5_text_112 : decode cX5_text 112 = .ok (.iload_n 1, 1) := by decide +kernel
theorem dX5_text_113 : decode cX5_text 113 = .ok (.putfield 164, 3) := by decide +kernel
theorem dX5_text_116 : decode cX5_text 116 = .ok (.bipush (-100), 2) := by decide +kernel
theorem dX5_text_118 : decode cX5_text 118 = .ok (.aload_n 0, 1) := by decide +kernel
theorem dX5_text_119 : decode cX5_text 119 = .ok (.getfield 135, 3) := by decide +kernel
theorem dX5_text_122 : decode cX5_text 122 = .ok (.isub, 1) := by decide +kernel
theorem dX5_text_123 : decode cX5_text 123 = .ok (.ireturn, 1) := by decide +kernel
theorem dX5_force_0 : decode cX5_force 0 = .ok (.iload_n 1, 1) := by decide +kernel
theorem dX5_force_1 : decode cX5_force 1 = .ok (.iconst 0, 1) := by decide +kernel
theorem dX5_force_2 : decode cX5_force 2 = .ok (.aload_n 0, 1) := by decide +kernel
theorem dX5_force_3 : decode cX5_force 3 = .ok (.getfield 76, 3) := by decide +kernel
theorem dX5_force_6 : decode cX5_force 6 = .ok (.iconst 1, 1) := by decide +kernel
theorem dX5_force_7 : decode cX5_force 7 = .ok (.isub, 1) := by decide +kernel
theorem dX5_force_8 : decode cX5_force 8 = .ok (.invokestatic 82, 3) := by decide +kernel
theorem dX5_force_11 : decode cX5_force 11 = .ok (.ifCond .ne 6, 3) := by decide +kernel
theorem dX5_force_14 : decode cX5_force 14 = .ok (.bipush (-2), 2) := by decide +kernel
theorem dX5_force_16 : decode cX5_force 16 = .ok (.ireturn, 1) := by decide +kernel
theorem dX5_force_17 : decode cX5_force 17 = .ok (.aload_n 0, 1) := by decide +kernel
theorem dX5_force_18 : decode cX5_force 18 = .ok (.getfield 214, 3) := by decide +kernel
theorem dX5_force_21 : decode cX5_force 21 = .ok (.istore_n 2, 1) := by decide +kernel
theorem dX5_force_22 : decode cX5_force 22 = .ok (.aload_n 0, 1) := by decide +kernel
theorem dX5_force_23 : decode cX5_force 23 = .ok (.iload_n 1, 1) := by decide +kernel
theorem dX5_force_24 : decode cX5_force 24 = .ok (.putfield 214, 3) := by decide +kernel
theorem dX5_force_27 : decode cX5_force 27 = .ok (.iload_n 2, 1) := by decide +kernel
theorem dX5_force_28 : decode cX5_force 28 = .ok (.ireturn, 1) := by decide +kernel
theorem dX5_ruled_0 : decode cX5_ruled 0 = .ok (.iconst 0, 1) := by decide +kernel
theorem dX5_ruled_1 : decode cX5_ruled 1 = .ok (.istore_n 2, 1) := by decide +kernel
theorem dX5_ruled_2 : decode cX5_ruled 2 = .ok (.aload_n 0, 1) := by decide +kernel
theorem dX5_ruled_3 : decode cX5_ruled 3 = .ok (.getfield 26, 3) := by decide +kernel
theorem dX5_ruled_6 : decode cX5_ruled 6 = .ok (.iconst 3, 1) := by decide +kernel
theorem dX5_ruled_7 : decode cX5_ruled 7 = .ok (.aload_n 0, 1) := by decide +kernel
theorem dX5_ruled_8 : decode cX5_ruled 8 = .ok (.getfield 214, 3) := by decide +kernel
theorem dX5_ruled_11 : decode cX5_ruled 11 = .ok (.imul, 1) := by decide +kernel
theorem dX5_ruled_12 : decode cX5_ruled 12 = .ok (.iload_n 1, 1) := by decide +kernel
theorem dX5_ruled_13 : decode cX5_ruled 13 = .ok (.iadd, 1) := by decide +kernel
theorem dX5_ruled_14 : decode cX5_ruled 14 = .ok (.iaload, 1) := by decide +kernel
theorem dX5_ruled_15 : decode cX5_ruled 15 = .ok (.istore_n 3, 1) := by decide +kernel
theorem dX5_ruled_16 : decode cX5_ruled 16 = .ok (.iload_n 3, 1) := by decide +kernel
theorem dX5_ruled_17 : decode cX5_ruled 17 = .ok (.istore 4, 2) := by decide +kernel
theorem dX5_ruled_19 : decode cX5_ruled 19 = .ok (.iload 4, 2) := by decide +kernel
theorem dX5_ruled_21 : decode cX5_ruled 21 = .ok (.iload_n 3, 1) := by decide +kernel
theorem dX5_ruled_22 : decode cX5_ruled 22 = .ok (.aload_n 0, 1) := by decide +kernel
theorem dX5_ruled_23 : decode cX5_ruled 23 = .ok (.getfield 29, 3) := by decide +kernel
theorem dX5_ruled_26 : decode cX5_ruled 26 = .ok (.iconst 3, 1) := by decide +kernel
theorem dX5_ruled_27 : decode cX5_ruled 27 = .ok (.aload_n 0, 1) := by decide +kernel
theorem dX5_ruled_28 : decode cX5_ruled 28 = .ok (.getfield 214, 3) := by decide +kernel
theorem dX5_ruled_31 : decode cX5_ruled 31 = .ok (.imul, 1) := by decide +kernel
theorem dX5_ruled_32 : decode cX5_ruled 32 = .ok (.iload_n 1, 1) := by decide +kernel
theorem dX5_ruled_33 : decode cX5_ruled 33 = .ok (.iadd, 1) := by decide +kernel
theorem dX5_ruled_34 : decode cX5_ruled 34 = .ok (.iaload, 1) := by decide +kernel
theorem dX5_ruled_35 : decode cX5_ruled 35 = .ok (.iadd, 1) := by decide +kernel
theorem dX5_ruled_36 : decode cX5_ruled 36 = .ok (.if_icmp .ge 155, 3) := by decide +kernel
theorem dX5_ruled_39 : decode cX5_ruled 39 = .ok (.aload_n 0, 1) := by decide +kernel
theorem dX5_ruled_40 : decode cX5_ruled 40 = .ok (.getfield 32, 3) := by decide +kernel
theorem dX5_ruled_43 : decode cX5_ruled 43 = .ok (.iload 4, 2) := by decide +kernel
theorem dX5_ruled_45 : decode cX5_ruled 45 = .ok (.iaload, 1) := by decide +kernel
theorem dX5_ruled_46 : decode cX5_ruled 46 = .ok (.istore 5, 2) := by decide +kernel
theorem dX5_ruled_48 : decode cX5_ruled 48 = .ok (.iload 5, 2) := by decide +kernel
theorem dX5_ruled_50 : decode cX5_ruled 50 = .ok (.bipush 15, 2) := by decide +kernel
theorem dX5_ruled_52 : decode cX5_ruled 52 = .ok (.if_icmp .ge 9, 3) := by decide +kernel
theorem dX5_ruled_55 : decode cX5_ruled 55 = .ok (.iload 5, 2) := by decide +kernel
theorem dX5_ruled_57 : decode cX5_ruled 57 = .ok (.iconst 5, 1) := by decide +kernel
theorem dX5_ruled_58 : decode cX5_ruled 58 = .ok (.if_icmp .gt 37, 3) := by decide +kernel
theorem dX5_ruled_61 : decode cX5_ruled 61 = .ok (.aload_n 0, 1) := by decide +kernel
theorem dX5_ruled_62 : decode cX5_ruled 62 = .ok (.getfield 38, 3) := by decide +kernel
theorem dX5_ruled_65 : decode cX5_ruled 65 = .ok (.iload_n 2, 1) := by decide +kernel
theorem dX5_ruled_66 : decode cX5_ruled 66 = .ok (.iinc 2 1, 3) := by decide +kernel
theorem dX5_ruled_69 : decode cX5_ruled 69 = .ok (.iload 5, 2) := by decide +kernel
theorem dX5_ruled_71 : decode cX5_ruled 71 = .ok (.bipush 15, 2) := by decide +kernel
theorem dX5_ruled_73 : decode cX5_ruled 73 = .ok (.if_icmp .lt 11, 3) := by decide +kernel
theorem dX5_ruled_76 : decode cX5_ruled 76 = .ok (.iload 5, 2) := by decide +kernel
theorem dX5_ruled_78 : decode cX5_ruled 78 = .ok (.bipush 15, 2) := by decide +kernel
theorem dX5_ruled_80 : decode cX5_ruled 80 = .ok (.isub, 1) := by decide +kernel
theorem dX5_ruled_81 : decode cX5_ruled 81 = .ok (.goto 10, 3) := by decide +kernel
theorem dX5_ruled_84 : decode cX5_ruled 84 = .ok (.aload_n 0, 1) := by decide +kernel
theorem dX5_ruled_85 : decode cX5_ruled 85 = .ok (.getfield 41, 3) := by decide +kernel
theorem dX5_ruled_88 : decode cX5_ruled 88 = .ok (.iload 5, 2) := by decide +kernel
theorem dX5_ruled_90 : decode cX5_ruled 90 = .ok (.iaload, 1) := by decide +kernel
theorem dX5_ruled_91 : decode cX5_ruled 91 = .ok (.iastore, 1) := by decide +kernel
theorem dX5_ruled_92 : decode cX5_ruled 92 = .ok (.goto 93, 3) := by decide +kernel
theorem dX5_ruled_95 : decode cX5_ruled 95 = .ok (.iload 5, 2) := by decide +kernel
theorem dX5_ruled_97 : decode cX5_ruled 97 = .ok (.bipush 13, 2) := by decide +kernel
theorem dX5_ruled_99 : decode cX5_ruled 99 = .ok (.if_icmp .eq 10, 3) := by decide +kernel
theorem dX5_ruled_102 : decode cX5_ruled 102 = .ok (.iload 5, 2) := by decide +kernel
theorem dX5_ruled_104 : decode cX5_ruled 104 = .ok (.bipush 14, 2) := by decide +kernel
theorem dX5_ruled_106 : decode cX5_ruled 106 = .ok (.if_icmp .ne 49, 3) := by decide +kernel
theorem dX5_ruled_109 : decode cX5_ruled 109 = .ok (.aload_n 0, 1) := by decide +kernel
theorem dX5_ruled_110 : decode cX5_ruled 110 = .ok (.getfield 38, 3) := by decide +kernel
theorem dX5_ruled_113 : decode cX5_ruled 113 = .ok (.iload_n 2, 1) := by decide +kernel
theorem dX5_ruled_114 : decode cX5_ruled 114 = .ok (.iconst 1, 1) := by decide +kernel
theorem dX5_ruled_115 : decode cX5_ruled 115 = .ok (.isub, 1) := by decide +kernel
theorem dX5_ruled_116 : decode cX5_ruled 116 = .ok (.iload 5, 2) := by decide +kernel
theorem dX5_ruled_118 : decode cX5_ruled 118 = .ok (.bipush 14, 2) := by decide +kernel
theorem dX5_ruled_120 : decode cX5_ruled 120 = .ok (.if_icmp .ne 15, 3) := by decide +kernel
theorem dX5_ruled_123 : decode cX5_ruled 123 = .ok (.aload_n 0, 1) := by decide +kernel
theorem dX5_ruled_124 : decode cX5_ruled 124 = .ok (.getfield 38, 3) := by decide +kernel
theorem dX5_ruled_127 : decode cX5_ruled 127 = .ok (.iload_n 2, 1) := by decide +kernel
theorem dX5_ruled_128 : decode cX5_ruled 128 = .ok (.iconst 1, 1) := by decide +kernel
theorem dX5_ruled_129 : decode cX5_ruled 129 = .ok (.isub, 1) := by decide +kernel
theorem dX5_ruled_130 : decode cX5_ruled 130 = .ok (.iaload, 1) := by decide +kernel
theorem dX5_ruled_131 : decode cX5_ruled 131 = .ok (.ineg, 1) := by decide +kernel
theorem dX5_ruled_132 : decode cX5_ruled 132 = .ok (.goto 19, 3) := by decide +kernel
theorem dX5_ruled_135 : decode cX5_ruled 135 = .ok (.aload_n 0, 1) := by decide +kernel
theorem dX5_ruled_136 : decode cX5_ruled 136 = .ok (.getfield 38, 3) := by decide +kernel
theorem dX5_ruled_139 : decode cX5_ruled 139 = .ok (.iload_n 2, 1) := by decide +kernel
theorem dX5_ruled_140 : decode cX5_ruled 140 = .ok (.iconst 1, 1) := by decide +kernel
theorem dX5_ruled_141 : decode cX5_ruled 141 = .ok (.isub, 1) := by decide +kernel
theorem dX5_ruled_142 : decode cX5_ruled 142 = .ok (.iaload, 1) := by decide +kernel
theorem dX5_ruled_143 : decode cX5_ruled 143 = .ok (.ifCond .ne 7, 3) := by decide +kernel
theorem dX5_ruled_146 : decode cX5_ruled 146 = .ok (.iconst 1, 1) := by decide +kernel
theorem dX5_ruled_147 : decode cX5_ruled 147 = .ok (.goto 4, 3) := by decide +kernel
theorem dX5_ruled_150 : decode cX5_ruled 150 = .ok (.iconst 0, 1) := by decide +kernel
theorem dX5_ruled_151 : decode cX5_ruled 151 = .ok (.iastore, 1) := by decide +kernel
theorem dX5_ruled_152 : decode cX5_ruled 152 = .ok (.goto 33, 3) := by decide +kernel
theorem dX5_ruled_155 : decode cX5_ruled 155 = .ok (.iinc 2 (-1), 3) := by decide +kernel
theorem dX5_ruled_158 : decode cX5_ruled 158 = .ok (.aload_n 0, 1) := by decide +kernel
theorem dX5_ruled_159 : decode cX5_ruled 159 = .ok (.getfield 38, 3) := by decide +kernel
theorem dX5_ruled_162 : decode cX5_ruled 162 = .ok (.iload_n 2, 1) := by decide +kernel
theorem dX5_ruled_163 : decode cX5_ruled 163 = .ok (.iconst 1, 1) := by decide +kernel
theorem dX5_ruled_164 : decode cX5_ruled 164 = .ok (.isub, 1) := by decide +kernel
theorem dX5_ruled_165 : decode cX5_ruled 165 = .ok (.iload 5, 2) := by decide +kernel
theorem dX5_ruled_167 : decode cX5_ruled 167 = .ok (.aload_n 0, 1) := by decide +kernel
theorem dX5_ruled_168 : decode cX5_ruled 168 = .ok (.getfield 38, 3) := by decide +kernel
theorem dX5_ruled_171 : decode cX5_ruled 171 = .ok (.iload_n 2, 1) := by decide +kernel
theorem dX5_ruled_172 : decode cX5_ruled 172 = .ok (.iconst 1, 1) := by decide +kernel
theorem dX5_ruled_173 : decode cX5_ruled 173 = .ok (.isub, 1) := by decide +kernel
theorem dX5_ruled_174 : decode cX5_ruled 174 = .ok (.iaload, 1) := by decide +kernel
theorem dX5_ruled_175 : decode cX5_ruled 175 = .ok (.aload_n 0, 1) := by decide +kernel
theorem dX5_ruled_176 : decode cX5_ruled 176 = .ok (.getfield 38, 3) := by decide +kernel
theorem dX5_ruled_179 : decode cX5_ruled 179 = .ok (.iload_n 2, 1) := by decide +kernel
theorem dX5_ruled_180 : decode cX5_ruled 180 = .ok (.iaload, 1) := by decide +kernel
theorem dX5_ruled_181 : decode cX5_ruled 181 = .ok (.invokestatic 217, 3) := by decide +kernel
theorem dX5_ruled_184 : decode cX5_ruled 184 = .ok (.iastore, 1) := by decide +kernel
theorem dX5_ruled_185 : decode cX5_ruled 185 = .ok (.iinc 4 1, 3) := by decide +kernel
theorem dX5_ruled_188 : decode cX5_ruled 188 = .ok (.goto (-169), 3) := by decide +kernel
theorem dX5_ruled_191 : decode cX5_ruled 191 = .ok (.aload_n 0, 1) := by decide +kernel
theorem dX5_ruled_192 : decode cX5_ruled 192 = .ok (.getfield 38, 3) := by decide +kernel
theorem dX5_ruled_195 : decode cX5_ruled 195 = .ok (.iconst 0, 1) := by decide +kernel
theorem dX5_ruled_196 : decode cX5_ruled 196 = .ok (.iaload, 1) := by decide +kernel
theorem dX5_ruled_197 : decode cX5_ruled 197 = .ok (.ireturn, 1) := by decide +kernel
theorem dX5_both_0 : decode cX5_both 0 = .ok (.iload_n 0, 1) := by decide +kernel
theorem dX5_both_1 : decode cX5_both 1 = .ok (.tableswitch 87 6 11 #[39, 43, 47, 51, 62, 73], 39) := by decide +kernel
theorem dX5_both_40 : decode cX5_both 40 = .ok (.iload_n 1, 1) := by decide +kernel
theorem dX5_both_41 : decode cX5_both 41 = .ok (.iload_n 2, 1) := by decide +kernel
theorem dX5_both_42 : decode cX5_both 42 = .ok (.iadd, 1) := by decide +kernel
theorem dX5_both_43 : decode cX5_both 43 = .ok (.ireturn, 1) := by decide +kernel
theorem dX5_both_44 : decode cX5_both 44 = .ok (.iload_n 1, 1) := by decide +kernel
theorem dX5_both_45 : decode cX5_both 45 = .ok (.iload_n 2, 1) := by decide +kernel
theorem dX5_both_46 : decode cX5_both 46 = .ok (.isub, 1) := by decide +kernel
theorem dX5_both_47 : decode cX5_both 47 = .ok (.ireturn, 1) := by decide +kernel
theorem dX5_both_48 : decode cX5_both 48 = .ok (.iload_n 1, 1) := by decide +kernel
theorem dX5_both_49 : decode cX5_both 49 = .ok (.iload_n 2, 1) := by decide +kernel
theorem dX5_both_50 : decode cX5_both 50 = .ok (.imul, 1) := by decide +kernel
theorem dX5_both_51 : decode cX5_both 51 = .ok (.ireturn, 1) := by decide +kernel
theorem dX5_both_52 : decode cX5_both 52 = .ok (.iload_n 1, 1) := by decide +kernel
theorem dX5_both_53 : decode cX5_both 53 = .ok (.iload_n 2, 1) := by decide +kernel
theorem dX5_both_54 : decode cX5_both 54 = .ok (.if_icmp .ge 7, 3) := by decide +kernel
theorem dX5_both_57 : decode cX5_both 57 = .ok (.iconst 1, 1) := by decide +kernel
theorem dX5_both_58 : decode cX5_both 58 = .ok (.goto 4, 3) := by decide +kernel
theorem dX5_both_61 : decode cX5_both 61 = .ok (.iconst 0, 1) := by decide +kernel
theorem dX5_both_62 : decode cX5_both 62 = .ok (.ireturn, 1) := by decide +kernel
theorem dX5_both_63 : decode cX5_both 63 = .ok (.iload_n 1, 1) := by decide +kernel
theorem dX5_both_64 : decode cX5_both 64 = .ok (.iload_n 2, 1) := by decide +kernel
theorem dX5_both_65 : decode cX5_both 65 = .ok (.if_icmp .ne 7, 3) := by decide +kernel
theorem dX5_both_68 : decode cX5_both 68 = .ok (.iconst 1, 1) := by decide +kernel
theorem dX5_both_69 : decode cX5_both 69 = .ok (.goto 4, 3) := by decide +kernel
theorem dX5_both_72 : decode cX5_both 72 = .ok (.iconst 0, 1) := by decide +kernel
theorem dX5_both_73 : decode cX5_both 73 = .ok (.ireturn, 1) := by decide +kernel
theorem dX5_both_74 : decode cX5_both 74 = .ok (.iload_n 1, 1) := by decide +kernel
theorem dX5_both_75 : decode cX5_both 75 = .ok (.ifCond .eq 11, 3) := by decide +kernel
theorem dX5_both_78 : decode cX5_both 78 = .ok (.iload_n 2, 1) := by decide +kernel
theorem dX5_both_79 : decode cX5_both 79 = .ok (.ifCond .eq 7, 3) := by decide +kernel
theorem dX5_both_82 : decode cX5_both 82 = .ok (.iconst 1, 1) := by decide +kernel
theorem dX5_both_83 : decode cX5_both 83 = .ok (.goto 4, 3) := by decide +kernel
theorem dX5_both_86 : decode cX5_both 86 = .ok (.iconst 0, 1) := by decide +kernel
theorem dX5_both_87 : decode cX5_both 87 = .ok (.ireturn, 1) := by decide +kernel
theorem dX5_both_88 : decode cX5_both 88 = .ok (.iload_n 1, 1) := by decide +kernel
theorem dX5_both_89 : decode cX5_both 89 = .ok (.ifCond .ne 7, 3) := by decide +kernel
theorem dX5_both_92 : decode cX5_both 92 = .ok (.iload_n 2, 1) := by decide +kernel
theorem dX5_both_93 : decode cX5_both 93 = .ok (.ifCond .eq 7, 3) := by decide +kernel
theorem dX5_both_96 : decode cX5_both 96 = .ok (.iconst 1, 1) := by decide +kernel
theorem dX5_both_97 : decode cX5_both 97 = .ok (.goto 4, 3) := by decide +kernel
theorem dX5_both_100 : decode cX5_both 100 = .ok (.iconst 0, 1) := by decide +kernel
theorem dX5_both_101 : decode cX5_both 101 = .ok (.ireturn, 1) := by decide +kernel
theorem dX5_tellsOf_0 : decode cX5_tellsOf 0 = .ok (.aload_n 0, 1) := by decide +kernel
theorem dX5_tellsOf_1 : decode cX5_tellsOf 1 = .ok (.getfield 41, 3) := by decide +kernel
theorem dX5_tellsOf_4 : decode cX5_tellsOf 4 = .ok (.iconst 0, 1) := by decide +kernel
theorem dX5_tellsOf_5 : decode cX5_tellsOf 5 = .ok (.iload_n 1, 1) := by decide +kernel
theorem dX5_tellsOf_6 : decode cX5_tellsOf 6 = .ok (.iastore, 1) := by decide +kernel
theorem dX5_tellsOf_7 : decode cX5_tellsOf 7 = .ok (.aload_n 0, 1) := by decide +kernel
theorem dX5_tellsOf_8 : decode cX5_tellsOf 8 = .ok (.getfield 41, 3) := by decide +kernel
theorem dX5_tellsOf_11 : decode cX5_tellsOf 11 = .ok (.iconst 1, 1) := by decide +kernel
theorem dX5_tellsOf_12 : decode cX5_tellsOf 12 = .ok (.aload_n 0, 1) := by decide +kernel
theorem dX5_tellsOf_13 : decode cX5_tellsOf 13 = .ok (.getfield 20, 3) := by decide +kernel
theorem dX5_tellsOf_16 : decode cX5_tellsOf 16 = .ok (.iload_n 2, 1) := by decide +kernel
theorem dX5_tellsOf_17 : decode cX5_tellsOf 17 = .ok (.iaload, 1) := by decide +kernel
theorem dX5_tellsOf_18 : decode cX5_tellsOf 18 = .ok (.iastore, 1) := by decide +kernel
theorem dX5_tellsOf_19 : decode cX5_tellsOf 19 = .ok (.aload_n 0, 1) := by decide +kernel
theorem dX5_tellsOf_20 : decode cX5_tellsOf 20 = .ok (.getfield 41, 3) := by decide +kernel
theorem dX5_tellsOf_23 : decode cX5_tellsOf 23 = .ok (.iconst 2, 1) := by decide +kernel
theorem dX5_tellsOf_24 : decode cX5_tellsOf 24 = .ok (.aload_n 0, 1) := by decide +kernel
theorem dX5_tellsOf_25 : decode cX5_tellsOf 25 = .ok (.getfield 17, 3) := by decide +kernel
theorem dX5_tellsOf_28 : decode cX5_tellsOf 28 = .ok (.iload_n 2, 1) := by decide +kernel
theorem dX5_tellsOf_29 : decode cX5_tellsOf 29 = .ok (.iaload, 1) := by decide +kernel
theorem dX5_tellsOf_30 : decode cX5_tellsOf 30 = .ok (.iastore, 1) := by decide +kernel
theorem dX5_tellsOf_31 : decode cX5_tellsOf 31 = .ok (.aload_n 0, 1) := by decide +kernel
theorem dX5_tellsOf_32 : decode cX5_tellsOf 32 = .ok (.getfield 41, 3) := by decide +kernel
theorem dX5_tellsOf_35 : decode cX5_tellsOf 35 = .ok (.iconst 3, 1) := by decide +kernel
theorem dX5_tellsOf_36 : decode cX5_tellsOf 36 = .ok (.aload_n 0, 1) := by decide +kernel
theorem dX5_tellsOf_37 : decode cX5_tellsOf 37 = .ok (.getfield 20, 3) := by decide +kernel
theorem dX5_tellsOf_40 : decode cX5_tellsOf 40 = .ok (.iload_n 3, 1) := by decide +kernel
theorem dX5_tellsOf_41 : decode cX5_tellsOf 41 = .ok (.iaload, 1) := by decide +kernel
theorem dX5_tellsOf_42 : decode cX5_tellsOf 42 = .ok (.iastore, 1) := by decide +kernel
theorem dX5_tellsOf_43 : decode cX5_tellsOf 43 = .ok (.aload_n 0, 1) := by decide +kernel
theorem dX5_tellsOf_44 : decode cX5_tellsOf 44 = .ok (.getfield 41, 3) := by decide +kernel
theorem dX5_tellsOf_47 : decode cX5_tellsOf 47 = .ok (.iconst 4, 1) := by decide +kernel
theorem dX5_tellsOf_48 : decode cX5_tellsOf 48 = .ok (.iload 4, 2) := by decide +kernel
theorem dX5_tellsOf_50 : decode cX5_tellsOf 50 = .ok (.iastore, 1) := by decide +kernel
theorem dX5_tellsOf_51 : decode cX5_tellsOf 51 = .ok (.aload_n 0, 1) := by decide +kernel
theorem dX5_tellsOf_52 : decode cX5_tellsOf 52 = .ok (.getfield 41, 3) := by decide +kernel
theorem dX5_tellsOf_55 : decode cX5_tellsOf 55 = .ok (.iconst 5, 1) := by decide +kernel
theorem dX5_tellsOf_56 : decode cX5_tellsOf 56 = .ok (.iload 5, 2) := by decide +kernel
theorem dX5_tellsOf_58 : decode cX5_tellsOf 58 = .ok (.iastore, 1) := by decide +kernel
theorem dX5_tellsOf_59 : decode cX5_tellsOf 59 = .ok (.return_, 1) := by decide +kernel
theorem dX5_cuts_0 : decode cX5_cuts 0 = .ok (.aload_n 0, 1) := by decide +kernel
theorem dX5_cuts_1 : decode cX5_cuts 1 = .ok (.iload_n 3, 1) := by decide +kernel
theorem dX5_cuts_2 : decode cX5_cuts 2 = .ok (.iload_n 1, 1) := by decide +kernel
theorem dX5_cuts_3 : decode cX5_cuts 3 = .ok (.iload_n 2, 1) := by decide +kernel
theorem dX5_cuts_4 : decode cX5_cuts 4 = .ok (.iload_n 1, 1) := by decide +kernel
theorem dX5_cuts_5 : decode cX5_cuts 5 = .ok (.iload_n 2, 1) := by decide +kernel
theorem dX5_cuts_6 : decode cX5_cuts 6 = .ok (.invokevirtual 221, 3) := by decide +kernel
theorem dX5_cuts_9 : decode cX5_cuts 9 = .ok (.aload_n 0, 1) := by decide +kernel
theorem dX5_cuts_10 : decode cX5_cuts 10 = .ok (.iconst 0, 1) := by decide +kernel
theorem dX5_cuts_11 : decode cX5_cuts 11 = .ok (.invokevirtual 225, 3) := by decide +kernel
theorem dX5_cuts_14 : decode cX5_cuts 14 = .ok (.ifCond .eq 7, 3) := by decide +kernel
theorem dX5_cuts_17 : decode cX5_cuts 17 = .ok (.iconst 1, 1) := by decide +kernel
theorem dX5_cuts_18 : decode cX5_cuts 18 = .ok (.goto 4, 3) := by decide +kernel
theorem dX5_cuts_21 : decode cX5_cuts 21 = .ok (.iconst 0, 1) := by decide +kernel
theorem dX5_cuts_22 : decode cX5_cuts 22 = .ok (.istore 4, 2) := by decide +kernel
theorem dX5_cuts_24 : decode cX5_cuts 24 = .ok (.iload 4, 2) := by decide +kernel
theorem dX5_cuts_26 : decode cX5_cuts 26 = .ok (.ifCond .ne 16, 3) := by decide +kernel
theorem dX5_cuts_29 : decode cX5_cuts 29 = .ok (.iload_n 3, 1) := by decide +kernel
theorem dX5_cuts_30 : decode cX5_cuts 30 = .ok (.aload_n 0, 1) := by decide +kernel
theorem dX5_cuts_31 : decode cX5_cuts 31 = .ok (.getfield 17, 3) := by decide +kernel
theorem dX5_cuts_34 : decode cX5_cuts 34 = .ok (.iload_n 1, 1) := by decide +kernel
theorem dX5_cuts_35 : decode cX5_cuts 35 = .ok (.iaload, 1) := by decide +kernel
theorem dX5_cuts_36 : decode cX5_cuts 36 = .ok (.bipush 8, 2) := by decide +kernel
theorem dX5_cuts_38 : decode cX5_cuts 38 = .ok (.irem, 1) := by decide +kernel
theorem dX5_cuts_39 : decode cX5_cuts 39 = .ok (.if_icmp .ne 7, 3) := by decide +kernel
theorem dX5_cuts_42 : decode cX5_cuts 42 = .ok (.iconst 1, 1) := by decide +kernel
theorem dX5_cuts_43 : decode cX5_cuts 43 = .ok (.goto 4, 3) := by decide +kernel
theorem dX5_cuts_46 : decode cX5_cuts 46 = .ok (.iconst 0, 1) := by decide +kernel
theorem dX5_cuts_47 : decode cX5_cuts 47 = .ok (.istore 5, 2) := by decide +kernel
theorem dX5_cuts_49 : decode cX5_cuts 49 = .ok (.iload 4, 2) := by decide +kernel
theorem dX5_cuts_51 : decode cX5_cuts 51 = .ok (.ifCond .eq 13, 3) := by decide +kernel
theorem dX5_cuts_54 : decode cX5_cuts 54 = .ok (.iload_n 3, 1) := by decide +kernel
theorem dX5_cuts_55 : decode cX5_cuts 55 = .ok (.iconst 2, 1) := by decide +kernel
theorem dX5_cuts_56 : decode cX5_cuts 56 = .ok (.irem, 1) := by decide +kernel
theorem dX5_cuts_57 : decode cX5_cuts 57 = .ok (.ifCond .ne 7, 3) := by decide +kernel
theorem dX5_cuts_60 : decode cX5_cuts 60 = .ok (.iconst 1, 1) := by decide +kernel
theorem dX5_cuts_61 : decode cX5_cuts 61 = .ok (.goto 4, 3) := by decide +kernel
theorem dX5_cuts_64 : decode cX5_cuts 64 = .ok (.iconst 0, 1) := by decide +kernel
theorem dX5_cuts_65 : decode cX5_cuts 65 = .ok (.istore 6, 2) := by decide +kernel
theorem dX5_cuts_67 : decode cX5_cuts 67 = .ok (.aload_n 0, 1) := by decide +kernel
theorem dX5_cuts_68 : decode cX5_cuts 68 = .ok (.getfield 13, 3) := by decide +kernel
theorem dX5_cuts_71 : decode cX5_cuts 71 = .ok (.iload_n 1, 1) := by decide +kernel
theorem dX5_cuts_72 : decode cX5_cuts 72 = .ok (.iaload, 1) := by decide +kernel
theorem dX5_cuts_73 : decode cX5_cuts 73 = .ok (.tableswitch 105 1 5 #[35, 38, 41, 58, 83], 35) := by decide +kernel
theorem dX5_cuts_108 : decode cX5_cuts 108 = .ok (.iload 5, 2) := by decide +kernel
theorem dX5_cuts_110 : decode cX5_cuts 110 = .ok (.ireturn, 1) := by decide +kernel
theorem dX5_cuts_111 : decode cX5_cuts 111 = .ok (.iload 6, 2) := by decide +kernel
theorem dX5_cuts_113 : decode cX5_cuts 113 = .ok (.ireturn, 1) := by decide +kernel
theorem dX5_cuts_114 : decode cX5_cuts 114 = .ok (.iload 5, 2) := by decide +kernel
theorem dX5_cuts_116 : decode cX5_cuts 116 = .ok (.ifCond .eq 13, 3) := by decide +kernel
theorem dX5_cuts_119 : decode cX5_cuts 119 = .ok (.iload_n 3, 1) := by decide +kernel
theorem dX5_cuts_120 : decode cX5_cuts 120 = .ok (.bipush 7, 2) := by decide +kernel
theorem dX5_cuts_122 : decode cX5_cuts 122 = .ok (.if_icmp .eq 7, 3) := by decide +kernel
theorem dX5_cuts_125 : decode cX5_cuts 125 = .ok (.iconst 1, 1) := by decide +kernel
theorem dX5_cuts_126 : decode cX5_cuts 126 = .ok (.goto 4, 3) := by decide +kernel
theorem dX5_cuts_129 : decode cX5_cuts 129 = .ok (.iconst 0, 1) := by decide +kernel
theorem dX5_cuts_130 : decode cX5_cuts 130 = .ok (.ireturn, 1) := by decide +kernel
theorem dX5_cuts_131 : decode cX5_cuts 131 = .ok (.iload 6, 2) := by decide +kernel
theorem dX5_cuts_133 : decode cX5_cuts 133 = .ok (.ifCond .ne 17, 3) := by decide +kernel
theorem dX5_cuts_136 : decode cX5_cuts 136 = .ok (.iload_n 3, 1) := by decide +kernel
theorem dX5_cuts_137 : decode cX5_cuts 137 = .ok (.iconst 3, 1) := by decide +kernel
theorem dX5_cuts_138 : decode cX5_cuts 138 = .ok (.if_icmp .ne 16, 3) := by decide +kernel
theorem dX5_cuts_141 : decode cX5_cuts 141 = .ok (.aload_n 0, 1) := by decide +kernel
theorem dX5_cuts_142 : decode cX5_cuts 142 = .ok (.getfield 20, 3) := by decide +kernel
theorem dX5_cuts_145 : decode cX5_cuts 145 = .ok (.iload_n 1, 1) := by decide +kernel
theorem dX5_cuts_146 : decode cX5_cuts 146 = .ok (.iaload, 1) := by decide +kernel
theorem dX5_cuts_147 : decode cX5_cuts 147 = .ok (.ifCond .ge 7, 3) := by decide +kernel
theorem dX5_cuts_150 : decode cX5_cuts 150 = .ok (.iconst 1, 1) := by decide +kernel
theorem dX5_cuts_151 : decode cX5_cuts 151 = .ok (.goto 4, 3) := by decide +kernel
theorem dX5_cuts_154 : decode cX5_cuts 154 = .ok (.iconst 0, 1) := by decide +kernel
theorem dX5_cuts_155 : decode cX5_cuts 155 = .ok (.ireturn, 1) := by decide +kernel
theorem dX5_cuts_156 : decode cX5_cuts 156 = .ok (.iload_n 3, 1) := by decide +kernel
theorem dX5_cuts_157 : decode cX5_cuts 157 = .ok (.iconst 3, 1) := by decide +kernel
theorem dX5_cuts_158 : decode cX5_cuts 158 = .ok (.if_icmp .lt 14, 3) := by decide +kernel
theorem dX5_cuts_161 : decode cX5_cuts 161 = .ok (.aload_n 0, 1) := by decide +kernel
theorem dX5_cuts_162 : decode cX5_cuts 162 = .ok (.getfield 20, 3) := by decide +kernel
theorem dX5_cuts_165 : decode cX5_cuts 165 = .ok (.iload_n 1, 1) := by decide +kernel
theorem dX5_cuts_166 : decode cX5_cuts 166 = .ok (.iaload, 1) := by decide +kernel
theorem dX5_cuts_167 : decode cX5_cuts 167 = .ok (.bipush 10, 2) := by decide +kernel
theorem dX5_cuts_169 : decode cX5_cuts 169 = .ok (.if_icmp .lt 7, 3) := by decide +kernel
theorem dX5_cuts_172 : decode cX5_cuts 172 = .ok (.iconst 1, 1) := by decide +kernel
theorem dX5_cuts_173 : decode cX5_cuts 173 = .ok (.goto 4, 3) := by decide +kernel
theorem dX5_cuts_176 : decode cX5_cuts 176 = .ok (.iconst 0, 1) := by decide +kernel
theorem dX5_cuts_177 : decode cX5_cuts 177 = .ok (.ireturn, 1) := by decide +kernel
theorem dX5_cuts_178 : decode cX5_cuts 178 = .ok (.iload 4, 2) := by decide +kernel
theorem dX5_cuts_180 : decode cX5_cuts 180 = .ok (.ireturn, 1) := by decide +kernel
theorem dX5_sends_0 : decode cX5_sends 0 = .ok (.iload_n 1, 1) := by decide +kernel
theorem dX5_sends_1 : decode cX5_sends 1 = .ok (.aload_n 0, 1) := by decide +kernel
theorem dX5_sends_2 : decode cX5_sends 2 = .ok (.getfield 68, 3) := by decide +kernel
theorem dX5_sends_5 : decode cX5_sends 5 = .ok (.if_icmp .eq 11, 3) := by decide +kernel
theorem dX5_sends_8 : decode cX5_sends 8 = .ok (.iload_n 2, 1) := by decide +kernel
theorem dX5_sends_9 : decode cX5_sends 9 = .ok (.aload_n 0, 1) := by decide +kernel
theorem dX5_sends_10 : decode cX5_sends 10 = .ok (.getfield 68, 3) := by decide +kernel
theorem dX5_sends_13 : decode cX5_sends 13 = .ok (.if_icmp .ne 5, 3) := by decide +kernel
theorem dX5_sends_16 : decode cX5_sends 16 = .ok (.iconst 0, 1) := by decide +kernel
theorem dX5_sends_17 : decode cX5_sends 17 = .ok (.ireturn, 1) := by decide +kernel
theorem dX5_sends_18 : decode cX5_sends 18 = .ok (.aload_n 0, 1) := by decide +kernel
theorem dX5_sends_19 : decode cX5_sends 19 = .ok (.iconst 0, 1) := by decide +kernel
theorem dX5_sends_20 : decode cX5_sends 20 = .ok (.iload_n 1, 1) := by decide +kernel
theorem dX5_sends_21 : decode cX5_sends 21 = .ok (.iload_n 2, 1) := by decide +kernel
theorem dX5_sends_22 : decode cX5_sends 22 = .ok (.iload_n 1, 1) := by decide +kernel
theorem dX5_sends_23 : decode cX5_sends 23 = .ok (.iload_n 2, 1) := by decide +kernel
theorem dX5_sends_24 : decode cX5_sends 24 = .ok (.invokevirtual 221, 3) := by decide +kernel
theorem dX5_sends_27 : decode cX5_sends 27 = .ok (.aload_n 0, 1) := by decide +kernel
theorem dX5_sends_28 : decode cX5_sends 28 = .ok (.iconst 2, 1) := by decide +kernel
theorem dX5_sends_29 : decode cX5_sends 29 = .ok (.invokevirtual 225, 3) := by decide +kernel
theorem dX5_sends_32 : decode cX5_sends 32 = .ok (.ifCond .eq 7, 3) := by decide +kernel
theorem dX5_sends_35 : decode cX5_sends 35 = .ok (.iconst 1, 1) := by decide +kernel
theorem dX5_sends_36 : decode cX5_sends 36 = .ok (.goto 4, 3) := by decide +kernel
theorem dX5_sends_39 : decode cX5_sends 39 = .ok (.iconst 0, 1) := by decide +kernel
theorem dX5_sends_40 : decode cX5_sends 40 = .ok (.istore_n 3, 1) := by decide +kernel
theorem dX5_sends_41 : decode cX5_sends 41 = .ok (.aload_n 0, 1) := by decide +kernel
theorem dX5_sends_42 : decode cX5_sends 42 = .ok (.getfield 13, 3) := by decide +kernel
theorem dX5_sends_45 : decode cX5_sends 45 = .ok (.iload_n 1, 1) := by decide +kernel
theorem dX5_sends_46 : decode cX5_sends 46 = .ok (.iaload, 1) := by decide +kernel
theorem dX5_sends_47 : decode cX5_sends 47 = .ok (.tableswitch 83 1 4 #[29, 31, 29, 52], 29) := by decide +kernel
theorem dX5_sends_76 : decode cX5_sends 76 = .ok (.iconst 1, 1) := by decide +kernel
theorem dX5_sends_77 : decode cX5_sends 77 = .ok (.ireturn, 1) := by decide +kernel
theorem dX5_sends_78 : decode cX5_sends 78 = .ok (.iload_n 3, 1) := by decide +kernel
theorem dX5_sends_79 : decode cX5_sends 79 = .ok (.ifCond .eq 18, 3) := by decide +kernel
theorem dX5_sends_82 : decode cX5_sends 82 = .ok (.aload_n 0, 1) := by decide +kernel
theorem dX5_sends_83 : decode cX5_sends 83 = .ok (.getfield 20, 3) := by decide +kernel
theorem dX5_sends_86 : decode cX5_sends 86 = .ok (.iload_n 1, 1) := by decide +kernel
theorem dX5_sends_87 : decode cX5_sends 87 = .ok (.iaload, 1) := by decide +kernel
theorem dX5_sends_88 : decode cX5_sends 88 = .ok (.bipush (-5), 2) := by decide +kernel
theorem dX5_sends_90 : decode cX5_sends 90 = .ok (.if_icmp .lt 7, 3) := by decide +kernel
theorem dX5_sends_93 : decode cX5_sends 93 = .ok (.iconst 1, 1) := by decide +kernel
theorem dX5_sends_94 : decode cX5_sends 94 = .ok (.goto 4, 3) := by decide +kernel
theorem dX5_sends_97 : decode cX5_sends 97 = .ok (.iconst 0, 1) := by decide +kernel
theorem dX5_sends_98 : decode cX5_sends 98 = .ok (.ireturn, 1) := by decide +kernel
theorem dX5_sends_99 : decode cX5_sends 99 = .ok (.iload_n 3, 1) := by decide +kernel
theorem dX5_sends_100 : decode cX5_sends 100 = .ok (.ifCond .eq 14, 3) := by decide +kernel
theorem dX5_sends_103 : decode cX5_sends 103 = .ok (.aload_n 0, 1) := by decide +kernel
theorem dX5_sends_104 : decode cX5_sends 104 = .ok (.getfield 20, 3) := by decide +kernel
theorem dX5_sends_107 : decode cX5_sends 107 = .ok (.iload_n 1, 1) := by decide +kernel
theorem dX5_sends_108 : decode cX5_sends 108 = .ok (.iaload, 1) := by decide +kernel
theorem dX5_sends_109 : decode cX5_sends 109 = .ok (.bipush (-5), 2) := by decide +kernel
theorem dX5_sends_111 : decode cX5_sends 111 = .ok (.if_icmp .ge 13, 3) := by decide +kernel
theorem dX5_sends_114 : decode cX5_sends 114 = .ok (.iload_n 2, 1) := by decide +kernel
theorem dX5_sends_115 : decode cX5_sends 115 = .ok (.aload_n 0, 1) := by decide +kernel
theorem dX5_sends_116 : decode cX5_sends 116 = .ok (.getfield 17, 3) := by decide +kernel
theorem dX5_sends_119 : decode cX5_sends 119 = .ok (.iload_n 1, 1) := by decide +kernel
theorem dX5_sends_120 : decode cX5_sends 120 = .ok (.iaload, 1) := by decide +kernel
theorem dX5_sends_121 : decode cX5_sends 121 = .ok (.if_icmp .ne 7, 3) := by decide +kernel
theorem dX5_sends_124 : decode cX5_sends 124 = .ok (.iconst 1, 1) := by decide +kernel
theorem dX5_sends_125 : decode cX5_sends 125 = .ok (.goto 4, 3) := by decide +kernel
theorem dX5_sends_128 : decode cX5_sends 128 = .ok (.iconst 0, 1) := by decide +kernel
theorem dX5_sends_129 : decode cX5_sends 129 = .ok (.ireturn, 1) := by decide +kernel
theorem dX5_sends_130 : decode cX5_sends 130 = .ok (.iload_n 3, 1) := by decide +kernel
theorem dX5_sends_131 : decode cX5_sends 131 = .ok (.ireturn, 1) := by decide +kernel
theorem dX5_feels_0 : decode cX5_feels 0 = .ok (.aload_n 0, 1) := by decide +kernel
theorem dX5_feels_1 : decode cX5_feels 1 = .ok (.iload_n 3, 1) := by decide +kernel
theorem dX5_feels_2 : decode cX5_feels 2 = .ok (.iload_n 2, 1) := by decide +kernel
theorem dX5_feels_3 : decode cX5_feels 3 = .ok (.iload_n 1, 1) := by decide +kernel
theorem dX5_feels_4 : decode cX5_feels 4 = .ok (.iload_n 1, 1) := by decide +kernel
theorem dX5_feels_5 : decode cX5_feels 5 = .ok (.iload_n 2, 1) := by decide +kernel
theorem dX5_feels_6 : decode cX5_feels 6 = .ok (.invokevirtual 221, 3) := by decide +kernel
theorem dX5_feels_9 : decode cX5_feels 9 = .ok (.aload_n 0, 1) := by decide +kernel
theorem dX5_feels_10 : decode cX5_feels 10 = .ok (.iconst 1, 1) := by decide +kernel
theorem dX5_feels_11 : decode cX5_feels 11 = .ok (.invokevirtual 225, 3) := by decide +kernel
theorem dX5_feels_14 : decode cX5_feels 14 = .ok (.invokestatic 123, 3) := by decide +kernel
theorem dX5_feels_17 : decode cX5_feels 17 = .ok (.istore 4, 2) := by decide +kernel
theorem dX5_feels_19 : decode cX5_feels 19 = .ok (.iload 4, 2) := by decide +kernel
theorem dX5_feels_21 : decode cX5_feels 21 = .ok (.iconst (-1), 1) := by decide +kernel
theorem dX5_feels_22 : decode cX5_feels 22 = .ok (.if_icmp .ge 7, 3) := by decide +kernel
theorem dX5_feels_25 : decode cX5_feels 25 = .ok (.iconst (-1), 1) := by decide +kernel
theorem dX5_feels_26 : decode cX5_feels 26 = .ok (.goto 5, 3) := by decide +kernel
theorem dX5_feels_29 : decode cX5_feels 29 = .ok (.iload 4, 2) := by decide +kernel
theorem dX5_feels_31 : decode cX5_feels 31 = .ok (.istore 5, 2) := by decide +kernel
theorem dX5_feels_33 : decode cX5_feels 33 = .ok (.aload_n 0, 1) := by decide +kernel
theorem dX5_feels_34 : decode cX5_feels 34 = .ok (.getfield 13, 3) := by decide +kernel
theorem dX5_feels_37 : decode cX5_feels 37 = .ok (.iload_n 2, 1) := by decide +kernel
theorem dX5_feels_38 : decode cX5_feels 38 = .ok (.iaload, 1) := by decide +kernel
theorem dX5_feels_39 : decode cX5_feels 39 = .ok (.tableswitch 81 1 5 #[33, 36, 44, 52, 69], 33) := by decide +kernel
theorem dX5_feels_72 : decode cX5_feels 72 = .ok (.iload 5, 2) := by decide +kernel
theorem dX5_feels_74 : decode cX5_feels 74 = .ok (.ireturn, 1) := by decide +kernel
theorem dX5_feels_75 : decode cX5_feels 75 = .ok (.iconst 2, 1) := by decide +kernel
theorem dX5_feels_76 : decode cX5_feels 76 = .ok (.iload 4, 2) := by decide +kernel
theorem dX5_feels_78 : decode cX5_feels 78 = .ok (.imul, 1) := by decide +kernel
theorem dX5_feels_79 : decode cX5_feels 79 = .ok (.invokestatic 123, 3) := by decide +kernel
theorem dX5_feels_82 : decode cX5_feels 82 = .ok (.ireturn, 1) := by decide +kernel
theorem dX5_feels_83 : decode cX5_feels 83 = .ok (.iload 5, 2) := by decide +kernel
theorem dX5_feels_85 : decode cX5_feels 85 = .ok (.iconst 1, 1) := by decide +kernel
theorem dX5_feels_86 : decode cX5_feels 86 = .ok (.iadd, 1) := by decide +kernel
theorem dX5_feels_87 : decode cX5_feels 87 = .ok (.invokestatic 123, 3) := by decide +kernel
theorem dX5_feels_90 : decode cX5_feels 90 = .ok (.ireturn, 1) := by decide +kernel
theorem dX5_feels_91 : decode cX5_feels 91 = .ok (.iconst 2, 1) := by decide +kernel
theorem dX5_feels_92 : decode cX5_feels 92 = .ok (.iload 4, 2) := by decide +kernel
theorem dX5_feels_94 : decode cX5_feels 94 = .ok (.imul, 1) := by decide +kernel
theorem dX5_feels_95 : decode cX5_feels 95 = .ok (.iconst 2, 1) := by decide +kernel
theorem dX5_feels_96 : decode cX5_feels 96 = .ok (.idiv, 1) := by decide +kernel
theorem dX5_feels_97 : decode cX5_feels 97 = .ok (.aload_n 0, 1) := by decide +kernel
theorem dX5_feels_98 : decode cX5_feels 98 = .ok (.getfield 17, 3) := by decide +kernel
theorem dX5_feels_101 : decode cX5_feels 101 = .ok (.iload_n 2, 1) := by decide +kernel
theorem dX5_feels_102 : decode cX5_feels 102 = .ok (.iaload, 1) := by decide +kernel
theorem dX5_feels_103 : decode cX5_feels 103 = .ok (.isub, 1) := by decide +kernel
theorem dX5_feels_104 : decode cX5_feels 104 = .ok (.invokestatic 123, 3) := by decide +kernel
theorem dX5_feels_107 : decode cX5_feels 107 = .ok (.ireturn, 1) := by decide +kernel
theorem dX5_feels_108 : decode cX5_feels 108 = .ok (.iload_n 3, 1) := by decide +kernel
theorem dX5_feels_109 : decode cX5_feels 109 = .ok (.iconst 3, 1) := by decide +kernel
theorem dX5_feels_110 : decode cX5_feels 110 = .ok (.if_icmp .le 7, 3) := by decide +kernel
theorem dX5_feels_113 : decode cX5_feels 113 = .ok (.iconst 0, 1) := by decide +kernel
theorem dX5_feels_114 : decode cX5_feels 114 = .ok (.goto 5, 3) := by decide +kernel
theorem dX5_feels_117 : decode cX5_feels 117 = .ok (.iload 4, 2) := by decide +kernel
theorem dX5_feels_119 : decode cX5_feels 119 = .ok (.ireturn, 1) := by decide +kernel
theorem dX5_feels_120 : decode cX5_feels 120 = .ok (.iload 4, 2) := by decide +kernel
theorem dX5_feels_122 : decode cX5_feels 122 = .ok (.ireturn, 1) := by decide +kernel
theorem dX5_made_0 : decode cX5_made 0 = .ok (.aload_n 0, 1) := by decide +kernel
theorem dX5_made_1 : decode cX5_made 1 = .ok (.iload_n 1, 1) := by decide +kernel
theorem dX5_made_2 : decode cX5_made 2 = .ok (.iload_n 2, 1) := by decide +kernel
theorem dX5_made_3 : decode cX5_made 3 = .ok (.invokevirtual 228, 3) := by decide +kernel
theorem dX5_made_6 : decode cX5_made 6 = .ok (.ifCond .ne 5, 3) := by decide +kernel
theorem dX5_made_9 : decode cX5_made 9 = .ok (.iconst 0, 1) := by decide +kernel
theorem dX5_made_10 : decode cX5_made 10 = .ok (.ireturn, 1) := by decide +kernel
theorem dX5_made_11 : decode cX5_made 11 = .ok (.iconst 0, 1) := by decide +kernel
theorem dX5_made_12 : decode cX5_made 12 = .ok (.istore_n 3, 1) := by decide +kernel
theorem dX5_made_13 : decode cX5_made 13 = .ok (.iconst 0, 1) := by decide +kernel
theorem dX5_made_14 : decode cX5_made 14 = .ok (.istore 4, 2) := by decide +kernel
theorem dX5_made_16 : decode cX5_made 16 = .ok (.iload 4, 2) := by decide +kernel
theorem dX5_made_18 : decode cX5_made 18 = .ok (.bipush 8, 2) := by decide +kernel
theorem dX5_made_20 : decode cX5_made 20 = .ok (.if_icmp .ge 37, 3) := by decide +kernel
theorem dX5_made_23 : decode cX5_made 23 = .ok (.aload_n 0, 1) := by decide +kernel
theorem dX5_made_24 : decode cX5_made 24 = .ok (.getfield 7, 3) := by decide +kernel
theorem dX5_made_27 : decode cX5_made 27 = .ok (.iload 4, 2) := by decide +kernel
theorem dX5_made_29 : decode cX5_made 29 = .ok (.baload, 1) := by decide +kernel
theorem dX5_made_30 : decode cX5_made 30 = .ok (.ifCond .eq 21, 3) := by decide +kernel
theorem dX5_made_33 : decode cX5_made 33 = .ok (.aload_n 0, 1) := by decide +kernel
theorem dX5_made_34 : decode cX5_made 34 = .ok (.iload_n 1, 1) := by decide +kernel
theorem dX5_made_35 : decode cX5_made 35 = .ok (.iload_n 2, 1) := by decide +kernel
theorem dX5_made_36 : decode cX5_made 36 = .ok (.iload 4, 2) := by decide +kernel
theorem dX5_made_38 : decode cX5_made 38 = .ok (.invokevirtual 231, 3) := by decide +kernel
theorem dX5_made_41 : decode cX5_made 41 = .ok (.ifCond .eq 10, 3) := by decide +kernel
theorem dX5_made_44 : decode cX5_made 44 = .ok (.iload_n 3, 1) := by decide +kernel
theorem dX5_made_45 : decode cX5_made 45 = .ok (.iconst 1, 1) := by decide +kernel
theorem dX5_made_46 : decode cX5_made 46 = .ok (.iload 4, 2) := by decide +kernel
theorem dX5_made_48 : decode cX5_made 48 = .ok (.ishl, 1) := by decide +kernel
theorem dX5_made_49 : decode cX5_made 49 = .ok (.ior, 1) := by decide +kernel
theorem dX5_made_50 : decode cX5_made 50 = .ok (.istore_n 3, 1) := by decide +kernel
theorem dX5_made_51 : decode cX5_made 51 = .ok (.iinc 4 1, 3) := by decide +kernel
theorem dX5_made_54 : decode cX5_made 54 = .ok (.goto (-38), 3) := by decide +kernel
theorem dX5_made_57 : decode cX5_made 57 = .ok (.iload_n 3, 1) := by decide +kernel
theorem dX5_made_58 : decode cX5_made 58 = .ok (.ireturn, 1) := by decide +kernel
theorem dX5_feltBy_0 : decode cX5_feltBy 0 = .ok (.iconst 0, 1) := by decide +kernel
theorem dX5_feltBy_1 : decode cX5_feltBy 1 = .ok (.istore 4, 2) := by decide +kernel
theorem dX5_feltBy_3 : decode cX5_feltBy 3 = .ok (.iconst 0, 1) := by decide +kernel
theorem dX5_feltBy_4 : decode cX5_feltBy 4 = .ok (.istore 5, 2) := by decide +kernel
theorem dX5_feltBy_6 : decode cX5_feltBy 6 = .ok (.iload 5, 2) := by decide +kernel
theorem dX5_feltBy_8 : decode cX5_feltBy 8 = .ok (.bipush 8, 2) := by decide +kernel
theorem dX5_feltBy_10 : decode cX5_feltBy 10 = .ok (.if_icmp .ge 32, 3) := by decide +kernel
theorem dX5_feltBy_13 : decode cX5_feltBy 13 = .ok (.iload_n 3, 1) := by decide +kernel
theorem dX5_feltBy_14 : decode cX5_feltBy 14 = .ok (.iload 5, 2) := by decide +kernel
theorem dX5_feltBy_16 : decode cX5_feltBy 16 = .ok (.ishr, 1) := by decide +kernel
theorem dX5_feltBy_17 : decode cX5_feltBy 17 = .ok (.iconst 1, 1) := by decide +kernel
theorem dX5_feltBy_18 : decode cX5_feltBy 18 = .ok (.iand, 1) := by decide +kernel
theorem dX5_feltBy_19 : decode cX5_feltBy 19 = .ok (.iconst 1, 1) := by decide +kernel
theorem dX5_feltBy_20 : decode cX5_feltBy 20 = .ok (.if_icmp .ne 16, 3) := by decide +kernel
theorem dX5_feltBy_23 : decode cX5_feltBy 23 = .ok (.iload 4, 2) := by decide +kernel
theorem dX5_feltBy_25 : decode cX5_feltBy 25 = .ok (.aload_n 0, 1) := by decide +kernel
theorem dX5_feltBy_26 : decode cX5_feltBy 26 = .ok (.iload_n 1, 1) := by decide +kernel
theorem dX5_feltBy_27 : decode cX5_feltBy 27 = .ok (.iload_n 2, 1) := by decide +kernel
theorem dX5_feltBy_28 : decode cX5_feltBy 28 = .ok (.iload 5, 2) := by decide +kernel
theorem dX5_feltBy_30 : decode cX5_feltBy 30 = .ok (.invokevirtual 234, 3) := by decide +kernel
theorem dX5_feltBy_33 : decode cX5_feltBy 33 = .ok (.iadd, 1) := by decide +kernel
theorem dX5_feltBy_34 : decode cX5_feltBy 34 = .ok (.istore 4, 2) := by decide +kernel
theorem dX5_feltBy_36 : decode cX5_feltBy 36 = .ok (.iinc 5 1, 3) := by decide +kernel
theorem dX5_feltBy_39 : decode cX5_feltBy 39 = .ok (.goto (-33), 3) := by decide +kernel
theorem dX5_feltBy_42 : decode cX5_feltBy 42 = .ok (.iload 4, 2) := by decide +kernel
theorem dX5_feltBy_44 : decode cX5_feltBy 44 = .ok (.ireturn, 1) := by decide +kernel
theorem dX5_felt_0 : decode cX5_felt 0 = .ok (.iconst 0, 1) := by decide +kernel
theorem dX5_felt_1 : decode cX5_felt 1 = .ok (.istore_n 2, 1) := by decide +kernel
theorem dX5_felt_2 : decode cX5_felt 2 = .ok (.iconst 0, 1) := by decide +kernel
theorem dX5_felt_3 : decode cX5_felt 3 = .ok (.istore_n 3, 1) := by decide +kernel
theorem dX5_felt_4 : decode cX5_felt 4 = .ok (.iload_n 3, 1) := by decide +kernel
theorem dX5_felt_5 : decode cX5_felt 5 = .ok (.aload_n 0, 1) := by decide +kernel
theorem dX5_felt_6 : decode cX5_felt 6 = .ok (.getfield 79, 3) := by decide +kernel
theorem dX5_felt_9 : decode cX5_felt 9 = .ok (.if_icmp .ge 29, 3) := by decide +kernel
theorem dX5_felt_12 : decode cX5_felt 12 = .ok (.iload_n 3, 1) := by decide +kernel
theorem dX5_felt_13 : decode cX5_felt 13 = .ok (.iload_n 1, 1) := by decide +kernel
theorem dX5_felt_14 : decode cX5_felt 14 = .ok (.if_icmp .eq 18, 3) := by decide +kernel
theorem dX5_felt_17 : decode cX5_felt 17 = .ok (.iload_n 2, 1) := by decide +kernel
theorem dX5_felt_18 : decode cX5_felt 18 = .ok (.aload_n 0, 1) := by decide +kernel
theorem dX5_felt_19 : decode cX5_felt 19 = .ok (.iload_n 3, 1) := by decide +kernel
theorem dX5_felt_20 : decode cX5_felt 20 = .ok (.iload_n 1, 1) := by decide +kernel
theorem dX5_felt_21 : decode cX5_felt 21 = .ok (.aload_n 0, 1) := by decide +kernel
theorem dX5_felt_22 : decode cX5_felt 22 = .ok (.iload_n 3, 1) := by decide +kernel
theorem dX5_felt_23 : decode cX5_felt 23 = .ok (.iload_n 1, 1) := by decide +kernel
theorem dX5_felt_24 : decode cX5_felt 24 = .ok (.invokevirtual 107, 3) := by decide +kernel
theorem dX5_felt_27 : decode cX5_felt 27 = .ok (.invokevirtual 237, 3) := by decide +kernel
theorem dX5_felt_30 : decode cX5_felt 30 = .ok (.iadd, 1) := by decide +kernel
theorem dX5_felt_31 : decode cX5_felt 31 = .ok (.istore_n 2, 1) := by decide +kernel
theorem dX5_felt_32 : decode cX5_felt 32 = .ok (.iinc 3 1, 3) := by decide +kernel
theorem dX5_felt_35 : decode cX5_felt 35 = .ok (.goto (-31), 3) := by decide +kernel
theorem dX5_felt_38 : decode cX5_felt 38 = .ok (.iload_n 2, 1) := by decide +kernel
theorem dX5_felt_39 : decode cX5_felt 39 = .ok (.ireturn, 1) := by decide +kernel
theorem dX5_sandwich_0 : decode cX5_sandwich 0 = .ok (.aload_n 0, 1) := by decide +kernel
theorem dX5_sandwich_1 : decode cX5_sandwich 1 = .ok (.iload_n 1, 1) := by decide +kernel
theorem dX5_sandwich_2 : decode cX5_sandwich 2 = .ok (.iload_n 2, 1) := by decide +kernel
theorem dX5_sandwich_3 : decode cX5_sandwich 3 = .ok (.invokevirtual 240, 3) := by decide +kernel
theorem dX5_sandwich_6 : decode cX5_sandwich 6 = .ok (.ifCond .ne 7, 3) := by decide +kernel
theorem dX5_sandwich_9 : decode cX5_sandwich 9 = .ok (.sipush (-1000), 3) := by decide +kernel
theorem dX5_sandwich_12 : decode cX5_sandwich 12 = .ok (.ireturn, 1) := by decide +kernel
theorem dX5_sandwich_13 : decode cX5_sandwich 13 = .ok (.iload_n 3, 1) := by decide +kernel
theorem dX5_sandwich_14 : decode cX5_sandwich 14 = .ok (.bipush 10, 2) := by decide +kernel
theorem dX5_sandwich_16 : decode cX5_sandwich 16 = .ok (.bipush 17, 2) := by decide +kernel
theorem dX5_sandwich_18 : decode cX5_sandwich 18 = .ok (.invokestatic 82, 3) := by decide +kernel
theorem dX5_sandwich_21 : decode cX5_sandwich 21 = .ok (.ifCond .eq 14, 3) := by decide +kernel
theorem dX5_sandwich_24 : decode cX5_sandwich 24 = .ok (.aload_n 0, 1) := by decide +kernel
theorem dX5_sandwich_25 : decode cX5_sandwich 25 = .ok (.iload_n 1, 1) := by decide +kernel
theorem dX5_sandwich_26 : decode cX5_sandwich 26 = .ok (.iload_n 2, 1) := by decide +kernel
theorem dX5_sandwich_27 : decode cX5_sandwich 27 = .ok (.iload_n 3, 1) := by decide +kernel
theorem dX5_sandwich_28 : decode cX5_sandwich 28 = .ok (.bipush 10, 2) := by decide +kernel
theorem dX5_sandwich_30 : decode cX5_sandwich 30 = .ok (.isub, 1) := by decide +kernel
theorem dX5_sandwich_31 : decode cX5_sandwich 31 = .ok (.invokevirtual 234, 3) := by decide +kernel
theorem dX5_sandwich_34 : decode cX5_sandwich 34 = .ok (.ireturn, 1) := by decide +kernel
theorem dX5_sandwich_35 : decode cX5_sandwich 35 = .ok (.aload_n 0, 1) := by decide +kernel
theorem dX5_sandwich_36 : decode cX5_sandwich 36 = .ok (.iload_n 1, 1) := by decide +kernel
theorem dX5_sandwich_37 : decode cX5_sandwich 37 = .ok (.iload_n 2, 1) := by decide +kernel
theorem dX5_sandwich_38 : decode cX5_sandwich 38 = .ok (.invokevirtual 107, 3) := by decide +kernel
theorem dX5_sandwich_41 : decode cX5_sandwich 41 = .ok (.istore 4, 2) := by decide +kernel
theorem dX5_sandwich_43 : decode cX5_sandwich 43 = .ok (.iload_n 3, 1) := by decide +kernel
theorem dX5_sandwich_44 : decode cX5_sandwich 44 = .ok (.tableswitch 65 0 3 #[32, 35, 41, 56], 32) := by decide +kernel
theorem dX5_sandwich_76 : decode cX5_sandwich 76 = .ok (.iload 4, 2) := by decide +kernel
theorem dX5_sandwich_78 : decode cX5_sandwich 78 = .ok (.ireturn, 1) := by decide +kernel
theorem dX5_sandwich_79 : decode cX5_sandwich 79 = .ok (.iload 4, 2) := by decide +kernel
theorem dX5_sandwich_81 : decode cX5_sandwich 81 = .ok (.invokestatic 110, 3) := by decide +kernel
theorem dX5_sandwich_84 : decode cX5_sandwich 84 = .ok (.ireturn, 1) := by decide +kernel
theorem dX5_sandwich_85 : decode cX5_sandwich 85 = .ok (.aload_n 0, 1) := by decide +kernel
theorem dX5_sandwich_86 : decode cX5_sandwich 86 = .ok (.iload_n 1, 1) := by decide +kernel
theorem dX5_sandwich_87 : decode cX5_sandwich 87 = .ok (.iload_n 2, 1) := by decide +kernel
theorem dX5_sandwich_88 : decode cX5_sandwich 88 = .ok (.invokevirtual 228, 3) := by decide +kernel
theorem dX5_sandwich_91 : decode cX5_sandwich 91 = .ok (.ifCond .eq 7, 3) := by decide +kernel
theorem dX5_sandwich_94 : decode cX5_sandwich 94 = .ok (.iconst 1, 1) := by decide +kernel
theorem dX5_sandwich_95 : decode cX5_sandwich 95 = .ok (.goto 4, 3) := by decide +kernel
theorem dX5_sandwich_98 : decode cX5_sandwich 98 = .ok (.iconst 0, 1) := by decide +kernel
theorem dX5_sandwich_99 : decode cX5_sandwich 99 = .ok (.ireturn, 1) := by decide +kernel
theorem dX5_sandwich_100 : decode cX5_sandwich 100 = .ok (.aload_n 0, 1) := by decide +kernel
theorem dX5_sandwich_101 : decode cX5_sandwich 101 = .ok (.iload_n 1, 1) := by decide +kernel
theorem dX5_sandwich_102 : decode cX5_sandwich 102 = .ok (.iload_n 2, 1) := by decide +kernel
theorem dX5_sandwich_103 : decode cX5_sandwich 103 = .ok (.iload 4, 2) := by decide +kernel
theorem dX5_sandwich_105 : decode cX5_sandwich 105 = .ok (.invokevirtual 237, 3) := by decide +kernel
theorem dX5_sandwich_108 : decode cX5_sandwich 108 = .ok (.ireturn, 1) := by decide +kernel
theorem dX5_sandwich_109 : decode cX5_sandwich 109 = .ok (.sipush (-1000), 3) := by decide +kernel
theorem dX5_sandwich_112 : decode cX5_sandwich 112 = .ok (.ireturn, 1) := by decide +kernel
theorem dX5_glad_0 : decode cX5_glad 0 = .ok (.iconst 0, 1) := by decide +kernel
theorem dX5_glad_1 : decode cX5_glad 1 = .ok (.istore_n 1, 1) := by decide +kernel
theorem dX5_glad_2 : decode cX5_glad 2 = .ok (.iconst 0, 1) := by decide +kernel
theorem dX5_glad_3 : decode cX5_glad 3 = .ok (.istore_n 2, 1) := by decide +kernel
theorem dX5_glad_4 : decode cX5_glad 4 = .ok (.iload_n 2, 1) := by decide +kernel
theorem dX5_glad_5 : decode cX5_glad 5 = .ok (.aload_n 0, 1) := by decide +kernel
theorem dX5_glad_6 : decode cX5_glad 6 = .ok (.getfield 79, 3) := by decide +kernel
theorem dX5_glad_9 : decode cX5_glad 9 = .ok (.if_icmp .ge 18, 3) := by decide +kernel
theorem dX5_glad_12 : decode cX5_glad 12 = .ok (.iload_n 1, 1) := by decide +kernel
theorem dX5_glad_13 : decode cX5_glad 13 = .ok (.aload_n 0, 1) := by decide +kernel
theorem dX5_glad_14 : decode cX5_glad 14 = .ok (.getfield 20, 3) := by decide +kernel
theorem dX5_glad_17 : decode cX5_glad 17 = .ok (.iload_n 2, 1) := by decide +kernel
theorem dX5_glad_18 : decode cX5_glad 18 = .ok (.iaload, 1) := by decide +kernel
theorem dX5_glad_19 : decode cX5_glad 19 = .ok (.iadd, 1) := by decide +kernel
theorem dX5_glad_20 : decode cX5_glad 20 = .ok (.istore_n 1, 1) := by decide +kernel
theorem dX5_glad_21 : decode cX5_glad 21 = .ok (.iinc 2 1, 3) := by decide +kernel
theorem dX5_glad_24 : decode cX5_glad 24 = .ok (.goto (-20), 3) := by decide +kernel
theorem dX5_glad_27 : decode cX5_glad 27 = .ok (.iload_n 1, 1) := by decide +kernel
theorem dX5_glad_28 : decode cX5_glad 28 = .ok (.ireturn, 1) := by decide +kernel
theorem dX5_passes_0 : decode cX5_passes 0 = .ok (.iconst 0, 1) := by decide +kernel
theorem dX5_passes_1 : decode cX5_passes 1 = .ok (.istore_n 1, 1) := by decide +kernel
theorem dX5_passes_2 : decode cX5_passes 2 = .ok (.iload_n 1, 1) := by decide +kernel
theorem dX5_passes_3 : decode cX5_passes 3 = .ok (.aload_n 0, 1) := by decide +kernel
theorem dX5_passes_4 : decode cX5_passes 4 = .ok (.getfield 79, 3) := by decide +kernel
theorem dX5_passes_7 : decode cX5_passes 7 = .ok (.if_icmp .ge 70, 3) := by decide +kernel
theorem dX5_passes_10 : decode cX5_passes 10 = .ok (.aload_n 0, 1) := by decide +kernel
theorem dX5_passes_11 : decode cX5_passes 11 = .ok (.getfield 44, 3) := by decide +kernel
theorem dX5_passes_14 : decode cX5_passes 14 = .ok (.iload_n 1, 1) := by decide +kernel
theorem dX5_passes_15 : decode cX5_passes 15 = .ok (.aload_n 0, 1) := by decide +kernel
theorem dX5_passes_16 : decode cX5_passes 16 = .ok (.getfield 20, 3) := by decide +kernel
theorem dX5_passes_19 : decode cX5_passes 19 = .ok (.iload_n 1, 1) := by decide +kernel
theorem dX5_passes_20 : decode cX5_passes 20 = .ok (.iaload, 1) := by decide +kernel
theorem dX5_passes_21 : decode cX5_passes 21 = .ok (.aload_n 0, 1) := by decide +kernel
theorem dX5_passes_22 : decode cX5_passes 22 = .ok (.iload_n 1, 1) := by decide +kernel
theorem dX5_passes_23 : decode cX5_passes 23 = .ok (.invokevirtual 120, 3) := by decide +kernel
theorem dX5_passes_26 : decode cX5_passes 26 = .ok (.iadd, 1) := by decide +kernel
theorem dX5_passes_27 : decode cX5_passes 27 = .ok (.invokestatic 123, 3) := by decide +kernel
theorem dX5_passes_30 : decode cX5_passes 30 = .ok (.iastore, 1) := by decide +kernel
theorem dX5_passes_31 : decode cX5_passes 31 = .ok (.iconst 0, 1) := by decide +kernel
theorem dX5_passes_32 : decode cX5_passes 32 = .ok (.istore_n 2, 1) := by decide +kernel
theorem dX5_passes_33 : decode cX5_passes 33 = .ok (.iload_n 2, 1) := by decide +kernel
theorem dX5_passes_34 : decode cX5_passes 34 = .ok (.aload_n 0, 1) := by decide +kernel
theorem dX5_passes_35 : decode cX5_passes 35 = .ok (.getfield 79, 3) := by decide +kernel
theorem dX5_passes_38 : decode cX5_passes 38 = .ok (.if_icmp .ge 33, 3) := by decide +kernel
theorem dX5_passes_41 : decode cX5_passes 41 = .ok (.iload_n 1, 1) := by decide +kernel
theorem dX5_passes_42 : decode cX5_passes 42 = .ok (.iload_n 2, 1) := by decide +kernel
theorem dX5_passes_43 : decode cX5_passes 43 = .ok (.if_icmp .eq 22, 3) := by decide +kernel
theorem dX5_passes_46 : decode cX5_passes 46 = .ok (.aload_n 0, 1) := by decide +kernel
theorem dX5_passes_47 : decode cX5_passes 47 = .ok (.iload_n 1, 1) := by decide +kernel
theorem dX5_passes_48 : decode cX5_passes 48 = .ok (.iload_n 2, 1) := by decide +kernel
theorem dX5_passes_49 : decode cX5_passes 49 = .ok (.invokevirtual 107, 3) := by decide +kernel
theorem dX5_passes_52 : decode cX5_passes 52 = .ok (.ifCond .ne 13, 3) := by decide +kernel
theorem dX5_passes_55 : decode cX5_passes 55 = .ok (.aload_n 0, 1) := by decide +kernel
theorem dX5_passes_56 : decode cX5_passes 56 = .ok (.dup, 1) := by decide +kernel
theorem dX5_passes_57 : decode cX5_passes 57 = .ok (.getfield 243, 3) := by decide +kernel
theorem dX5_passes_60 : decode cX5_passes 60 = .ok (.iconst 1, 1) := by decide +kernel
theorem dX5_passes_61 : decode cX5_passes 61 = .ok (.iadd, 1) := by decide +kernel
theorem dX5_passes_62 : decode cX5_passes 62 = .ok (.putfield 243, 3) := by decide +kernel
theorem dX5_passes_65 : decode cX5_passes 65 = .ok (.iinc 2 1, 3) := by decide +kernel
theorem dX5_passes_68 : decode cX5_passes 68 = .ok (.goto (-35), 3) := by decide +kernel
theorem dX5_passes_71 : decode cX5_passes 71 = .ok (.iinc 1 1, 3) := by decide +kernel
theorem dX5_passes_74 : decode cX5_passes 74 = .ok (.goto (-72), 3) := by decide +kernel
theorem dX5_passes_77 : decode cX5_passes 77 = .ok (.iconst 0, 1) := by decide +kernel
theorem dX5_passes_78 : decode cX5_passes 78 = .ok (.istore_n 1, 1) := by decide +kernel
theorem dX5_passes_79 : decode cX5_passes 79 = .ok (.iload_n 1, 1) := by decide +kernel
theorem dX5_passes_80 : decode cX5_passes 80 = .ok (.aload_n 0, 1) := by decide +kernel
theorem dX5_passes_81 : decode cX5_passes 81 = .ok (.getfield 79, 3) := by decide +kernel
theorem dX5_passes_84 : decode cX5_passes 84 = .ok (.if_icmp .ge 21, 3) := by decide +kernel
theorem dX5_passes_87 : decode cX5_passes 87 = .ok (.aload_n 0, 1) := by decide +kernel
theorem dX5_passes_88 : decode cX5_passes 88 = .ok (.getfield 20, 3) := by decide +kernel
theorem dX5_passes_91 : decode cX5_passes 91 = .ok (.iload_n 1, 1) := by decide +kernel
theorem dX5_passes_92 : decode cX5_passes 92 = .ok (.aload_n 0, 1) := by decide +kernel
theorem dX5_passes_93 : decode cX5_passes 93 = .ok (.getfield 44, 3) := by decide +kernel
theorem dX5_passes_96 : decode cX5_passes 96 = .ok (.iload_n 1, 1) := by decide +kernel
theorem dX5_passes_97 : decode cX5_passes 97 = .ok (.iaload, 1) := by decide +kernel
theorem dX5_passes_98 : decode cX5_passes 98 = .ok (.iastore, 1) := by decide +kernel
theorem dX5_passes_99 : decode cX5_passes 99 = .ok (.iinc 1 1, 3) := by decide +kernel
theorem dX5_passes_102 : decode cX5_passes 102 = .ok (.goto (-23), 3) := by decide +kernel
theorem dX5_passes_105 : decode cX5_passes 105 = .ok (.return_, 1) := by decide +kernel
theorem dX5_sunday_0 : decode cX5_sunday 0 = .ok (.aload_n 0, 1) := by decide +kernel
theorem dX5_sunday_1 : decode cX5_sunday 1 = .ok (.getfield 93, 3) := by decide +kernel
theorem dX5_sunday_4 : decode cX5_sunday 4 = .ok (.sipush 999, 3) := by decide +kernel
theorem dX5_sunday_7 : decode cX5_sunday 7 = .ok (.if_icmp .ne 7, 3) := by decide +kernel
theorem dX5_sunday_10 : decode cX5_sunday 10 = .ok (.sipush (-1000), 3) := by decide +kernel
theorem dX5_sunday_13 : decode cX5_sunday 13 = .ok (.ireturn, 1) := by decide +kernel
theorem dX5_sunday_14 : decode cX5_sunday 14 = .ok (.aload_n 0, 1) := by decide +kernel
theorem dX5_sunday_15 : decode cX5_sunday 15 = .ok (.invokevirtual 246, 3) := by decide +kernel
theorem dX5_sunday_18 : decode cX5_sunday 18 = .ok (.aload_n 0, 1) := by decide +kernel
theorem dX5_sunday_19 : decode cX5_sunday 19 = .ok (.dup, 1) := by decide +kernel
theorem dX5_sunday_20 : decode cX5_sunday 20 = .ok (.getfield 93, 3) := by decide +kernel
theorem dX5_sunday_23 : decode cX5_sunday 23 = .ok (.iconst 1, 1) := by decide +kernel
theorem dX5_sunday_24 : decode cX5_sunday 24 = .ok (.iadd, 1) := by decide +kernel
theorem dX5_sunday_25 : decode cX5_sunday 25 = .ok (.putfield 93, 3) := by decide +kernel
theorem dX5_sunday_28 : decode cX5_sunday 28 = .ok (.aload_n 0, 1) := by decide +kernel
theorem dX5_sunday_29 : decode cX5_sunday 29 = .ok (.invokevirtual 249, 3) := by decide +kernel
theorem dX5_sunday_32 : decode cX5_sunday 32 = .ok (.ireturn, 1) := by decide +kernel
theorem dX5_keeps_0 : decode cX5_keeps 0 = .ok (.iconst 0, 1) := by decide +kernel
theorem dX5_keeps_1 : decode cX5_keeps 1 = .ok (.istore_n 1, 1) := by decide +kernel
theorem dX5_keeps_2 : decode cX5_keeps 2 = .ok (.iload_n 1, 1) := by decide +kernel
theorem dX5_keeps_3 : decode cX5_keeps 3 = .ok (.iconst 5, 1) := by decide +kernel
theorem dX5_keeps_4 : decode cX5_keeps 4 = .ok (.if_icmp .ge 21, 3) := by decide +kernel
theorem dX5_keeps_7 : decode cX5_keeps 7 = .ok (.aload_n 0, 1) := by decide +kernel
theorem dX5_keeps_8 : decode cX5_keeps 8 = .ok (.getfield 47, 3) := by decide +kernel
theorem dX5_keeps_11 : decode cX5_keeps 11 = .ok (.iload_n 1, 1) := by decide +kernel
theorem dX5_keeps_12 : decode cX5_keeps 12 = .ok (.aload_n 0, 1) := by decide +kernel
theorem dX5_keeps_13 : decode cX5_keeps 13 = .ok (.getfield 20, 3) := by decide +kernel
theorem dX5_keeps_16 : decode cX5_keeps 16 = .ok (.iload_n 1, 1) := by decide +kernel
theorem dX5_keeps_17 : decode cX5_keeps 17 = .ok (.iaload, 1) := by decide +kernel
theorem dX5_keeps_18 : decode cX5_keeps 18 = .ok (.iastore, 1) := by decide +kernel
theorem dX5_keeps_19 : decode cX5_keeps 19 = .ok (.iinc 1 1, 3) := by decide +kernel
theorem dX5_keeps_22 : decode cX5_keeps 22 = .ok (.goto (-20), 3) := by decide +kernel
theorem dX5_keeps_25 : decode cX5_keeps 25 = .ok (.return_, 1) := by decide +kernel
theorem dX5_restores_0 : decode cX5_restores 0 = .ok (.iconst 0, 1) := by decide +kernel
theorem dX5_restores_1 : decode cX5_restores 1 = .ok (.istore_n 1, 1) := by decide +kernel
theorem dX5_restores_2 : decode cX5_restores 2 = .ok (.iload_n 1, 1) := by decide +kernel
theorem dX5_restores_3 : decode cX5_restores 3 = .ok (.iconst 5, 1) := by decide +kernel
theorem dX5_restores_4 : decode cX5_restores 4 = .ok (.if_icmp .ge 21, 3) := by decide +kernel
theorem dX5_restores_7 : decode cX5_restores 7 = .ok (.aload_n 0, 1) := by decide +kernel
theorem dX5_restores_8 : decode cX5_restores 8 = .ok (.getfield 20, 3) := by decide +kernel
theorem dX5_restores_11 : decode cX5_restores 11 = .ok (.iload_n 1, 1) := by decide +kernel
theorem dX5_restores_12 : decode cX5_restores 12 = .ok (.aload_n 0, 1) := by decide +kernel
theorem dX5_restores_13 : decode cX5_restores 13 = .ok (.getfield 47, 3) := by decide +kernel
theorem dX5_restores_16 : decode cX5_restores 16 = .ok (.iload_n 1, 1) := by decide +kernel
theorem dX5_restores_17 : decode cX5_restores 17 = .ok (.iaload, 1) := by decide +kernel
theorem dX5_restores_18 : decode cX5_restores 18 = .ok (.iastore, 1) := by decide +kernel
theorem dX5_restores_19 : decode cX5_restores 19 = .ok (.iinc 1 1, 3) := by decide +kernel
theorem dX5_restores_22 : decode cX5_restores 22 = .ok (.goto (-20), 3) := by decide +kernel
theorem dX5_restores_25 : decode cX5_restores 25 = .ok (.return_, 1) := by decide +kernel
theorem dX5_runs_0 : decode cX5_runs 0 = .ok (.aload_n 0, 1) := by decide +kernel
theorem dX5_runs_1 : decode cX5_runs 1 = .ok (.invokevirtual 252, 3) := by decide +kernel
theorem dX5_runs_4 : decode cX5_runs 4 = .ok (.aload_n 0, 1) := by decide +kernel
theorem dX5_runs_5 : decode cX5_runs 5 = .ok (.iconst 0, 1) := by decide +kernel
theorem dX5_runs_6 : decode cX5_runs 6 = .ok (.putfield 243, 3) := by decide +kernel
theorem dX5_runs_9 : decode cX5_runs 9 = .ok (.iconst 0, 1) := by decide +kernel
theorem dX5_runs_10 : decode cX5_runs 10 = .ok (.istore_n 2, 1) := by decide +kernel
theorem dX5_runs_11 : decode cX5_runs 11 = .ok (.iload_n 2, 1) := by decide +kernel
theorem dX5_runs_12 : decode cX5_runs 12 = .ok (.iload_n 1, 1) := by decide +kernel
theorem dX5_runs_13 : decode cX5_runs 13 = .ok (.if_icmp .ge 13, 3) := by decide +kernel
theorem dX5_runs_16 : decode cX5_runs 16 = .ok (.aload_n 0, 1) := by decide +kernel
theorem dX5_runs_17 : decode cX5_runs 17 = .ok (.invokevirtual 246, 3) := by decide +kernel
theorem dX5_runs_20 : decode cX5_runs 20 = .ok (.iinc 2 1, 3) := by decide +kernel
theorem dX5_runs_23 : decode cX5_runs 23 = .ok (.goto (-12), 3) := by decide +kernel
theorem dX5_runs_26 : decode cX5_runs 26 = .ok (.return_, 1) := by decide +kernel
theorem dX5_gladBehind_0 : decode cX5_gladBehind 0 = .ok (.aload_n 0, 1) := by decide +kernel
theorem dX5_gladBehind_1 : decode cX5_gladBehind 1 = .ok (.iload_n 1, 1) := by decide +kernel
theorem dX5_gladBehind_2 : decode cX5_gladBehind 2 = .ok (.invokevirtual 255, 3) := by decide +kernel
theorem dX5_gladBehind_5 : decode cX5_gladBehind 5 = .ok (.aload_n 0, 1) := by decide +kernel
theorem dX5_gladBehind_6 : decode cX5_gladBehind 6 = .ok (.invokevirtual 249, 3) := by decide +kernel
theorem dX5_gladBehind_9 : decode cX5_gladBehind 9 = .ok (.istore_n 2, 1) := by decide +kernel
theorem dX5_gladBehind_10 : decode cX5_gladBehind 10 = .ok (.aload_n 0, 1) := by decide +kernel
theorem dX5_gladBehind_11 : decode cX5_gladBehind 11 = .ok (.invokevirtual 258, 3) := by decide +kernel
theorem dX5_gladBehind_14 : decode cX5_gladBehind 14 = .ok (.iload_n 2, 1) := by decide +kernel
theorem dX5_gladBehind_15 : decode cX5_gladBehind 15 = .ok (.ireturn, 1) := by decide +kernel
theorem dX5_run_0 : decode cX5_run 0 = .ok (.iload_n 1, 1) := by decide +kernel
theorem dX5_run_1 : decode cX5_run 1 = .ok (.iconst 0, 1) := by decide +kernel
theorem dX5_run_2 : decode cX5_run 2 = .ok (.bipush 40, 2) := by decide +kernel
theorem dX5_run_4 : decode cX5_run 4 = .ok (.invokestatic 82, 3) := by decide +kernel
theorem dX5_run_7 : decode cX5_run 7 = .ok (.ifCond .eq 23, 3) := by decide +kernel
theorem dX5_run_10 : decode cX5_run 10 = .ok (.iload_n 2, 1) := by decide +kernel
theorem dX5_run_11 : decode cX5_run 11 = .ok (.iconst 0, 1) := by decide +kernel
theorem dX5_run_12 : decode cX5_run 12 = .ok (.iconst 1, 1) := by decide +kernel
theorem dX5_run_13 : decode cX5_run 13 = .ok (.invokestatic 82, 3) := by decide +kernel
theorem dX5_run_16 : decode cX5_run 16 = .ok (.ifCond .ne 18, 3) := by decide +kernel
theorem dX5_run_19 : decode cX5_run 19 = .ok (.aload_n 0, 1) := by decide +kernel
theorem dX5_run_20 : decode cX5_run 20 = .ok (.iload_n 2, 1) := by decide +kernel
theorem dX5_run_21 : decode cX5_run 21 = .ok (.bipush 10, 2) := by decide +kernel
theorem dX5_run_23 : decode cX5_run 23 = .ok (.isub, 1) := by decide +kernel
theorem dX5_run_24 : decode cX5_run 24 = .ok (.invokevirtual 86, 3) := by decide +kernel
theorem dX5_run_27 : decode cX5_run 27 = .ok (.ifCond .ne 7, 3) := by decide +kernel
theorem dX5_run_30 : decode cX5_run 30 = .ok (.sipush (-1000), 3) := by decide +kernel
theorem dX5_run_33 : decode cX5_run 33 = .ok (.ireturn, 1) := by decide +kernel
theorem dX5_run_34 : decode cX5_run 34 = .ok (.aload_n 0, 1) := by decide +kernel
theorem dX5_run_35 : decode cX5_run 35 = .ok (.iload_n 1, 1) := by decide +kernel
theorem dX5_run_36 : decode cX5_run 36 = .ok (.invokevirtual 255, 3) := by decide +kernel
theorem dX5_run_39 : decode cX5_run 39 = .ok (.iload_n 2, 1) := by decide +kernel
theorem dX5_run_40 : decode cX5_run 40 = .ok (.ifCond .ne 10, 3) := by decide +kernel
theorem dX5_run_43 : decode cX5_run 43 = .ok (.aload_n 0, 1) := by decide +kernel
theorem dX5_run_44 : decode cX5_run 44 = .ok (.invokevirtual 249, 3) := by decide +kernel
theorem dX5_run_47 : decode cX5_run 47 = .ok (.goto 24, 3) := by decide +kernel
theorem dX5_run_50 : decode cX5_run 50 = .ok (.iload_n 2, 1) := by decide +kernel
theorem dX5_run_51 : decode cX5_run 51 = .ok (.iconst 1, 1) := by decide +kernel
theorem dX5_run_52 : decode cX5_run 52 = .ok (.if_icmp .ne 10, 3) := by decide +kernel
theorem dX5_run_55 : decode cX5_run 55 = .ok (.aload_n 0, 1) := by decide +kernel
theorem dX5_run_56 : decode cX5_run 56 = .ok (.getfield 243, 3) := by decide +kernel
theorem dX5_run_59 : decode cX5_run 59 = .ok (.goto 12, 3) := by decide +kernel
theorem dX5_run_62 : decode cX5_run 62 = .ok (.aload_n 0, 1) := by decide +kernel
theorem dX5_run_63 : decode cX5_run 63 = .ok (.getfield 20, 3) := by decide +kernel
theorem dX5_run_66 : decode cX5_run 66 = .ok (.iload_n 2, 1) := by decide +kernel
theorem dX5_run_67 : decode cX5_run 67 = .ok (.bipush 10, 2) := by decide +kernel
theorem dX5_run_69 : decode cX5_run 69 = .ok (.isub, 1) := by decide +kernel
theorem dX5_run_70 : decode cX5_run 70 = .ok (.iaload, 1) := by decide +kernel
theorem dX5_run_71 : decode cX5_run 71 = .ok (.istore_n 3, 1) := by decide +kernel
theorem dX5_run_72 : decode cX5_run 72 = .ok (.aload_n 0, 1) := by decide +kernel
theorem dX5_run_73 : decode cX5_run 73 = .ok (.invokevirtual 258, 3) := by decide +kernel
theorem dX5_run_76 : decode cX5_run 76 = .ok (.iload_n 3, 1) := by decide +kernel
theorem dX5_run_77 : decode cX5_run 77 = .ok (.ireturn, 1) := by decide +kernel
theorem dX5_isAlike_0 : decode cX5_isAlike 0 = .ok (.iconst 0, 1) := by decide +kernel
theorem dX5_isAlike_1 : decode cX5_isAlike 1 = .ok (.istore_n 3, 1) := by decide +kernel
theorem dX5_isAlike_2 : decode cX5_isAlike 2 = .ok (.iload_n 3, 1) := by decide +kernel
theorem dX5_isAlike_3 : decode cX5_isAlike 3 = .ok (.aload_n 0, 1) := by decide +kernel
theorem dX5_isAlike_4 : decode cX5_isAlike 4 = .ok (.getfield 79, 3) := by decide +kernel
theorem dX5_isAlike_7 : decode cX5_isAlike 7 = .ok (.if_icmp .ge 34, 3) := by decide +kernel
theorem dX5_isAlike_10 : decode cX5_isAlike 10 = .ok (.aload_n 0, 1) := by decide +kernel
theorem dX5_isAlike_11 : decode cX5_isAlike 11 = .ok (.getfield 50, 3) := by decide +kernel
theorem dX5_isAlike_14 : decode cX5_isAlike 14 = .ok (.iconst 5, 1) := by decide +kernel
theorem dX5_isAlike_15 : decode cX5_isAlike 15 = .ok (.iload_n 1, 1) := by decide +kernel
theorem dX5_isAlike_16 : decode cX5_isAlike 16 = .ok (.imul, 1) := by decide +kernel
theorem dX5_isAlike_17 : decode cX5_isAlike 17 = .ok (.iload_n 3, 1) := by decide +kernel
theorem dX5_isAlike_18 : decode cX5_isAlike 18 = .ok (.iadd, 1) := by decide +kernel
theorem dX5_isAlike_19 : decode cX5_isAlike 19 = .ok (.iaload, 1) := by decide +kernel
theorem dX5_isAlike_20 : decode cX5_isAlike 20 = .ok (.aload_n 0, 1) := by decide +kernel
theorem dX5_isAlike_21 : decode cX5_isAlike 21 = .ok (.getfield 50, 3) := by decide +kernel
theorem dX5_isAlike_24 : decode cX5_isAlike 24 = .ok (.iconst 5, 1) := by decide +kernel
theorem dX5_isAlike_25 : decode cX5_isAlike 25 = .ok (.iload_n 2, 1) := by decide +kernel
theorem dX5_isAlike_26 : decode cX5_isAlike 26 = .ok (.imul, 1) := by decide +kernel
theorem dX5_isAlike_27 : decode cX5_isAlike 27 = .ok (.iload_n 3, 1) := by decide +kernel
theorem dX5_isAlike_28 : decode cX5_isAlike 28 = .ok (.iadd, 1) := by decide +kernel
theorem dX5_isAlike_29 : decode cX5_isAlike 29 = .ok (.iaload, 1) := by decide +kernel
theorem dX5_isAlike_30 : decode cX5_isAlike 30 = .ok (.if_icmp .eq 5, 3) := by decide +kernel
theorem dX5_isAlike_33 : decode cX5_isAlike 33 = .ok (.iconst 0, 1) := by decide +kernel
theorem dX5_isAlike_34 : decode cX5_isAlike 34 = .ok (.ireturn, 1) := by decide +kernel
theorem dX5_isAlike_35 : decode cX5_isAlike 35 = .ok (.iinc 3 1, 3) := by decide +kernel
theorem dX5_isAlike_38 : decode cX5_isAlike 38 = .ok (.goto (-36), 3) := by decide +kernel
theorem dX5_isAlike_41 : decode cX5_isAlike 41 = .ok (.iconst 1, 1) := by decide +kernel
theorem dX5_isAlike_42 : decode cX5_isAlike 42 = .ok (.ireturn, 1) := by decide +kernel
theorem dX5_remembers_0 : decode cX5_remembers 0 = .ok (.aload_n 0, 1) := by decide +kernel
theorem dX5_remembers_1 : decode cX5_remembers 1 = .ok (.invokevirtual 252, 3) := by decide +kernel
theorem dX5_remembers_4 : decode cX5_remembers 4 = .ok (.iconst 0, 1) := by decide +kernel
theorem dX5_remembers_5 : decode cX5_remembers 5 = .ok (.istore_n 1, 1) := by decide +kernel
theorem dX5_remembers_6 : decode cX5_remembers 6 = .ok (.iload_n 1, 1) := by decide +kernel
theorem dX5_remembers_7 : decode cX5_remembers 7 = .ok (.bipush 41, 2) := by decide +kernel
theorem dX5_remembers_9 : decode cX5_remembers 9 = .ok (.if_icmp .ge 46, 3) := by decide +kernel
theorem dX5_remembers_12 : decode cX5_remembers 12 = .ok (.iload_n 1, 1) := by decide +kernel
theorem dX5_remembers_13 : decode cX5_remembers 13 = .ok (.ifCond .le 7, 3) := by decide +kernel
theorem dX5_remembers_16 : decode cX5_remembers 16 = .ok (.aload_n 0, 1) := by decide +kernel
theorem dX5_remembers_17 : decode cX5_remembers 17 = .ok (.invokevirtual 246, 3) := by decide +kernel
theorem dX5_remembers_20 : decode cX5_remembers 20 = .ok (.iconst 0, 1) := by decide +kernel
theorem dX5_remembers_21 : decode cX5_remembers 21 = .ok (.istore_n 2, 1) := by decide +kernel
theorem dX5_remembers_22 : decode cX5_remembers 22 = .ok (.iload_n 2, 1) := by decide +kernel
theorem dX5_remembers_23 : decode cX5_remembers 23 = .ok (.iconst 5, 1) := by decide +kernel
theorem dX5_remembers_24 : decode cX5_remembers 24 = .ok (.if_icmp .ge 25, 3) := by decide +kernel
theorem dX5_remembers_27 : decode cX5_remembers 27 = .ok (.aload_n 0, 1) := by decide +kernel
theorem dX5_remembers_28 : decode cX5_remembers 28 = .ok (.getfield 50, 3) := by decide +kernel
theorem dX5_remembers_31 : decode cX5_remembers 31 = .ok (.iconst 5, 1) := by decide +kernel
theorem dX5_remembers_32 : decode cX5_remembers 32 = .ok (.iload_n 1, 1) := by decide +kernel
theorem dX5_remembers_33 : decode cX5_remembers 33 = .ok (.imul, 1) := by decide +kernel
theorem dX5_remembers_34 : decode cX5_remembers 34 = .ok (.iload_n 2, 1) := by decide +kernel
theorem dX5_remembers_35 : decode cX5_remembers 35 = .ok (.iadd, 1) := by decide +kernel
theorem dX5_remembers_36 : decode cX5_remembers 36 = .ok (.aload_n 0, 1) := by decide +kernel
theorem dX5_remembers_37 : decode cX5_remembers 37 = .ok (.getfield 20, 3) := by decide +kernel
theorem dX5_remembers_40 : decode cX5_remembers 40 = .ok (.iload_n 2, 1) := by decide +kernel
theorem dX5_remembers_41 : decode cX5_remembers 41 = .ok (.iaload, 1) := by decide +kernel
theorem dX5_remembers_42 : decode cX5_remembers 42 = .ok (.iastore, 1) := by decide +kernel
theorem dX5_remembers_43 : decode cX5_remembers 43 = .ok (.iinc 2 1, 3) := by decide +kernel
theorem dX5_remembers_46 : decode cX5_remembers 46 = .ok (.goto (-24), 3) := by decide +kernel
theorem dX5_remembers_49 : decode cX5_remembers 49 = .ok (.iinc 1 1, 3) := by decide +kernel
theorem dX5_remembers_52 : decode cX5_remembers 52 = .ok (.goto (-46), 3) := by decide +kernel
theorem dX5_remembers_55 : decode cX5_remembers 55 = .ok (.aload_n 0, 1) := by decide +kernel
theorem dX5_remembers_56 : decode cX5_remembers 56 = .ok (.invokevirtual 258, 3) := by decide +kernel
theorem dX5_remembers_59 : decode cX5_remembers 59 = .ok (.return_, 1) := by decide +kernel
theorem dX5_again_0 : decode cX5_again 0 = .ok (.iload_n 1, 1) := by decide +kernel
theorem dX5_again_1 : decode cX5_again 1 = .ok (.iconst 0, 1) := by decide +kernel
theorem dX5_again_2 : decode cX5_again 2 = .ok (.iconst 2, 1) := by decide +kernel
theorem dX5_again_3 : decode cX5_again 3 = .ok (.invokestatic 82, 3) := by decide +kernel
theorem dX5_again_6 : decode cX5_again 6 = .ok (.ifCond .ne 6, 3) := by decide +kernel
theorem dX5_again_9 : decode cX5_again 9 = .ok (.bipush (-2), 2) := by decide +kernel
theorem dX5_again_11 : decode cX5_again 11 = .ok (.ireturn, 1) := by decide +kernel
theorem dX5_again_12 : decode cX5_again 12 = .ok (.aload_n 0, 1) := by decide +kernel
theorem dX5_again_13 : decode cX5_again 13 = .ok (.invokevirtual 261, 3) := by decide +kernel
theorem dX5_again_16 : decode cX5_again 16 = .ok (.iload_n 1, 1) := by decide +kernel
theorem dX5_again_17 : decode cX5_again 17 = .ok (.iconst 2, 1) := by decide +kernel
theorem dX5_again_18 : decode cX5_again 18 = .ok (.if_icmp .ne 32, 3) := by decide +kernel
theorem dX5_again_21 : decode cX5_again 21 = .ok (.iconst 0, 1) := by decide +kernel
theorem dX5_again_22 : decode cX5_again 22 = .ok (.istore_n 2, 1) := by decide +kernel
theorem dX5_again_23 : decode cX5_again 23 = .ok (.iload_n 2, 1) := by decide +kernel
theorem dX5_again_24 : decode cX5_again 24 = .ok (.bipush 40, 2) := by decide +kernel
theorem dX5_again_26 : decode cX5_again 26 = .ok (.if_icmp .ge 22, 3) := by decide +kernel
theorem dX5_again_29 : decode cX5_again 29 = .ok (.aload_n 0, 1) := by decide +kernel
theorem dX5_again_30 : decode cX5_again 30 = .ok (.iload_n 2, 1) := by decide +kernel
theorem dX5_again_31 : decode cX5_again 31 = .ok (.iload_n 2, 1) := by decide +kernel
theorem dX5_again_32 : decode cX5_again 32 = .ok (.iconst 1, 1) := by decide +kernel
theorem dX5_again_33 : decode cX5_again 33 = .ok (.iadd, 1) := by decide +kernel
theorem dX5_again_34 : decode cX5_again 34 = .ok (.invokevirtual 264, 3) := by decide +kernel
theorem dX5_again_37 : decode cX5_again 37 = .ok (.ifCond .eq 5, 3) := by decide +kernel
theorem dX5_again_40 : decode cX5_again 40 = .ok (.iload_n 2, 1) := by decide +kernel
theorem dX5_again_41 : decode cX5_again 41 = .ok (.ireturn, 1) := by decide +kernel
theorem dX5_again_42 : decode cX5_again 42 = .ok (.iinc 2 1, 3) := by decide +kernel
theorem dX5_again_45 : decode cX5_again 45 = .ok (.goto (-22), 3) := by decide +kernel
theorem dX5_again_48 : decode cX5_again 48 = .ok (.iconst (-1), 1) := by decide +kernel
theorem dX5_again_49 : decode cX5_again 49 = .ok (.ireturn, 1) := by decide +kernel
theorem dX5_again_50 : decode cX5_again 50 = .ok (.iconst 1, 1) := by decide +kernel
theorem dX5_again_51 : decode cX5_again 51 = .ok (.istore_n 2, 1) := by decide +kernel
theorem dX5_again_52 : decode cX5_again 52 = .ok (.iload_n 2, 1) := by decide +kernel
theorem dX5_again_53 : decode cX5_again 53 = .ok (.bipush 41, 2) := by decide +kernel
theorem dX5_again_55 : decode cX5_again 55 = .ok (.if_icmp .ge 44, 3) := by decide +kernel
theorem dX5_again_58 : decode cX5_again 58 = .ok (.iload_n 2, 1) := by decide +kernel
theorem dX5_again_59 : decode cX5_again 59 = .ok (.iconst 1, 1) := by decide +kernel
theorem dX5_again_60 : decode cX5_again 60 = .ok (.isub, 1) := by decide +kernel
theorem dX5_again_61 : decode cX5_again 61 = .ok (.istore_n 3, 1) := by decide +kernel
theorem dX5_again_62 : decode cX5_again 62 = .ok (.iload_n 3, 1) := by decide +kernel
theorem dX5_again_63 : decode cX5_again 63 = .ok (.ifCond .lt 30, 3) := by decide +kernel
theorem dX5_again_66 : decode cX5_again 66 = .ok (.aload_n 0, 1) := by decide +kernel
theorem dX5_again_67 : decode cX5_again 67 = .ok (.iload_n 2, 1) := by decide +kernel
theorem dX5_again_68 : decode cX5_again 68 = .ok (.iload_n 3, 1) := by decide +kernel
theorem dX5_again_69 : decode cX5_again 69 = .ok (.invokevirtual 264, 3) := by decide +kernel
theorem dX5_again_72 : decode cX5_again 72 = .ok (.ifCond .eq 15, 3) := by decide +kernel
theorem dX5_again_75 : decode cX5_again 75 = .ok (.iload_n 1, 1) := by decide +kernel
theorem dX5_again_76 : decode cX5_again 76 = .ok (.ifCond .ne 7, 3) := by decide +kernel
theorem dX5_again_79 : decode cX5_again 79 = .ok (.iload_n 2, 1) := by decide +kernel
theorem dX5_again_80 : decode cX5_again 80 = .ok (.goto 6, 3) := by decide +kernel
theorem dX5_again_83 : decode cX5_again 83 = .ok (.iload_n 2, 1) := by decide +kernel
theorem dX5_again_84 : decode cX5_again 84 = .ok (.iload_n 3, 1) := by decide +kernel
theorem dX5_again_85 : decode cX5_again 85 = .ok (.isub, 1) := by decide +kernel
theorem dX5_again_86 : decode cX5_again 86 = .ok (.ireturn, 1) := by decide +kernel
theorem dX5_again_87 : decode cX5_again 87 = .ok (.iinc 3 (-1), 3) := by decide +kernel
theorem dX5_again_90 : decode cX5_again 90 = .ok (.goto (-28), 3) := by decide +kernel
theorem dX5_again_93 : decode cX5_again 93 = .ok (.iinc 2 1, 3) := by decide +kernel
theorem dX5_again_96 : decode cX5_again 96 = .ok (.goto (-44), 3) := by decide +kernel
theorem dX5_again_99 : decode cX5_again 99 = .ok (.iconst (-1), 1) := by decide +kernel
theorem dX5_again_100 : decode cX5_again 100 = .ok (.ireturn, 1) := by decide +kernel
theorem dX5_lettuce_0 : decode cX5_lettuce 0 = .ok (.iconst 0, 1) := by decide +kernel
theorem dX5_lettuce_1 : decode cX5_lettuce 1 = .ok (.istore_n 2, 1) := by decide +kernel
theorem dX5_lettuce_2 : decode cX5_lettuce 2 = .ok (.iconst (-1), 1) := by decide +kernel
theorem dX5_lettuce_3 : decode cX5_lettuce 3 = .ok (.istore_n 3, 1) := by decide +kernel
theorem dX5_lettuce_4 : decode cX5_lettuce 4 = .ok (.iconst 0, 1) := by decide +kernel
theorem dX5_lettuce_5 : decode cX5_lettuce 5 = .ok (.istore 4, 2) := by decide +kernel
theorem dX5_lettuce_7 : decode cX5_lettuce 7 = .ok (.iload 4, 2) := by decide +kernel
theorem dX5_lettuce_9 : decode cX5_lettuce 9 = .ok (.aload_n 0, 1) := by decide +kernel
theorem dX5_lettuce_10 : decode cX5_lettuce 10 = .ok (.getfield 79, 3) := by decide +kernel
theorem dX5_lettuce_13 : decode cX5_lettuce 13 = .ok (.if_icmp .ge 66, 3) := by decide +kernel
theorem dX5_lettuce_16 : decode cX5_lettuce 16 = .ok (.iconst 0, 1) := by decide +kernel
theorem dX5_lettuce_17 : decode cX5_lettuce 17 = .ok (.istore 5, 2) := by decide +kernel
theorem dX5_lettuce_19 : decode cX5_lettuce 19 = .ok (.iload 5, 2) := by decide +kernel
theorem dX5_lettuce_21 : decode cX5_lettuce 21 = .ok (.aload_n 0, 1) := by decide +kernel
theorem dX5_lettuce_22 : decode cX5_lettuce 22 = .ok (.getfield 79, 3) := by decide +kernel
theorem dX5_lettuce_25 : decode cX5_lettuce 25 = .ok (.if_icmp .ge 48, 3) := by decide +kernel
theorem dX5_lettuce_28 : decode cX5_lettuce 28 = .ok (.iload 4, 2) := by decide +kernel
theorem dX5_lettuce_30 : decode cX5_lettuce 30 = .ok (.iload 5, 2) := by decide +kernel
theorem dX5_lettuce_32 : decode cX5_lettuce 32 = .ok (.if_icmp .eq 35, 3) := by decide +kernel
theorem dX5_lettuce_35 : decode cX5_lettuce 35 = .ok (.aload_n 0, 1) := by decide +kernel
theorem dX5_lettuce_36 : decode cX5_lettuce 36 = .ok (.iload 4, 2) := by decide +kernel
theorem dX5_lettuce_38 : decode cX5_lettuce 38 = .ok (.iload 5, 2) := by decide +kernel
theorem dX5_lettuce_40 : decode cX5_lettuce 40 = .ok (.invokevirtual 107, 3) := by decide +kernel
theorem dX5_lettuce_43 : decode cX5_lettuce 43 = .ok (.iconst 1, 1) := by decide +kernel
theorem dX5_lettuce_44 : decode cX5_lettuce 44 = .ok (.if_icmp .eq 6, 3) := by decide +kernel
theorem dX5_lettuce_47 : decode cX5_lettuce 47 = .ok (.goto 20, 3) := by decide +kernel
theorem dX5_lettuce_50 : decode cX5_lettuce 50 = .ok (.iinc 2 1, 3) := by decide +kernel
theorem dX5_lettuce_53 : decode cX5_lettuce 53 = .ok (.iload_n 3, 1) := by decide +kernel
theorem dX5_lettuce_54 : decode cX5_lettuce 54 = .ok (.iconst (-1), 1) := by decide +kernel
theorem dX5_lettuce_55 : decode cX5_lettuce 55 = .ok (.if_icmp .ne 12, 3) := by decide +kernel
theorem dX5_lettuce_58 : decode cX5_lettuce 58 = .ok (.bipush 10, 2) := by decide +kernel
theorem dX5_lettuce_60 : decode cX5_lettuce 60 = .ok (.iload 4, 2) := by decide +kernel
theorem dX5_lettuce_62 : decode cX5_lettuce 62 = .ok (.imul, 1) := by decide +kernel
theorem dX5_lettuce_63 : decode cX5_lettuce 63 = .ok (.iload 5, 2) := by decide +kernel
theorem dX5_lettuce_65 : decode cX5_lettuce 65 = .ok (.iadd, 1) := by decide +kernel
theorem dX5_lettuce_66 : decode cX5_lettuce 66 = .ok (.istore_n 3, 1) := by decide +kernel
theorem dX5_lettuce_67 : decode cX5_lettuce 67 = .ok (.iinc 5 1, 3) := by decide +kernel
theorem dX5_lettuce_70 : decode cX5_lettuce 70 = .ok (.goto (-51), 3) := by decide +kernel
theorem dX5_lettuce_73 : decode cX5_lettuce 73 = .ok (.iinc 4 1, 3) := by decide +kernel
theorem dX5_lettuce_76 : decode cX5_lettuce 76 = .ok (.goto (-69), 3) := by decide +kernel
theorem dX5_lettuce_79 : decode cX5_lettuce 79 = .ok (.iload_n 1, 1) := by decide +kernel
theorem dX5_lettuce_80 : decode cX5_lettuce 80 = .ok (.ifCond .ne 7, 3) := by decide +kernel
theorem dX5_lettuce_83 : decode cX5_lettuce 83 = .ok (.iload_n 2, 1) := by decide +kernel
theorem dX5_lettuce_84 : decode cX5_lettuce 84 = .ok (.goto 4, 3) := by decide +kernel
theorem dX5_lettuce_87 : decode cX5_lettuce 87 = .ok (.iload_n 3, 1) := by decide +kernel
theorem dX5_lettuce_88 : decode cX5_lettuce 88 = .ok (.ireturn, 1) := by decide +kernel
theorem dX5_left_0 : decode cX5_left 0 = .ok (.iconst 0, 1) := by decide +kernel
theorem dX5_left_1 : decode cX5_left 1 = .ok (.istore_n 1, 1) := by decide +kernel
theorem dX5_left_2 : decode cX5_left 2 = .ok (.iconst 0, 1) := by decide +kernel
theorem dX5_left_3 : decode cX5_left 3 = .ok (.istore_n 2, 1) := by decide +kernel
theorem dX5_left_4 : decode cX5_left 4 = .ok (.iload_n 2, 1) := by decide +kernel
theorem dX5_left_5 : decode cX5_left 5 = .ok (.aload_n 0, 1) := by decide +kernel
theorem dX5_left_6 : decode cX5_left 6 = .ok (.getfield 79, 3) := by decide +kernel
theorem dX5_left_9 : decode cX5_left 9 = .ok (.if_icmp .ge 23, 3) := by decide +kernel
theorem dX5_left_12 : decode cX5_left 12 = .ok (.aload_n 0, 1) := by decide +kernel
theorem dX5_left_13 : decode cX5_left 13 = .ok (.iload_n 2, 1) := by decide +kernel
theorem dX5_left_14 : decode cX5_left 14 = .ok (.invokevirtual 117, 3) := by decide +kernel
theorem dX5_left_17 : decode cX5_left 17 = .ok (.ifCond .ne 9, 3) := by decide +kernel
theorem dX5_left_20 : decode cX5_left 20 = .ok (.iload_n 1, 1) := by decide +kernel
theorem dX5_left_21 : decode cX5_left 21 = .ok (.iconst 1, 1) := by decide +kernel
theorem dX5_left_22 : decode cX5_left 22 = .ok (.iload_n 2, 1) := by decide +kernel
theorem dX5_left_23 : decode cX5_left 23 = .ok (.ishl, 1) := by decide +kernel
theorem dX5_left_24 : decode cX5_left 24 = .ok (.ior, 1) := by decide +kernel
theorem dX5_left_25 : decode cX5_left 25 = .ok (.istore_n 1, 1) := by decide +kernel
theorem dX5_left_26 : decode cX5_left 26 = .ok (.iinc 2 1, 3) := by decide +kernel
theorem dX5_left_29 : decode cX5_left 29 = .ok (.goto (-25), 3) := by decide +kernel
theorem dX5_left_32 : decode cX5_left 32 = .ok (.iload_n 1, 1) := by decide +kernel
theorem dX5_left_33 : decode cX5_left 33 = .ok (.ireturn, 1) := by decide +kernel
theorem dX5_all_0 : decode cX5_all 0 = .ok (.iload_n 1, 1) := by decide +kernel
theorem dX5_all_1 : decode cX5_all 1 = .ok (.tableswitch 53 0 3 #[31, 36, 42, 48], 31) := by decide +kernel
theorem dX5_all_32 : decode cX5_all 32 = .ok (.aload_n 0, 1) := by decide +kernel
theorem dX5_all_33 : decode cX5_all 33 = .ok (.invokevirtual 249, 3) := by decide +kernel
theorem dX5_all_36 : decode cX5_all 36 = .ok (.ireturn, 1) := by decide +kernel
theorem dX5_all_37 : decode cX5_all 37 = .ok (.aload_n 0, 1) := by decide +kernel
theorem dX5_all_38 : decode cX5_all 38 = .ok (.iconst 0, 1) := by decide +kernel
theorem dX5_all_39 : decode cX5_all 39 = .ok (.invokevirtual 267, 3) := by decide +kernel
theorem dX5_all_42 : decode cX5_all 42 = .ok (.ireturn, 1) := by decide +kernel
theorem dX5_all_43 : decode cX5_all 43 = .ok (.aload_n 0, 1) := by decide +kernel
theorem dX5_all_44 : decode cX5_all 44 = .ok (.iconst 1, 1) := by decide +kernel
theorem dX5_all_45 : decode cX5_all 45 = .ok (.invokevirtual 267, 3) := by decide +kernel
theorem dX5_all_48 : decode cX5_all 48 = .ok (.ireturn, 1) := by decide +kernel
theorem dX5_all_49 : decode cX5_all 49 = .ok (.aload_n 0, 1) := by decide +kernel
theorem dX5_all_50 : decode cX5_all 50 = .ok (.invokevirtual 270, 3) := by decide +kernel
theorem dX5_all_53 : decode cX5_all 53 = .ok (.ireturn, 1) := by decide +kernel
theorem dX5_all_54 : decode cX5_all 54 = .ok (.sipush (-1000), 3) := by decide +kernel
theorem dX5_all_57 : decode cX5_all 57 = .ok (.ireturn, 1) := by decide +kernel
theorem dX5_best_0 : decode cX5_best 0 = .ok (.aload_n 0, 1) := by decide +kernel
theorem dX5_best_1 : decode cX5_best 1 = .ok (.iload_n 1, 1) := by decide +kernel
theorem dX5_best_2 : decode cX5_best 2 = .ok (.invokevirtual 86, 3) := by decide +kernel
theorem dX5_best_5 : decode cX5_best 5 = .ok (.ifCond .eq 22, 3) := by decide +kernel
theorem dX5_best_8 : decode cX5_best 8 = .ok (.iload_n 2, 1) := by decide +kernel
theorem dX5_best_9 : decode cX5_best 9 = .ok (.iconst 0, 1) := by decide +kernel
theorem dX5_best_10 : decode cX5_best 10 = .ok (.bipush 10, 2) := by decide +kernel
theorem dX5_best_12 : decode cX5_best 12 = .ok (.invokestatic 82, 3) := by decide +kernel
theorem dX5_best_15 : decode cX5_best 15 = .ok (.ifCond .eq 12, 3) := by decide +kernel
theorem dX5_best_18 : decode cX5_best 18 = .ok (.iload_n 3, 1) := by decide +kernel
theorem dX5_best_19 : decode cX5_best 19 = .ok (.iconst 0, 1) := by decide +kernel
theorem dX5_best_20 : decode cX5_best 20 = .ok (.iconst 1, 1) := by decide +kernel
theorem dX5_best_21 : decode cX5_best 21 = .ok (.invokestatic 82, 3) := by decide +kernel
theorem dX5_best_24 : decode cX5_best 24 = .ok (.ifCond .ne 7, 3) := by decide +kernel
theorem dX5_best_27 : decode cX5_best 27 = .ok (.sipush (-1000), 3) := by decide +kernel
theorem dX5_best_30 : decode cX5_best 30 = .ok (.ireturn, 1) := by decide +kernel
theorem dX5_best_31 : decode cX5_best 31 = .ok (.aload_n 0, 1) := by decide +kernel
theorem dX5_best_32 : decode cX5_best 32 = .ok (.getfield 20, 3) := by decide +kernel
theorem dX5_best_35 : decode cX5_best 35 = .ok (.iload_n 1, 1) := by decide +kernel
theorem dX5_best_36 : decode cX5_best 36 = .ok (.iaload, 1) := by decide +kernel
theorem dX5_best_37 : decode cX5_best 37 = .ok (.istore 4, 2) := by decide +kernel
theorem dX5_best_39 : decode cX5_best 39 = .ok (.iconst 0, 1) := by decide +kernel
theorem dX5_best_40 : decode cX5_best 40 = .ok (.istore 5, 2) := by decide +kernel
theorem dX5_best_42 : decode cX5_best 42 = .ok (.sipush (-1000), 3) := by decide +kernel
theorem dX5_best_45 : decode cX5_best 45 = .ok (.istore 6, 2) := by decide +kernel
theorem dX5_best_47 : decode cX5_best 47 = .ok (.bipush (-20), 2) := by decide +kernel
theorem dX5_best_49 : decode cX5_best 49 = .ok (.istore 7, 2) := by decide +kernel
theorem dX5_best_51 : decode cX5_best 51 = .ok (.iload 7, 2) := by decide +kernel
theorem dX5_best_53 : decode cX5_best 53 = .ok (.bipush 21, 2) := by decide +kernel
theorem dX5_best_55 : decode cX5_best 55 = .ok (.if_icmp .ge 42, 3) := by decide +kernel
theorem dX5_best_58 : decode cX5_best 58 = .ok (.aload_n 0, 1) := by decide +kernel
theorem dX5_best_59 : decode cX5_best 59 = .ok (.getfield 20, 3) := by decide +kernel
theorem dX5_best_62 : decode cX5_best 62 = .ok (.iload_n 1, 1) := by decide +kernel
theorem dX5_best_63 : decode cX5_best 63 = .ok (.iload 7, 2) := by decide +kernel
theorem dX5_best_65 : decode cX5_best 65 = .ok (.iastore, 1) := by decide +kernel
theorem dX5_best_66 : decode cX5_best 66 = .ok (.aload_n 0, 1) := by decide +kernel
theorem dX5_best_67 : decode cX5_best 67 = .ok (.iload_n 2, 1) := by decide +kernel
theorem dX5_best_68 : decode cX5_best 68 = .ok (.invokevirtual 273, 3) := by decide +kernel
theorem dX5_best_71 : decode cX5_best 71 = .ok (.istore 8, 2) := by decide +kernel
theorem dX5_best_73 : decode cX5_best 73 = .ok (.iload 8, 2) := by decide +kernel
theorem dX5_best_75 : decode cX5_best 75 = .ok (.iload 6, 2) := by decide +kernel
theorem dX5_best_77 : decode cX5_best 77 = .ok (.if_icmp .gt 6, 3) := by decide +kernel
theorem dX5_best_80 : decode cX5_best 80 = .ok (.goto 11, 3) := by decide +kernel
theorem dX5_best_83 : decode cX5_best 83 = .ok (.iload 8, 2) := by decide +kernel
theorem dX5_best_85 : decode cX5_best 85 = .ok (.istore 6, 2) := by decide +kernel
theorem dX5_best_87 : decode cX5_best 87 = .ok (.iload 7, 2) := by decide +kernel
theorem dX5_best_89 : decode cX5_best 89 = .ok (.istore 5, 2) := by decide +kernel
theorem dX5_best_91 : decode cX5_best 91 = .ok (.iinc 7 1, 3) := by decide +kernel
theorem dX5_best_94 : decode cX5_best 94 = .ok (.goto (-43), 3) := by decide +kernel
theorem dX5_best_97 : decode cX5_best 97 = .ok (.aload_n 0, 1) := by decide +kernel
theorem dX5_best_98 : decode cX5_best 98 = .ok (.getfield 20, 3) := by decide +kernel
theorem dX5_best_101 : decode cX5_best 101 = .ok (.iload_n 1, 1) := by decide +kernel
theorem dX5_best_102 : decode cX5_best 102 = .ok (.iload 4, 2) := by decide +kernel
theorem dX5_best_104 : decode cX5_best 104 = .ok (.iastore, 1) := by decide +kernel
theorem dX5_best_105 : decode cX5_best 105 = .ok (.iload_n 3, 1) := by decide +kernel
theorem dX5_best_106 : decode cX5_best 106 = .ok (.ifCond .ne 8, 3) := by decide +kernel
theorem dX5_best_109 : decode cX5_best 109 = .ok (.iload 5, 2) := by decide +kernel
theorem dX5_best_111 : decode cX5_best 111 = .ok (.goto 5, 3) := by decide +kernel
theorem dX5_best_114 : decode cX5_best 114 = .ok (.iload 6, 2) := by decide +kernel
theorem dX5_best_116 : decode cX5_best 116 = .ok (.ireturn, 1) := by decide +kernel
theorem dX5_leaveOut_0 : decode cX5_leaveOut 0 = .ok (.iload_n 1, 1) := by decide +kernel
theorem dX5_leaveOut_1 : decode cX5_leaveOut 1 = .ok (.iconst 0, 1) := by decide +kernel
theorem dX5_leaveOut_2 : decode cX5_leaveOut 2 = .ok (.bipush 40, 2) := by decide +kernel
theorem dX5_leaveOut_4 : decode cX5_leaveOut 4 = .ok (.invokestatic 82, 3) := by decide +kernel
theorem dX5_leaveOut_7 : decode cX5_leaveOut 7 = .ok (.ifCond .eq 12, 3) := by decide +kernel
theorem dX5_leaveOut_10 : decode cX5_leaveOut 10 = .ok (.iload_n 2, 1) := by decide +kernel
theorem dX5_leaveOut_11 : decode cX5_leaveOut 11 = .ok (.iconst 0, 1) := by decide +kernel
theorem dX5_leaveOut_12 : decode cX5_leaveOut 12 = .ok (.iconst 1, 1) := by decide +kernel
theorem dX5_leaveOut_13 : decode cX5_leaveOut 13 = .ok (.invokestatic 82, 3) := by decide +kernel
theorem dX5_leaveOut_16 : decode cX5_leaveOut 16 = .ok (.ifCond .ne 7, 3) := by decide +kernel
theorem dX5_leaveOut_19 : decode cX5_leaveOut 19 = .ok (.sipush (-1000), 3) := by decide +kernel
theorem dX5_leaveOut_22 : decode cX5_leaveOut 22 = .ok (.ireturn, 1) := by decide +kernel
theorem dX5_leaveOut_23 : decode cX5_leaveOut 23 = .ok (.iconst (-1), 1) := by decide +kernel
theorem dX5_leaveOut_24 : decode cX5_leaveOut 24 = .ok (.istore_n 3, 1) := by decide +kernel
theorem dX5_leaveOut_25 : decode cX5_leaveOut 25 = .ok (.aload_n 0, 1) := by decide +kernel
theorem dX5_leaveOut_26 : decode cX5_leaveOut 26 = .ok (.iload_n 1, 1) := by decide +kernel
theorem dX5_leaveOut_27 : decode cX5_leaveOut 27 = .ok (.invokevirtual 273, 3) := by decide +kernel
theorem dX5_leaveOut_30 : decode cX5_leaveOut 30 = .ok (.istore 4, 2) := by decide +kernel
theorem dX5_leaveOut_32 : decode cX5_leaveOut 32 = .ok (.iconst 0, 1) := by decide +kernel
theorem dX5_leaveOut_33 : decode cX5_leaveOut 33 = .ok (.istore 5, 2) := by decide +kernel
theorem dX5_leaveOut_35 : decode cX5_leaveOut 35 = .ok (.iload 5, 2) := by decide +kernel
theorem dX5_leaveOut_37 : decode cX5_leaveOut 37 = .ok (.aload_n 0, 1) := by decide +kernel
theorem dX5_leaveOut_38 : decode cX5_leaveOut 38 = .ok (.getfield 79, 3) := by decide +kernel
theorem dX5_leaveOut_41 : decode cX5_leaveOut 41 = .ok (.if_icmp .ge 44, 3) := by decide +kernel
theorem dX5_leaveOut_44 : decode cX5_leaveOut 44 = .ok (.aload_n 0, 1) := by decide +kernel
theorem dX5_leaveOut_45 : decode cX5_leaveOut 45 = .ok (.iload 5, 2) := by decide +kernel
theorem dX5_leaveOut_47 : decode cX5_leaveOut 47 = .ok (.putfield 68, 3) := by decide +kernel
theorem dX5_leaveOut_50 : decode cX5_leaveOut 50 = .ok (.aload_n 0, 1) := by decide +kernel
theorem dX5_leaveOut_51 : decode cX5_leaveOut 51 = .ok (.iload_n 1, 1) := by decide +kernel
theorem dX5_leaveOut_52 : decode cX5_leaveOut 52 = .ok (.invokevirtual 273, 3) := by decide +kernel
theorem dX5_leaveOut_55 : decode cX5_leaveOut 55 = .ok (.istore 6, 2) := by decide +kernel
theorem dX5_leaveOut_57 : decode cX5_leaveOut 57 = .ok (.aload_n 0, 1) := by decide +kernel
theorem dX5_leaveOut_58 : decode cX5_leaveOut 58 = .ok (.iconst (-1), 1) := by decide +kernel
theorem dX5_leaveOut_59 : decode cX5_leaveOut 59 = .ok (.putfield 68, 3) := by decide +kernel
theorem dX5_leaveOut_62 : decode cX5_leaveOut 62 = .ok (.iload 6, 2) := by decide +kernel
theorem dX5_leaveOut_64 : decode cX5_leaveOut 64 = .ok (.iload 4, 2) := by decide +kernel
theorem dX5_leaveOut_66 : decode cX5_leaveOut 66 = .ok (.if_icmp .gt 6, 3) := by decide +kernel
theorem dX5_leaveOut_69 : decode cX5_leaveOut 69 = .ok (.goto 10, 3) := by decide +kernel
theorem dX5_leaveOut_72 : decode cX5_leaveOut 72 = .ok (.iload 6, 2) := by decide +kernel
theorem dX5_leaveOut_74 : decode cX5_leaveOut 74 = .ok (.istore 4, 2) := by decide +kernel
theorem dX5_leaveOut_76 : decode cX5_leaveOut 76 = .ok (.iload 5, 2) := by decide +kernel
theorem dX5_leaveOut_78 : decode cX5_leaveOut 78 = .ok (.istore_n 3, 1) := by decide +kernel
theorem dX5_leaveOut_79 : decode cX5_leaveOut 79 = .ok (.iinc 5 1, 3) := by decide +kernel
theorem dX5_leaveOut_82 : decode cX5_leaveOut 82 = .ok (.goto (-47), 3) := by decide +kernel
theorem dX5_leaveOut_85 : decode cX5_leaveOut 85 = .ok (.iload_n 2, 1) := by decide +kernel
theorem dX5_leaveOut_86 : decode cX5_leaveOut 86 = .ok (.ifCond .ne 7, 3) := by decide +kernel
theorem dX5_leaveOut_89 : decode cX5_leaveOut 89 = .ok (.iload_n 3, 1) := by decide +kernel
theorem dX5_leaveOut_90 : decode cX5_leaveOut 90 = .ok (.goto 5, 3) := by decide +kernel
theorem dX5_leaveOut_93 : decode cX5_leaveOut 93 = .ok (.iload 4, 2) := by decide +kernel
theorem dX5_leaveOut_95 : decode cX5_leaveOut 95 = .ok (.ireturn, 1) := by decide +kernel
theorem dX5_spare_0 : decode cX5_spare 0 = .ok (.iload_n 1, 1) := by decide +kernel
theorem dX5_spare_1 : decode cX5_spare 1 = .ok (.iconst 0, 1) := by decide +kernel
theorem dX5_spare_2 : decode cX5_spare 2 = .ok (.bipush 40, 2) := by decide +kernel
theorem dX5_spare_4 : decode cX5_spare 4 = .ok (.invokestatic 82, 3) := by decide +kernel
theorem dX5_spare_7 : decode cX5_spare 7 = .ok (.ifCond .eq 12, 3) := by decide +kernel
theorem dX5_spare_10 : decode cX5_spare 10 = .ok (.iload_n 2, 1) := by decide +kernel
theorem dX5_spare_11 : decode cX5_spare 11 = .ok (.iconst 0, 1) := by decide +kernel
theorem dX5_spare_12 : decode cX5_spare 12 = .ok (.iconst 1, 1) := by decide +kernel
theorem dX5_spare_13 : decode cX5_spare 13 = .ok (.invokestatic 82, 3) := by decide +kernel
theorem dX5_spare_16 : decode cX5_spare 16 = .ok (.ifCond .ne 7, 3) := by decide +kernel
theorem dX5_spare_19 : decode cX5_spare 19 = .ok (.sipush (-1000), 3) := by decide +kernel
theorem dX5_spare_22 : decode cX5_spare 22 = .ok (.ireturn, 1) := by decide +kernel
theorem dX5_spare_23 : decode cX5_spare 23 = .ok (.iconst (-1), 1) := by decide +kernel
theorem dX5_spare_24 : decode cX5_spare 24 = .ok (.istore_n 3, 1) := by decide +kernel
theorem dX5_spare_25 : decode cX5_spare 25 = .ok (.aload_n 0, 1) := by decide +kernel
theorem dX5_spare_26 : decode cX5_spare 26 = .ok (.iload_n 1, 1) := by decide +kernel
theorem dX5_spare_27 : decode cX5_spare 27 = .ok (.invokevirtual 273, 3) := by decide +kernel
theorem dX5_spare_30 : decode cX5_spare 30 = .ok (.istore 4, 2) := by decide +kernel
theorem dX5_spare_32 : decode cX5_spare 32 = .ok (.iconst 0, 1) := by decide +kernel
theorem dX5_spare_33 : decode cX5_spare 33 = .ok (.istore 5, 2) := by decide +kernel
theorem dX5_spare_35 : decode cX5_spare 35 = .ok (.iload 5, 2) := by decide +kernel
theorem dX5_spare_37 : decode cX5_spare 37 = .ok (.bipush 8, 2) := by decide +kernel
theorem dX5_spare_39 : decode cX5_spare 39 = .ok (.if_icmp .ge 62, 3) := by decide +kernel
theorem dX5_spare_42 : decode cX5_spare 42 = .ok (.aload_n 0, 1) := by decide +kernel
theorem dX5_spare_43 : decode cX5_spare 43 = .ok (.getfield 7, 3) := by decide +kernel
theorem dX5_spare_46 : decode cX5_spare 46 = .ok (.iload 5, 2) := by decide +kernel
theorem dX5_spare_48 : decode cX5_spare 48 = .ok (.baload, 1) := by decide +kernel
theorem dX5_spare_49 : decode cX5_spare 49 = .ok (.ifCond .ne 6, 3) := by decide +kernel
theorem dX5_spare_52 : decode cX5_spare 52 = .ok (.goto 43, 3) := by decide +kernel
theorem dX5_spare_55 : decode cX5_spare 55 = .ok (.aload_n 0, 1) := by decide +kernel
theorem dX5_spare_56 : decode cX5_spare 56 = .ok (.getfield 7, 3) := by decide +kernel
theorem dX5_spare_59 : decode cX5_spare 59 = .ok (.iload 5, 2) := by decide +kernel
theorem dX5_spare_61 : decode cX5_spare 61 = .ok (.iconst 0, 1) := by decide +kernel
theorem dX5_spare_62 : decode cX5_spare 62 = .ok (.bastore, 1) := by decide +kernel
theorem dX5_spare_63 : decode cX5_spare 63 = .ok (.aload_n 0, 1) := by decide +kernel
theorem dX5_spare_64 : decode cX5_spare 64 = .ok (.iload_n 1, 1) := by decide +kernel
theorem dX5_spare_65 : decode cX5_spare 65 = .ok (.invokevirtual 273, 3) := by decide +kernel
theorem dX5_spare_68 : decode cX5_spare 68 = .ok (.istore 6, 2) := by decide +kernel
theorem dX5_spare_70 : decode cX5_spare 70 = .ok (.aload_n 0, 1) := by decide +kernel
theorem dX5_spare_71 : decode cX5_spare 71 = .ok (.getfield 7, 3) := by decide +kernel
theorem dX5_spare_74 : decode cX5_spare 74 = .ok (.iload 5, 2) := by decide +kernel
theorem dX5_spare_76 : decode cX5_spare 76 = .ok (.iconst 1, 1) := by decide +kernel
theorem dX5_spare_77 : decode cX5_spare 77 = .ok (.bastore, 1) := by decide +kernel
theorem dX5_spare_78 : decode cX5_spare 78 = .ok (.iload 6, 2) := by decide +kernel
theorem dX5_spare_80 : decode cX5_spare 80 = .ok (.iload 4, 2) := by decide +kernel
theorem dX5_spare_82 : decode cX5_spare 82 = .ok (.if_icmp .gt 6, 3) := by decide +kernel
theorem dX5_spare_85 : decode cX5_spare 85 = .ok (.goto 10, 3) := by decide +kernel
theorem dX5_spare_88 : decode cX5_spare 88 = .ok (.iload 6, 2) := by decide +kernel
theorem dX5_spare_90 : decode cX5_spare 90 = .ok (.istore 4, 2) := by decide +kernel
theorem dX5_spare_92 : decode cX5_spare 92 = .ok (.iload 5, 2) := by decide +kernel
theorem dX5_spare_94 : decode cX5_spare 94 = .ok (.istore_n 3, 1) := by decide +kernel
theorem dX5_spare_95 : decode cX5_spare 95 = .ok (.iinc 5 1, 3) := by decide +kernel
theorem dX5_spare_98 : decode cX5_spare 98 = .ok (.goto (-63), 3) := by decide +kernel
theorem dX5_spare_101 : decode cX5_spare 101 = .ok (.iload_n 2, 1) := by decide +kernel
theorem dX5_spare_102 : decode cX5_spare 102 = .ok (.ifCond .ne 7, 3) := by decide +kernel
theorem dX5_spare_105 : decode cX5_spare 105 = .ok (.iload_n 3, 1) := by decide +kernel
theorem dX5_spare_106 : decode cX5_spare 106 = .ok (.goto 5, 3) := by decide +kernel
theorem dX5_spare_109 : decode cX5_spare 109 = .ok (.iload 4, 2) := by decide +kernel
theorem dX5_spare_111 : decode cX5_spare 111 = .ok (.ireturn, 1) := by decide +kernel
theorem dX5_add_0 : decode cX5_add 0 = .ok (.aload_n 0, 1) := by decide +kernel
theorem dX5_add_1 : decode cX5_add 1 = .ok (.iload_n 1, 1) := by decide +kernel
theorem dX5_add_2 : decode cX5_add 2 = .ok (.iload_n 2, 1) := by decide +kernel
theorem dX5_add_3 : decode cX5_add 3 = .ok (.invokevirtual 240, 3) := by decide +kernel
theorem dX5_add_6 : decode cX5_add 6 = .ok (.ifCond .eq 12, 3) := by decide +kernel
theorem dX5_add_9 : decode cX5_add 9 = .ok (.iload_n 3, 1) := by decide +kernel
theorem dX5_add_10 : decode cX5_add 10 = .ok (.iconst 0, 1) := by decide +kernel
theorem dX5_add_11 : decode cX5_add 11 = .ok (.iconst 1, 1) := by decide +kernel
theorem dX5_add_12 : decode cX5_add 12 = .ok (.invokestatic 82, 3) := by decide +kernel
theorem dX5_add_15 : decode cX5_add 15 = .ok (.ifCond .ne 7, 3) := by decide +kernel
theorem dX5_add_18 : decode cX5_add 18 = .ok (.sipush (-1000), 3) := by decide +kernel
theorem dX5_add_21 : decode cX5_add 21 = .ok (.ireturn, 1) := by decide +kernel
theorem dX5_add_22 : decode cX5_add 22 = .ok (.aload_n 0, 1) := by decide +kernel
theorem dX5_add_23 : decode cX5_add 23 = .ok (.getfield 20, 3) := by decide +kernel
theorem dX5_add_26 : decode cX5_add 26 = .ok (.iload_n 2, 1) := by decide +kernel
theorem dX5_add_27 : decode cX5_add 27 = .ok (.iaload, 1) := by decide +kernel
theorem dX5_add_28 : decode cX5_add 28 = .ok (.aload_n 0, 1) := by decide +kernel
theorem dX5_add_29 : decode cX5_add 29 = .ok (.iload_n 2, 1) := by decide +kernel
theorem dX5_add_30 : decode cX5_add 30 = .ok (.invokevirtual 120, 3) := by decide +kernel
theorem dX5_add_33 : decode cX5_add 33 = .ok (.iadd, 1) := by decide +kernel
theorem dX5_add_34 : decode cX5_add 34 = .ok (.istore 4, 2) := by decide +kernel
theorem dX5_add_36 : decode cX5_add 36 = .ok (.aload_n 0, 1) := by decide +kernel
theorem dX5_add_37 : decode cX5_add 37 = .ok (.iload_n 1, 1) := by decide +kernel
theorem dX5_add_38 : decode cX5_add 38 = .ok (.iload_n 2, 1) := by decide +kernel
theorem dX5_add_39 : decode cX5_add 39 = .ok (.invokevirtual 107, 3) := by decide +kernel
theorem dX5_add_42 : decode cX5_add 42 = .ok (.istore 5, 2) := by decide +kernel
theorem dX5_add_44 : decode cX5_add 44 = .ok (.iconst (-1), 1) := by decide +kernel
theorem dX5_add_45 : decode cX5_add 45 = .ok (.istore 6, 2) := by decide +kernel
theorem dX5_add_47 : decode cX5_add 47 = .ok (.iload 4, 2) := by decide +kernel
theorem dX5_add_49 : decode cX5_add 49 = .ok (.invokestatic 123, 3) := by decide +kernel
theorem dX5_add_52 : decode cX5_add 52 = .ok (.istore 7, 2) := by decide +kernel
theorem dX5_add_54 : decode cX5_add 54 = .ok (.iconst 0, 1) := by decide +kernel
theorem dX5_add_55 : decode cX5_add 55 = .ok (.istore 8, 2) := by decide +kernel
theorem dX5_add_57 : decode cX5_add 57 = .ok (.iload 8, 2) := by decide +kernel
theorem dX5_add_59 : decode cX5_add 59 = .ok (.bipush 8, 2) := by decide +kernel
theorem dX5_add_61 : decode cX5_add 61 = .ok (.if_icmp .ge 67, 3) := by decide +kernel
theorem dX5_add_64 : decode cX5_add 64 = .ok (.aload_n 0, 1) := by decide +kernel
theorem dX5_add_65 : decode cX5_add 65 = .ok (.getfield 7, 3) := by decide +kernel
theorem dX5_add_68 : decode cX5_add 68 = .ok (.iload 8, 2) := by decide +kernel
theorem dX5_add_70 : decode cX5_add 70 = .ok (.baload, 1) := by decide +kernel
theorem dX5_add_71 : decode cX5_add 71 = .ok (.ifCond .eq 51, 3) := by decide +kernel
theorem dX5_add_74 : decode cX5_add 74 = .ok (.iload 5, 2) := by decide +kernel
theorem dX5_add_76 : decode cX5_add 76 = .ok (.iload 8, 2) := by decide +kernel
theorem dX5_add_78 : decode cX5_add 78 = .ok (.ishr, 1) := by decide +kernel
theorem dX5_add_79 : decode cX5_add 79 = .ok (.iconst 1, 1) := by decide +kernel
theorem dX5_add_80 : decode cX5_add 80 = .ok (.iand, 1) := by decide +kernel
theorem dX5_add_81 : decode cX5_add 81 = .ok (.iconst 1, 1) := by decide +kernel
theorem dX5_add_82 : decode cX5_add 82 = .ok (.if_icmp .ne 6, 3) := by decide +kernel
theorem dX5_add_85 : decode cX5_add 85 = .ok (.goto 37, 3) := by decide +kernel
theorem dX5_add_88 : decode cX5_add 88 = .ok (.iload 4, 2) := by decide +kernel
theorem dX5_add_90 : decode cX5_add 90 = .ok (.aload_n 0, 1) := by decide +kernel
theorem dX5_add_91 : decode cX5_add 91 = .ok (.iload_n 1, 1) := by decide +kernel
theorem dX5_add_92 : decode cX5_add 92 = .ok (.iload_n 2, 1) := by decide +kernel
theorem dX5_add_93 : decode cX5_add 93 = .ok (.iload 8, 2) := by decide +kernel
theorem dX5_add_95 : decode cX5_add 95 = .ok (.invokevirtual 234, 3) := by decide +kernel
theorem dX5_add_98 : decode cX5_add 98 = .ok (.iadd, 1) := by decide +kernel
theorem dX5_add_99 : decode cX5_add 99 = .ok (.invokestatic 123, 3) := by decide +kernel
theorem dX5_add_102 : decode cX5_add 102 = .ok (.istore 9, 2) := by decide +kernel
theorem dX5_add_104 : decode cX5_add 104 = .ok (.iload 9, 2) := by decide +kernel
theorem dX5_add_106 : decode cX5_add 106 = .ok (.iload 7, 2) := by decide +kernel
theorem dX5_add_108 : decode cX5_add 108 = .ok (.if_icmp .gt 6, 3) := by decide +kernel
theorem dX5_add_111 : decode cX5_add 111 = .ok (.goto 11, 3) := by decide +kernel
theorem dX5_add_114 : decode cX5_add 114 = .ok (.iload 9, 2) := by decide +kernel
theorem dX5_add_116 : decode cX5_add 116 = .ok (.istore 7, 2) := by decide +kernel
theorem dX5_add_118 : decode cX5_add 118 = .ok (.iload 8, 2) := by decide +kernel
theorem dX5_add_120 : decode cX5_add 120 = .ok (.istore 6, 2) := by decide +kernel
theorem dX5_add_122 : decode cX5_add 122 = .ok (.iinc 8 1, 3) := by decide +kernel
theorem dX5_add_125 : decode cX5_add 125 = .ok (.goto (-68), 3) := by decide +kernel
theorem dX5_add_128 : decode cX5_add 128 = .ok (.iload_n 3, 1) := by decide +kernel
theorem dX5_add_129 : decode cX5_add 129 = .ok (.ifCond .ne 8, 3) := by decide +kernel
theorem dX5_add_132 : decode cX5_add 132 = .ok (.iload 6, 2) := by decide +kernel
theorem dX5_add_134 : decode cX5_add 134 = .ok (.goto 5, 3) := by decide +kernel
theorem dX5_add_137 : decode cX5_add 137 = .ok (.iload 7, 2) := by decide +kernel
theorem dX5_add_139 : decode cX5_add 139 = .ok (.ireturn, 1) := by decide +kernel
theorem dX5_wrong_0 : decode cX5_wrong 0 = .ok (.aload_n 0, 1) := by decide +kernel
theorem dX5_wrong_1 : decode cX5_wrong 1 = .ok (.invokevirtual 252, 3) := by decide +kernel
theorem dX5_wrong_4 : decode cX5_wrong 4 = .ok (.iconst (-1), 1) := by decide +kernel
theorem dX5_wrong_5 : decode cX5_wrong 5 = .ok (.istore_n 3, 1) := by decide +kernel
theorem dX5_wrong_6 : decode cX5_wrong 6 = .ok (.iconst 0, 1) := by decide +kernel
theorem dX5_wrong_7 : decode cX5_wrong 7 = .ok (.istore 4, 2) := by decide +kernel
theorem dX5_wrong_9 : decode cX5_wrong 9 = .ok (.iload 4, 2) := by decide +kernel
theorem dX5_wrong_11 : decode cX5_wrong 11 = .ok (.aload_n 0, 1) := by decide +kernel
theorem dX5_wrong_12 : decode cX5_wrong 12 = .ok (.getfield 62, 3) := by decide +kernel
theorem dX5_wrong_15 : decode cX5_wrong 15 = .ok (.iload_n 1, 1) := by decide +kernel
theorem dX5_wrong_16 : decode cX5_wrong 16 = .ok (.iaload, 1) := by decide +kernel
theorem dX5_wrong_17 : decode cX5_wrong 17 = .ok (.if_icmp .ge 42, 3) := by decide +kernel
theorem dX5_wrong_20 : decode cX5_wrong 20 = .ok (.iload_n 3, 1) := by decide +kernel
theorem dX5_wrong_21 : decode cX5_wrong 21 = .ok (.iconst (-1), 1) := by decide +kernel
theorem dX5_wrong_22 : decode cX5_wrong 22 = .ok (.if_icmp .ne 37, 3) := by decide +kernel
theorem dX5_wrong_25 : decode cX5_wrong 25 = .ok (.aload_n 0, 1) := by decide +kernel
theorem dX5_wrong_26 : decode cX5_wrong 26 = .ok (.invokevirtual 246, 3) := by decide +kernel
theorem dX5_wrong_29 : decode cX5_wrong 29 = .ok (.aload_n 0, 1) := by decide +kernel
theorem dX5_wrong_30 : decode cX5_wrong 30 = .ok (.getfield 20, 3) := by decide +kernel
theorem dX5_wrong_33 : decode cX5_wrong 33 = .ok (.iload_n 2, 1) := by decide +kernel
theorem dX5_wrong_34 : decode cX5_wrong 34 = .ok (.iaload, 1) := by decide +kernel
theorem dX5_wrong_35 : decode cX5_wrong 35 = .ok (.aload_n 0, 1) := by decide +kernel
theorem dX5_wrong_36 : decode cX5_wrong 36 = .ok (.getfield 65, 3) := by decide +kernel
theorem dX5_wrong_39 : decode cX5_wrong 39 = .ok (.bipush 40, 2) := by decide +kernel
theorem dX5_wrong_41 : decode cX5_wrong 41 = .ok (.iload_n 1, 1) := by decide +kernel
theorem dX5_wrong_42 : decode cX5_wrong 42 = .ok (.imul, 1) := by decide +kernel
theorem dX5_wrong_43 : decode cX5_wrong 43 = .ok (.iload 4, 2) := by decide +kernel
theorem dX5_wrong_45 : decode cX5_wrong 45 = .ok (.iadd, 1) := by decide +kernel
theorem dX5_wrong_46 : decode cX5_wrong 46 = .ok (.iaload, 1) := by decide +kernel
theorem dX5_wrong_47 : decode cX5_wrong 47 = .ok (.if_icmp .eq 6, 3) := by decide +kernel
theorem dX5_wrong_50 : decode cX5_wrong 50 = .ok (.iload 4, 2) := by decide +kernel
theorem dX5_wrong_52 : decode cX5_wrong 52 = .ok (.istore_n 3, 1) := by decide +kernel
theorem dX5_wrong_53 : decode cX5_wrong 53 = .ok (.iinc 4 1, 3) := by decide +kernel
theorem dX5_wrong_56 : decode cX5_wrong 56 = .ok (.goto (-47), 3) := by decide +kernel
theorem dX5_wrong_59 : decode cX5_wrong 59 = .ok (.aload_n 0, 1) := by decide +kernel
theorem dX5_wrong_60 : decode cX5_wrong 60 = .ok (.invokevirtual 258, 3) := by decide +kernel
theorem dX5_wrong_63 : decode cX5_wrong 63 = .ok (.iload_n 3, 1) := by decide +kernel
theorem dX5_wrong_64 : decode cX5_wrong 64 = .ok (.ireturn, 1) := by decide +kernel
theorem dX5_kindsSo_0 : decode cX5_kindsSo 0 = .ok (.aload_n 0, 1) := by decide +kernel
theorem dX5_kindsSo_1 : decode cX5_kindsSo 1 = .ok (.getfield 13, 3) := by decide +kernel
theorem dX5_kindsSo_4 : decode cX5_kindsSo 4 = .ok (.iload_n 2, 1) := by decide +kernel
theorem dX5_kindsSo_5 : decode cX5_kindsSo 5 = .ok (.iaload, 1) := by decide +kernel
theorem dX5_kindsSo_6 : decode cX5_kindsSo 6 = .ok (.istore_n 3, 1) := by decide +kernel
theorem dX5_kindsSo_7 : decode cX5_kindsSo 7 = .ok (.iconst 0, 1) := by decide +kernel
theorem dX5_kindsSo_8 : decode cX5_kindsSo 8 = .ok (.istore 4, 2) := by decide +kernel
theorem dX5_kindsSo_10 : decode cX5_kindsSo 10 = .ok (.iconst 0, 1) := by decide +kernel
theorem dX5_kindsSo_11 : decode cX5_kindsSo 11 = .ok (.istore 5, 2) := by decide +kernel
theorem dX5_kindsSo_13 : decode cX5_kindsSo 13 = .ok (.iload 5, 2) := by decide +kernel
theorem dX5_kindsSo_15 : decode cX5_kindsSo 15 = .ok (.bipush 6, 2) := by decide +kernel
theorem dX5_kindsSo_17 : decode cX5_kindsSo 17 = .ok (.if_icmp .ge 36, 3) := by decide +kernel
theorem dX5_kindsSo_20 : decode cX5_kindsSo 20 = .ok (.aload_n 0, 1) := by decide +kernel
theorem dX5_kindsSo_21 : decode cX5_kindsSo 21 = .ok (.getfield 13, 3) := by decide +kernel
theorem dX5_kindsSo_24 : decode cX5_kindsSo 24 = .ok (.iload_n 2, 1) := by decide +kernel
theorem dX5_kindsSo_25 : decode cX5_kindsSo 25 = .ok (.iload 5, 2) := by decide +kernel
theorem dX5_kindsSo_27 : decode cX5_kindsSo 27 = .ok (.iastore, 1) := by decide +kernel
theorem dX5_kindsSo_28 : decode cX5_kindsSo 28 = .ok (.aload_n 0, 1) := by decide +kernel
theorem dX5_kindsSo_29 : decode cX5_kindsSo 29 = .ok (.iload_n 1, 1) := by decide +kernel
theorem dX5_kindsSo_30 : decode cX5_kindsSo 30 = .ok (.iload_n 2, 1) := by decide +kernel
theorem dX5_kindsSo_31 : decode cX5_kindsSo 31 = .ok (.invokevirtual 276, 3) := by decide +kernel
theorem dX5_kindsSo_34 : decode cX5_kindsSo 34 = .ok (.iconst (-1), 1) := by decide +kernel
theorem dX5_kindsSo_35 : decode cX5_kindsSo 35 = .ok (.if_icmp .ne 12, 3) := by decide +kernel
theorem dX5_kindsSo_38 : decode cX5_kindsSo 38 = .ok (.iload 4, 2) := by decide +kernel
theorem dX5_kindsSo_40 : decode cX5_kindsSo 40 = .ok (.iconst 1, 1) := by decide +kernel
theorem dX5_kindsSo_41 : decode cX5_kindsSo 41 = .ok (.iload 5, 2) := by decide +kernel
theorem dX5_kindsSo_43 : decode cX5_kindsSo 43 = .ok (.ishl, 1) := by decide +kernel
theorem dX5_kindsSo_44 : decode cX5_kindsSo 44 = .ok (.ior, 1) := by decide +kernel
theorem dX5_kindsSo_45 : decode cX5_kindsSo 45 = .ok (.istore 4, 2) := by decide +kernel
theorem dX5_kindsSo_47 : decode cX5_kindsSo 47 = .ok (.iinc 5 1, 3) := by decide +kernel
theorem dX5_kindsSo_50 : decode cX5_kindsSo 50 = .ok (.goto (-37), 3) := by decide +kernel
theorem dX5_kindsSo_53 : decode cX5_kindsSo 53 = .ok (.aload_n 0, 1) := by decide +kernel
theorem dX5_kindsSo_54 : decode cX5_kindsSo 54 = .ok (.getfield 13, 3) := by decide +kernel
theorem dX5_kindsSo_57 : decode cX5_kindsSo 57 = .ok (.iload_n 2, 1) := by decide +kernel
theorem dX5_kindsSo_58 : decode cX5_kindsSo 58 = .ok (.iload_n 3, 1) := by decide +kernel
theorem dX5_kindsSo_59 : decode cX5_kindsSo 59 = .ok (.iastore, 1) := by decide +kernel
theorem dX5_kindsSo_60 : decode cX5_kindsSo 60 = .ok (.iload 4, 2) := by decide +kernel
theorem dX5_kindsSo_62 : decode cX5_kindsSo 62 = .ok (.ireturn, 1) := by decide +kernel
theorem dX5_numbersSo_0 : decode cX5_numbersSo 0 = .ok (.aload_n 0, 1) := by decide +kernel
theorem dX5_numbersSo_1 : decode cX5_numbersSo 1 = .ok (.getfield 17, 3) := by decide +kernel
theorem dX5_numbersSo_4 : decode cX5_numbersSo 4 = .ok (.iload_n 2, 1) := by decide +kernel
theorem dX5_numbersSo_5 : decode cX5_numbersSo 5 = .ok (.iaload, 1) := by decide +kernel
theorem dX5_numbersSo_6 : decode cX5_numbersSo 6 = .ok (.istore_n 3, 1) := by decide +kernel
theorem dX5_numbersSo_7 : decode cX5_numbersSo 7 = .ok (.iconst 0, 1) := by decide +kernel
theorem dX5_numbersSo_8 : decode cX5_numbersSo 8 = .ok (.istore 4, 2) := by decide +kernel
theorem dX5_numbersSo_10 : decode cX5_numbersSo 10 = .ok (.iconst 0, 1) := by decide +kernel
theorem dX5_numbersSo_11 : decode cX5_numbersSo 11 = .ok (.istore 5, 2) := by decide +kernel
theorem dX5_numbersSo_13 : decode cX5_numbersSo 13 = .ok (.iload 5, 2) := by decide +kernel
theorem dX5_numbersSo_15 : decode cX5_numbersSo 15 = .ok (.bipush 10, 2) := by decide +kernel
theorem dX5_numbersSo_17 : decode cX5_numbersSo 17 = .ok (.if_icmp .ge 36, 3) := by decide +kernel
theorem dX5_numbersSo_20 : decode cX5_numbersSo 20 = .ok (.aload_n 0, 1) := by decide +kernel
theorem dX5_numbersSo_21 : decode cX5_numbersSo 21 = .ok (.getfield 17, 3) := by decide +kernel
theorem dX5_numbersSo_24 : decode cX5_numbersSo 24 = .ok (.iload_n 2, 1) := by decide +kernel
theorem dX5_numbersSo_25 : decode cX5_numbersSo 25 = .ok (.iload 5, 2) := by decide +kernel
theorem dX5_numbersSo_27 : decode cX5_numbersSo 27 = .ok (.iastore, 1) := by decide +kernel
theorem dX5_numbersSo_28 : decode cX5_numbersSo 28 = .ok (.aload_n 0, 1) := by decide +kernel
theorem dX5_numbersSo_29 : decode cX5_numbersSo 29 = .ok (.iload_n 1, 1) := by decide +kernel
theorem dX5_numbersSo_30 : decode cX5_numbersSo 30 = .ok (.iload_n 2, 1) := by decide +kernel
theorem dX5_numbersSo_31 : decode cX5_numbersSo 31 = .ok (.invokevirtual 276, 3) := by decide +kernel
theorem dX5_numbersSo_34 : decode cX5_numbersSo 34 = .ok (.iconst (-1), 1) := by decide +kernel
theorem dX5_numbersSo_35 : decode cX5_numbersSo 35 = .ok (.if_icmp .ne 12, 3) := by decide +kernel
theorem dX5_numbersSo_38 : decode cX5_numbersSo 38 = .ok (.iload 4, 2) := by decide +kernel
theorem dX5_numbersSo_40 : decode cX5_numbersSo 40 = .ok (.iconst 1, 1) := by decide +kernel
theorem dX5_numbersSo_41 : decode cX5_numbersSo 41 = .ok (.iload 5, 2) := by decide +kernel
theorem dX5_numbersSo_43 : decode cX5_numbersSo 43 = .ok (.ishl, 1) := by decide +kernel
theorem dX5_numbersSo_44 : decode cX5_numbersSo 44 = .ok (.ior, 1) := by decide +kernel
theorem dX5_numbersSo_45 : decode cX5_numbersSo 45 = .ok (.istore 4, 2) := by decide +kernel
theorem dX5_numbersSo_47 : decode cX5_numbersSo 47 = .ok (.iinc 5 1, 3) := by decide +kernel
theorem dX5_numbersSo_50 : decode cX5_numbersSo 50 = .ok (.goto (-37), 3) := by decide +kernel
theorem dX5_numbersSo_53 : decode cX5_numbersSo 53 = .ok (.aload_n 0, 1) := by decide +kernel
theorem dX5_numbersSo_54 : decode cX5_numbersSo 54 = .ok (.getfield 17, 3) := by decide +kernel
theorem dX5_numbersSo_57 : decode cX5_numbersSo 57 = .ok (.iload_n 2, 1) := by decide +kernel
theorem dX5_numbersSo_58 : decode cX5_numbersSo 58 = .ok (.iload_n 3, 1) := by decide +kernel
theorem dX5_numbersSo_59 : decode cX5_numbersSo 59 = .ok (.iastore, 1) := by decide +kernel
theorem dX5_numbersSo_60 : decode cX5_numbersSo 60 = .ok (.iload 4, 2) := by decide +kernel
theorem dX5_numbersSo_62 : decode cX5_numbersSo 62 = .ok (.ireturn, 1) := by decide +kernel
theorem dX5_moodsSo_0 : decode cX5_moodsSo 0 = .ok (.aload_n 0, 1) := by decide +kernel
theorem dX5_moodsSo_1 : decode cX5_moodsSo 1 = .ok (.getfield 20, 3) := by decide +kernel
theorem dX5_moodsSo_4 : decode cX5_moodsSo 4 = .ok (.iload_n 2, 1) := by decide +kernel
theorem dX5_moodsSo_5 : decode cX5_moodsSo 5 = .ok (.iaload, 1) := by decide +kernel
theorem dX5_moodsSo_6 : decode cX5_moodsSo 6 = .ok (.istore 4, 2) := by decide +kernel
theorem dX5_moodsSo_8 : decode cX5_moodsSo 8 = .ok (.iconst 0, 1) := by decide +kernel
theorem dX5_moodsSo_9 : decode cX5_moodsSo 9 = .ok (.istore 5, 2) := by decide +kernel
theorem dX5_moodsSo_11 : decode cX5_moodsSo 11 = .ok (.bipush (-100), 2) := by decide +kernel
theorem dX5_moodsSo_13 : decode cX5_moodsSo 13 = .ok (.istore 6, 2) := by decide +kernel
theorem dX5_moodsSo_15 : decode cX5_moodsSo 15 = .ok (.bipush 20, 2) := by decide +kernel
theorem dX5_moodsSo_17 : decode cX5_moodsSo 17 = .ok (.istore 7, 2) := by decide +kernel
theorem dX5_moodsSo_19 : decode cX5_moodsSo 19 = .ok (.iload 7, 2) := by decide +kernel
theorem dX5_moodsSo_21 : decode cX5_moodsSo 21 = .ok (.bipush (-20), 2) := by decide +kernel
theorem dX5_moodsSo_23 : decode cX5_moodsSo 23 = .ok (.if_icmp .lt 37, 3) := by decide +kernel
theorem dX5_moodsSo_26 : decode cX5_moodsSo 26 = .ok (.aload_n 0, 1) := by decide +kernel
theorem dX5_moodsSo_27 : decode cX5_moodsSo 27 = .ok (.getfield 20, 3) := by decide +kernel
theorem dX5_moodsSo_30 : decode cX5_moodsSo 30 = .ok (.iload_n 2, 1) := by decide +kernel
theorem dX5_moodsSo_31 : decode cX5_moodsSo 31 = .ok (.iload 7, 2) := by decide +kernel
theorem dX5_moodsSo_33 : decode cX5_moodsSo 33 = .ok (.iastore, 1) := by decide +kernel
theorem dX5_moodsSo_34 : decode cX5_moodsSo 34 = .ok (.aload_n 0, 1) := by decide +kernel
theorem dX5_moodsSo_35 : decode cX5_moodsSo 35 = .ok (.iload_n 1, 1) := by decide +kernel
theorem dX5_moodsSo_36 : decode cX5_moodsSo 36 = .ok (.iload_n 2, 1) := by decide +kernel
theorem dX5_moodsSo_37 : decode cX5_moodsSo 37 = .ok (.invokevirtual 276, 3) := by decide +kernel
theorem dX5_moodsSo_40 : decode cX5_moodsSo 40 = .ok (.iconst (-1), 1) := by decide +kernel
theorem dX5_moodsSo_41 : decode cX5_moodsSo 41 = .ok (.if_icmp .eq 6, 3) := by decide +kernel
theorem dX5_moodsSo_44 : decode cX5_moodsSo 44 = .ok (.goto 10, 3) := by decide +kernel
theorem dX5_moodsSo_47 : decode cX5_moodsSo 47 = .ok (.iinc 5 1, 3) := by decide +kernel
theorem dX5_moodsSo_50 : decode cX5_moodsSo 50 = .ok (.iload 7, 2) := by decide +kernel
theorem dX5_moodsSo_52 : decode cX5_moodsSo 52 = .ok (.istore 6, 2) := by decide +kernel
theorem dX5_moodsSo_54 : decode cX5_moodsSo 54 = .ok (.iinc 7 (-1), 3) := by decide +kernel
theorem dX5_moodsSo_57 : decode cX5_moodsSo 57 = .ok (.goto (-38), 3) := by decide +kernel
theorem dX5_moodsSo_60 : decode cX5_moodsSo 60 = .ok (.aload_n 0, 1) := by decide +kernel
theorem dX5_moodsSo_61 : decode cX5_moodsSo 61 = .ok (.getfield 20, 3) := by decide +kernel
theorem dX5_moodsSo_64 : decode cX5_moodsSo 64 = .ok (.iload_n 2, 1) := by decide +kernel
theorem dX5_moodsSo_65 : decode cX5_moodsSo 65 = .ok (.iload 4, 2) := by decide +kernel
theorem dX5_moodsSo_67 : decode cX5_moodsSo 67 = .ok (.iastore, 1) := by decide +kernel
theorem dX5_moodsSo_68 : decode cX5_moodsSo 68 = .ok (.iload_n 3, 1) := by decide +kernel
theorem dX5_moodsSo_69 : decode cX5_moodsSo 69 = .ok (.ifCond .ne 8, 3) := by decide +kernel
theorem dX5_moodsSo_72 : decode cX5_moodsSo 72 = .ok (.iload 5, 2) := by decide +kernel
theorem dX5_moodsSo_74 : decode cX5_moodsSo 74 = .ok (.goto 5, 3) := by decide +kernel
theorem dX5_moodsSo_77 : decode cX5_moodsSo 77 = .ok (.iload 6, 2) := by decide +kernel
theorem dX5_moodsSo_79 : decode cX5_moodsSo 79 = .ok (.ireturn, 1) := by decide +kernel
theorem dX5_textsSo_0 : decode cX5_textsSo 0 = .ok (.aload_n 0, 1) := by decide +kernel
theorem dX5_textsSo_1 : decode cX5_textsSo 1 = .ok (.getfield 214, 3) := by decide +kernel
theorem dX5_textsSo_4 : decode cX5_textsSo 4 = .ok (.istore_n 3, 1) := by decide +kernel
theorem dX5_textsSo_5 : decode cX5_textsSo 5 = .ok (.iconst 0, 1) := by decide +kernel
theorem dX5_textsSo_6 : decode cX5_textsSo 6 = .ok (.istore 4, 2) := by decide +kernel
theorem dX5_textsSo_8 : decode cX5_textsSo 8 = .ok (.iconst 0, 1) := by decide +kernel
theorem dX5_textsSo_9 : decode cX5_textsSo 9 = .ok (.istore 5, 2) := by decide +kernel
theorem dX5_textsSo_11 : decode cX5_textsSo 11 = .ok (.iload 5, 2) := by decide +kernel
theorem dX5_textsSo_13 : decode cX5_textsSo 13 = .ok (.aload_n 0, 1) := by decide +kernel
theorem dX5_textsSo_14 : decode cX5_textsSo 14 = .ok (.getfield 76, 3) := by decide +kernel
theorem dX5_textsSo_17 : decode cX5_textsSo 17 = .ok (.if_icmp .ge 34, 3) := by decide +kernel
theorem dX5_textsSo_20 : decode cX5_textsSo 20 = .ok (.aload_n 0, 1) := by decide +kernel
theorem dX5_textsSo_21 : decode cX5_textsSo 21 = .ok (.iload 5, 2) := by decide +kernel
theorem dX5_textsSo_23 : decode cX5_textsSo 23 = .ok (.putfield 214, 3) := by decide +kernel
theorem dX5_textsSo_26 : decode cX5_textsSo 26 = .ok (.aload_n 0, 1) := by decide +kernel
theorem dX5_textsSo_27 : decode cX5_textsSo 27 = .ok (.iload_n 1, 1) := by decide +kernel
theorem dX5_textsSo_28 : decode cX5_textsSo 28 = .ok (.iload_n 2, 1) := by decide +kernel
theorem dX5_textsSo_29 : decode cX5_textsSo 29 = .ok (.invokevirtual 276, 3) := by decide +kernel
theorem dX5_textsSo_32 : decode cX5_textsSo 32 = .ok (.iconst (-1), 1) := by decide +kernel
theorem dX5_textsSo_33 : decode cX5_textsSo 33 = .ok (.if_icmp .ne 12, 3) := by decide +kernel
theorem dX5_textsSo_36 : decode cX5_textsSo 36 = .ok (.iload 4, 2) := by decide +kernel
theorem dX5_textsSo_38 : decode cX5_textsSo 38 = .ok (.iconst 1, 1) := by decide +kernel
theorem dX5_textsSo_39 : decode cX5_textsSo 39 = .ok (.iload 5, 2) := by decide +kernel
theorem dX5_textsSo_41 : decode cX5_textsSo 41 = .ok (.ishl, 1) := by decide +kernel
theorem dX5_textsSo_42 : decode cX5_textsSo 42 = .ok (.ior, 1) := by decide +kernel
theorem dX5_textsSo_43 : decode cX5_textsSo 43 = .ok (.istore 4, 2) := by decide +kernel
theorem dX5_textsSo_45 : decode cX5_textsSo 45 = .ok (.iinc 5 1, 3) := by decide +kernel
theorem dX5_textsSo_48 : decode cX5_textsSo 48 = .ok (.goto (-37), 3) := by decide +kernel
theorem dX5_textsSo_51 : decode cX5_textsSo 51 = .ok (.aload_n 0, 1) := by decide +kernel
theorem dX5_textsSo_52 : decode cX5_textsSo 52 = .ok (.iload_n 3, 1) := by decide +kernel
theorem dX5_textsSo_53 : decode cX5_textsSo 53 = .ok (.putfield 214, 3) := by decide +kernel
theorem dX5_textsSo_56 : decode cX5_textsSo 56 = .ok (.iload 4, 2) := by decide +kernel
theorem dX5_textsSo_58 : decode cX5_textsSo 58 = .ok (.ireturn, 1) := by decide +kernel
theorem dX5_tells_0 : decode cX5_tells 0 = .ok (.iload_n 1, 1) := by decide +kernel
theorem dX5_tells_1 : decode cX5_tells 1 = .ok (.invokestatic 279, 3) := by decide +kernel
theorem dX5_tells_4 : decode cX5_tells 4 = .ok (.ifCond .eq 20, 3) := by decide +kernel
theorem dX5_tells_7 : decode cX5_tells 7 = .ok (.aload_n 0, 1) := by decide +kernel
theorem dX5_tells_8 : decode cX5_tells 8 = .ok (.iload_n 2, 1) := by decide +kernel
theorem dX5_tells_9 : decode cX5_tells 9 = .ok (.invokevirtual 86, 3) := by decide +kernel
theorem dX5_tells_12 : decode cX5_tells 12 = .ok (.ifCond .eq 12, 3) := by decide +kernel
theorem dX5_tells_15 : decode cX5_tells 15 = .ok (.iload_n 3, 1) := by decide +kernel
theorem dX5_tells_16 : decode cX5_tells 16 = .ok (.iconst 0, 1) := by decide +kernel
theorem dX5_tells_17 : decode cX5_tells 17 = .ok (.iconst 5, 1) := by decide +kernel
theorem dX5_tells_18 : decode cX5_tells 18 = .ok (.invokestatic 82, 3) := by decide +kernel
theorem dX5_tells_21 : decode cX5_tells 21 = .ok (.ifCond .ne 7, 3) := by decide +kernel
theorem dX5_tells_24 : decode cX5_tells 24 = .ok (.sipush (-1000), 3) := by decide +kernel
theorem dX5_tells_27 : decode cX5_tells 27 = .ok (.ireturn, 1) := by decide +kernel
theorem dX5_tells_28 : decode cX5_tells 28 = .ok (.aload_n 0, 1) := by decide +kernel
theorem dX5_tells_29 : decode cX5_tells 29 = .ok (.getfield 59, 3) := by decide +kernel
theorem dX5_tells_32 : decode cX5_tells 32 = .ok (.iload_n 1, 1) := by decide +kernel
theorem dX5_tells_33 : decode cX5_tells 33 = .ok (.iaload, 1) := by decide +kernel
theorem dX5_tells_34 : decode cX5_tells 34 = .ok (.ifCond .ge 6, 3) := by decide +kernel
theorem dX5_tells_37 : decode cX5_tells 37 = .ok (.bipush (-11), 2) := by decide +kernel
theorem dX5_tells_39 : decode cX5_tells 39 = .ok (.ireturn, 1) := by decide +kernel
theorem dX5_tells_40 : decode cX5_tells 40 = .ok (.aload_n 0, 1) := by decide +kernel
theorem dX5_tells_41 : decode cX5_tells 41 = .ok (.getfield 62, 3) := by decide +kernel
theorem dX5_tells_44 : decode cX5_tells 44 = .ok (.iload_n 1, 1) := by decide +kernel
theorem dX5_tells_45 : decode cX5_tells 45 = .ok (.iaload, 1) := by decide +kernel
theorem dX5_tells_46 : decode cX5_tells 46 = .ok (.bipush 10, 2) := by decide +kernel
theorem dX5_tells_48 : decode cX5_tells 48 = .ok (.if_icmp .le 7, 3) := by decide +kernel
theorem dX5_tells_51 : decode cX5_tells 51 = .ok (.sipush (-1000), 3) := by decide +kernel
theorem dX5_tells_54 : decode cX5_tells 54 = .ok (.ireturn, 1) := by decide +kernel
theorem dX5_tells_55 : decode cX5_tells 55 = .ok (.iload_n 3, 1) := by decide +kernel
theorem dX5_tells_56 : decode cX5_tells 56 = .ok (.tableswitch 73 0 4 #[36, 43, 50, 57, 65], 36) := by decide +kernel
theorem dX5_tells_92 : decode cX5_tells 92 = .ok (.aload_n 0, 1) := by decide +kernel
theorem dX5_tells_93 : decode cX5_tells 93 = .ok (.iload_n 1, 1) := by decide +kernel
theorem dX5_tells_94 : decode cX5_tells 94 = .ok (.iload_n 2, 1) := by decide +kernel
theorem dX5_tells_95 : decode cX5_tells 95 = .ok (.invokevirtual 276, 3) := by decide +kernel
theorem dX5_tells_98 : decode cX5_tells 98 = .ok (.ireturn, 1) := by decide +kernel
theorem dX5_tells_99 : decode cX5_tells 99 = .ok (.aload_n 0, 1) := by decide +kernel
theorem dX5_tells_100 : decode cX5_tells 100 = .ok (.iload_n 1, 1) := by decide +kernel
theorem dX5_tells_101 : decode cX5_tells 101 = .ok (.iload_n 2, 1) := by decide +kernel
theorem dX5_tells_102 : decode cX5_tells 102 = .ok (.invokevirtual 282, 3) := by decide +kernel
theorem dX5_tells_105 : decode cX5_tells 105 = .ok (.ireturn, 1) := by decide +kernel
theorem dX5_tells_106 : decode cX5_tells 106 = .ok (.aload_n 0, 1) := by decide +kernel
theorem dX5_tells_107 : decode cX5_tells 107 = .ok (.iload_n 1, 1) := by decide +kernel
theorem dX5_tells_108 : decode cX5_tells 108 = .ok (.iload_n 2, 1) := by decide +kernel
theorem dX5_tells_109 : decode cX5_tells 109 = .ok (.invokevirtual 285, 3) := by decide +kernel
theorem dX5_tells_112 : decode cX5_tells 112 = .ok (.ireturn, 1) := by decide +kernel
theorem dX5_tells_113 : decode cX5_tells 113 = .ok (.aload_n 0, 1) := by decide +kernel
theorem dX5_tells_114 : decode cX5_tells 114 = .ok (.iload_n 1, 1) := by decide +kernel
theorem dX5_tells_115 : decode cX5_tells 115 = .ok (.iload_n 2, 1) := by decide +kernel
theorem dX5_tells_116 : decode cX5_tells 116 = .ok (.iconst 0, 1) := by decide +kernel
theorem dX5_tells_117 : decode cX5_tells 117 = .ok (.invokevirtual 288, 3) := by decide +kernel
theorem dX5_tells_120 : decode cX5_tells 120 = .ok (.ireturn, 1) := by decide +kernel
theorem dX5_tells_121 : decode cX5_tells 121 = .ok (.aload_n 0, 1) := by decide +kernel
theorem dX5_tells_122 : decode cX5_tells 122 = .ok (.iload_n 1, 1) := by decide +kernel
theorem dX5_tells_123 : decode cX5_tells 123 = .ok (.iload_n 2, 1) := by decide +kernel
theorem dX5_tells_124 : decode cX5_tells 124 = .ok (.iconst 1, 1) := by decide +kernel
theorem dX5_tells_125 : decode cX5_tells 125 = .ok (.invokevirtual 288, 3) := by decide +kernel
theorem dX5_tells_128 : decode cX5_tells 128 = .ok (.ireturn, 1) := by decide +kernel
theorem dX5_tells_129 : decode cX5_tells 129 = .ok (.aload_n 0, 1) := by decide +kernel
theorem dX5_tells_130 : decode cX5_tells 130 = .ok (.iload_n 1, 1) := by decide +kernel
theorem dX5_tells_131 : decode cX5_tells 131 = .ok (.iload_n 2, 1) := by decide +kernel
theorem dX5_tells_132 : decode cX5_tells 132 = .ok (.invokevirtual 291, 3) := by decide +kernel
theorem dX5_tells_135 : decode cX5_tells 135 = .ok (.ireturn, 1) := by decide +kernel
theorem dX5_film_0 : decode cX5_film 0 = .ok (.iload_n 1, 1) := by decide +kernel
theorem dX5_film_1 : decode cX5_film 1 = .ok (.invokestatic 279, 3) := by decide +kernel
theorem dX5_film_4 : decode cX5_film 4 = .ok (.ifCond .eq 21, 3) := by decide +kernel
theorem dX5_film_7 : decode cX5_film 7 = .ok (.aload_n 0, 1) := by decide +kernel
theorem dX5_film_8 : decode cX5_film 8 = .ok (.iload_n 2, 1) := by decide +kernel
theorem dX5_film_9 : decode cX5_film 9 = .ok (.invokevirtual 86, 3) := by decide +kernel
theorem dX5_film_12 : decode cX5_film 12 = .ok (.ifCond .eq 13, 3) := by decide +kernel
theorem dX5_film_15 : decode cX5_film 15 = .ok (.iload_n 3, 1) := by decide +kernel
theorem dX5_film_16 : decode cX5_film 16 = .ok (.iconst 0, 1) := by decide +kernel
theorem dX5_film_17 : decode cX5_film 17 = .ok (.bipush 10, 2) := by decide +kernel
theorem dX5_film_19 : decode cX5_film 19 = .ok (.invokestatic 82, 3) := by decide +kernel
theorem dX5_film_22 : decode cX5_film 22 = .ok (.ifCond .ne 6, 3) := by decide +kernel
theorem dX5_film_25 : decode cX5_film 25 = .ok (.bipush (-2), 2) := by decide +kernel
theorem dX5_film_27 : decode cX5_film 27 = .ok (.ireturn, 1) := by decide +kernel
theorem dX5_film_28 : decode cX5_film 28 = .ok (.aload_n 0, 1) := by decide +kernel
theorem dX5_film_29 : decode cX5_film 29 = .ok (.iload_n 1, 1) := by decide +kernel
theorem dX5_film_30 : decode cX5_film 30 = .ok (.iconst 0, 1) := by decide +kernel
theorem dX5_film_31 : decode cX5_film 31 = .ok (.iload_n 3, 1) := by decide +kernel
theorem dX5_film_32 : decode cX5_film 32 = .ok (.invokevirtual 294, 3) := by decide +kernel
theorem dX5_film_35 : decode cX5_film 35 = .ok (.pop, 1) := by decide +kernel
theorem dX5_film_36 : decode cX5_film 36 = .ok (.aload_n 0, 1) := by decide +kernel
theorem dX5_film_37 : decode cX5_film 37 = .ok (.invokevirtual 252, 3) := by decide +kernel
theorem dX5_film_40 : decode cX5_film 40 = .ok (.iconst 0, 1) := by decide +kernel
theorem dX5_film_41 : decode cX5_film 41 = .ok (.istore 4, 2) := by decide +kernel
theorem dX5_film_43 : decode cX5_film 43 = .ok (.iload 4, 2) := by decide +kernel
theorem dX5_film_45 : decode cX5_film 45 = .ok (.iload_n 3, 1) := by decide +kernel
theorem dX5_film_46 : decode cX5_film 46 = .ok (.if_icmp .ge 31, 3) := by decide +kernel
theorem dX5_film_49 : decode cX5_film 49 = .ok (.aload_n 0, 1) := by decide +kernel
theorem dX5_film_50 : decode cX5_film 50 = .ok (.invokevirtual 246, 3) := by decide +kernel
theorem dX5_film_53 : decode cX5_film 53 = .ok (.aload_n 0, 1) := by decide +kernel
theorem dX5_film_54 : decode cX5_film 54 = .ok (.getfield 65, 3) := by decide +kernel
theorem dX5_film_57 : decode cX5_film 57 = .ok (.bipush 40, 2) := by decide +kernel
theorem dX5_film_59 : decode cX5_film 59 = .ok (.iload_n 1, 1) := by decide +kernel
theorem dX5_film_60 : decode cX5_film 60 = .ok (.imul, 1) := by decide +kernel
theorem dX5_film_61 : decode cX5_film 61 = .ok (.iload 4, 2) := by decide +kernel
theorem dX5_film_63 : decode cX5_film 63 = .ok (.iadd, 1) := by decide +kernel
theorem dX5_film_64 : decode cX5_film 64 = .ok (.aload_n 0, 1) := by decide +kernel
theorem dX5_film_65 : decode cX5_film 65 = .ok (.getfield 20, 3) := by decide +kernel
theorem dX5_film_68 : decode cX5_film 68 = .ok (.iload_n 2, 1) := by decide +kernel
theorem dX5_film_69 : decode cX5_film 69 = .ok (.iaload, 1) := by decide +kernel
theorem dX5_film_70 : decode cX5_film 70 = .ok (.iastore, 1) := by decide +kernel
theorem dX5_film_71 : decode cX5_film 71 = .ok (.iinc 4 1, 3) := by decide +kernel
theorem dX5_film_74 : decode cX5_film 74 = .ok (.goto (-31), 3) := by decide +kernel
theorem dX5_film_77 : decode cX5_film 77 = .ok (.aload_n 0, 1) := by decide +kernel
theorem dX5_film_78 : decode cX5_film 78 = .ok (.invokevirtual 258, 3) := by decide +kernel
theorem dX5_film_81 : decode cX5_film 81 = .ok (.iload_n 3, 1) := by decide +kernel
theorem dX5_film_82 : decode cX5_film 82 = .ok (.ireturn, 1) := by decide +kernel
theorem dX5_drawn_0 : decode cX5_drawn 0 = .ok (.aload_n 0, 1) := by decide +kernel
theorem dX5_drawn_1 : decode cX5_drawn 1 = .ok (.iload_n 1, 1) := by decide +kernel
theorem dX5_drawn_2 : decode cX5_drawn 2 = .ok (.invokevirtual 297, 3) := by decide +kernel
theorem dX5_drawn_5 : decode cX5_drawn 5 = .ok (.ireturn, 1) := by decide +kernel
theorem dX5_byLot_0 : decode cX5_byLot 0 = .ok (.iconst 0, 1) := by decide +kernel
theorem dX5_byLot_1 : decode cX5_byLot 1 = .ok (.istore_n 2, 1) := by decide +kernel
theorem dX5_byLot_2 : decode cX5_byLot 2 = .ok (.iload_n 2, 1) := by decide +kernel
theorem dX5_byLot_3 : decode cX5_byLot 3 = .ok (.iconst 5, 1) := by decide +kernel
theorem dX5_byLot_4 : decode cX5_byLot 4 = .ok (.if_icmp .ge 21, 3) := by decide +kernel
theorem dX5_byLot_7 : decode cX5_byLot 7 = .ok (.aload_n 0, 1) := by decide +kernel
theorem dX5_byLot_8 : decode cX5_byLot 8 = .ok (.getfield 50, 3) := by decide +kernel
theorem dX5_byLot_11 : decode cX5_byLot 11 = .ok (.iload_n 2, 1) := by decide +kernel
theorem dX5_byLot_12 : decode cX5_byLot 12 = .ok (.aload_n 0, 1) := by decide +kernel
theorem dX5_byLot_13 : decode cX5_byLot 13 = .ok (.getfield 20, 3) := by decide +kernel
theorem dX5_byLot_16 : decode cX5_byLot 16 = .ok (.iload_n 2, 1) := by decide +kernel
theorem dX5_byLot_17 : decode cX5_byLot 17 = .ok (.iaload, 1) := by decide +kernel
theorem dX5_byLot_18 : decode cX5_byLot 18 = .ok (.iastore, 1) := by decide +kernel
theorem dX5_byLot_19 : decode cX5_byLot 19 = .ok (.iinc 2 1, 3) := by decide +kernel
theorem dX5_byLot_22 : decode cX5_byLot 22 = .ok (.goto (-20), 3) := by decide +kernel
theorem dX5_byLot_25 : decode cX5_byLot 25 = .ok (.iload_n 1, 1) := by decide +kernel
theorem dX5_byLot_26 : decode cX5_byLot 26 = .ok (.istore_n 2, 1) := by decide +kernel
theorem dX5_byLot_27 : decode cX5_byLot 27 = .ok (.iconst 0, 1) := by decide +kernel
theorem dX5_byLot_28 : decode cX5_byLot 28 = .ok (.istore_n 3, 1) := by decide +kernel
theorem dX5_byLot_29 : decode cX5_byLot 29 = .ok (.iload_n 3, 1) := by decide +kernel
theorem dX5_byLot_30 : decode cX5_byLot 30 = .ok (.aload_n 0, 1) := by decide +kernel
theorem dX5_byLot_31 : decode cX5_byLot 31 = .ok (.getfield 79, 3) := by decide +kernel
theorem dX5_byLot_34 : decode cX5_byLot 34 = .ok (.if_icmp .ge 35, 3) := by decide +kernel
theorem dX5_byLot_37 : decode cX5_byLot 37 = .ok (.iload_n 2, 1) := by decide +kernel
theorem dX5_byLot_38 : decode cX5_byLot 38 = .ok (.ldc_w 300, 3) := by decide +kernel
theorem dX5_byLot_41 : decode cX5_byLot 41 = .ok (.imul, 1) := by decide +kernel
theorem dX5_byLot_42 : decode cX5_byLot 42 = .ok (.sipush 12345, 3) := by decide +kernel
theorem dX5_byLot_45 : decode cX5_byLot 45 = .ok (.iadd, 1) := by decide +kernel
theorem dX5_byLot_46 : decode cX5_byLot 46 = .ok (.istore_n 2, 1) := by decide +kernel
theorem dX5_byLot_47 : decode cX5_byLot 47 = .ok (.aload_n 0, 1) := by decide +kernel
theorem dX5_byLot_48 : decode cX5_byLot 48 = .ok (.getfield 20, 3) := by decide +kernel
theorem dX5_byLot_51 : decode cX5_byLot 51 = .ok (.iload_n 3, 1) := by decide +kernel
theorem dX5_byLot_52 : decode cX5_byLot 52 = .ok (.iload_n 2, 1) := by decide +kernel
theorem dX5_byLot_53 : decode cX5_byLot 53 = .ok (.bipush 9, 2) := by decide +kernel
theorem dX5_byLot_55 : decode cX5_byLot 55 = .ok (.iushr, 1) := by decide +kernel
theorem dX5_byLot_56 : decode cX5_byLot 56 = .ok (.bipush 41, 2) := by decide +kernel
theorem dX5_byLot_58 : decode cX5_byLot 58 = .ok (.irem, 1) := by decide +kernel
theorem dX5_byLot_59 : decode cX5_byLot 59 = .ok (.bipush 20, 2) := by decide +kernel
theorem dX5_byLot_61 : decode cX5_byLot 61 = .ok (.isub, 1) := by decide +kernel
theorem dX5_byLot_62 : decode cX5_byLot 62 = .ok (.iastore, 1) := by decide +kernel
theorem dX5_byLot_63 : decode cX5_byLot 63 = .ok (.iinc 3 1, 3) := by decide +kernel
theorem dX5_byLot_66 : decode cX5_byLot 66 = .ok (.goto (-37), 3) := by decide +kernel
theorem dX5_byLot_69 : decode cX5_byLot 69 = .ok (.aload_n 0, 1) := by decide +kernel
theorem dX5_byLot_70 : decode cX5_byLot 70 = .ok (.iconst 5, 1) := by decide +kernel
theorem dX5_byLot_71 : decode cX5_byLot 71 = .ok (.invokevirtual 273, 3) := by decide +kernel
theorem dX5_byLot_74 : decode cX5_byLot 74 = .ok (.istore_n 3, 1) := by decide +kernel
theorem dX5_byLot_75 : decode cX5_byLot 75 = .ok (.iconst 0, 1) := by decide +kernel
theorem dX5_byLot_76 : decode cX5_byLot 76 = .ok (.istore 4, 2) := by decide +kernel
theorem dX5_byLot_78 : decode cX5_byLot 78 = .ok (.iload 4, 2) := by decide +kernel
theorem dX5_byLot_80 : decode cX5_byLot 80 = .ok (.iconst 5, 1) := by decide +kernel
theorem dX5_byLot_81 : decode cX5_byLot 81 = .ok (.if_icmp .ge 23, 3) := by decide +kernel
theorem dX5_byLot_84 : decode cX5_byLot 84 = .ok (.aload_n 0, 1) := by decide +kernel
theorem dX5_byLot_85 : decode cX5_byLot 85 = .ok (.getfield 20, 3) := by decide +kernel
theorem dX5_byLot_88 : decode cX5_byLot 88 = .ok (.iload 4, 2) := by decide +kernel
theorem dX5_byLot_90 : decode cX5_byLot 90 = .ok (.aload_n 0, 1) := by decide +kernel
theorem dX5_byLot_91 : decode cX5_byLot 91 = .ok (.getfield 50, 3) := by decide +kernel
theorem dX5_byLot_94 : decode cX5_byLot 94 = .ok (.iload 4, 2) := by decide +kernel
theorem dX5_byLot_96 : decode cX5_byLot 96 = .ok (.iaload, 1) := by decide +kernel
theorem dX5_byLot_97 : decode cX5_byLot 97 = .ok (.iastore, 1) := by decide +kernel
theorem dX5_byLot_98 : decode cX5_byLot 98 = .ok (.iinc 4 1, 3) := by decide +kernel
theorem dX5_byLot_101 : decode cX5_byLot 101 = .ok (.goto (-23), 3) := by decide +kernel
theorem dX5_byLot_104 : decode cX5_byLot 104 = .ok (.iload_n 3, 1) := by decide +kernel
theorem dX5_byLot_105 : decode cX5_byLot 105 = .ok (.ireturn, 1) := by decide +kernel
theorem dX5_chance_0 : decode cX5_chance 0 = .ok (.iload_n 2, 1) := by decide +kernel
theorem dX5_chance_1 : decode cX5_chance 1 = .ok (.iconst 1, 1) := by decide +kernel
theorem dX5_chance_2 : decode cX5_chance 2 = .ok (.bipush 20, 2) := by decide +kernel
theorem dX5_chance_4 : decode cX5_chance 4 = .ok (.invokestatic 82, 3) := by decide +kernel
theorem dX5_chance_7 : decode cX5_chance 7 = .ok (.ifCond .eq 24, 3) := by decide +kernel
theorem dX5_chance_10 : decode cX5_chance 10 = .ok (.iload_n 3, 1) := by decide +kernel
theorem dX5_chance_11 : decode cX5_chance 11 = .ok (.bipush (-100), 2) := by decide +kernel
theorem dX5_chance_13 : decode cX5_chance 13 = .ok (.bipush 100, 2) := by decide +kernel
theorem dX5_chance_15 : decode cX5_chance 15 = .ok (.invokestatic 82, 3) := by decide +kernel
theorem dX5_chance_18 : decode cX5_chance 18 = .ok (.ifCond .eq 13, 3) := by decide +kernel
theorem dX5_chance_21 : decode cX5_chance 21 = .ok (.iload 4, 2) := by decide +kernel
theorem dX5_chance_23 : decode cX5_chance 23 = .ok (.iconst 0, 1) := by decide +kernel
theorem dX5_chance_24 : decode cX5_chance 24 = .ok (.iconst 1, 1) := by decide +kernel
theorem dX5_chance_25 : decode cX5_chance 25 = .ok (.invokestatic 82, 3) := by decide +kernel
theorem dX5_chance_28 : decode cX5_chance 28 = .ok (.ifCond .ne 7, 3) := by decide +kernel
theorem dX5_chance_31 : decode cX5_chance 31 = .ok (.ldc2_w 301, 3) := by decide +kernel
theorem dX5_chance_34 : decode cX5_chance 34 = .ok (.lreturn, 1) := by decide +kernel
theorem dX5_chance_35 : decode cX5_chance 35 = .ok (.iconst 0, 1) := by decide +kernel
theorem dX5_chance_36 : decode cX5_chance 36 = .ok (.istore 5, 2) := by decide +kernel
theorem dX5_chance_38 : decode cX5_chance 38 = .ok (.iconst 0, 1) := by decide +kernel
theorem dX5_chance_39 : decode cX5_chance 39 = .ok (.istore 6, 2) := by decide +kernel
theorem dX5_chance_41 : decode cX5_chance 41 = .ok (.iload 6, 2) := by decide +kernel
theorem dX5_chance_43 : decode cX5_chance 43 = .ok (.iload_n 2, 1) := by decide +kernel
theorem dX5_chance_44 : decode cX5_chance 44 = .ok (.if_icmp .ge 24, 3) := by decide +kernel
theorem dX5_chance_47 : decode cX5_chance 47 = .ok (.aload_n 0, 1) := by decide +kernel
theorem dX5_chance_48 : decode cX5_chance 48 = .ok (.iload_n 1, 1) := by decide +kernel
theorem dX5_chance_49 : decode cX5_chance 49 = .ok (.iload 6, 2) := by decide +kernel
theorem dX5_chance_51 : decode cX5_chance 51 = .ok (.iadd, 1) := by decide +kernel
theorem dX5_chance_52 : decode cX5_chance 52 = .ok (.invokevirtual 297, 3) := by decide +kernel
theorem dX5_chance_55 : decode cX5_chance 55 = .ok (.iload_n 3, 1) := by decide +kernel
theorem dX5_chance_56 : decode cX5_chance 56 = .ok (.if_icmp .lt 6, 3) := by decide +kernel
theorem dX5_chance_59 : decode cX5_chance 59 = .ok (.iinc 5 1, 3) := by decide +kernel
theorem dX5_chance_62 : decode cX5_chance 62 = .ok (.iinc 6 1, 3) := by decide +kernel
theorem dX5_chance_65 : decode cX5_chance 65 = .ok (.goto (-24), 3) := by decide +kernel
theorem dX5_chance_68 : decode cX5_chance 68 = .ok (.iload 5, 2) := by decide +kernel
theorem dX5_chance_70 : decode cX5_chance 70 = .ok (.istore 6, 2) := by decide +kernel
theorem dX5_chance_72 : decode cX5_chance 72 = .ok (.iload_n 2, 1) := by decide +kernel
theorem dX5_chance_73 : decode cX5_chance 73 = .ok (.istore 7, 2) := by decide +kernel
theorem dX5_chance_75 : decode cX5_chance 75 = .ok (.iload 7, 2) := by decide +kernel
theorem dX5_chance_77 : decode cX5_chance 77 = .ok (.ifCond .eq 21, 3) := by decide +kernel
theorem dX5_chance_80 : decode cX5_chance 80 = .ok (.iload 6, 2) := by decide +kernel
theorem dX5_chance_82 : decode cX5_chance 82 = .ok (.iload 7, 2) := by decide +kernel
theorem dX5_chance_84 : decode cX5_chance 84 = .ok (.irem, 1) := by decide +kernel
theorem dX5_chance_85 : decode cX5_chance 85 = .ok (.istore 8, 2) := by decide +kernel
theorem dX5_chance_87 : decode cX5_chance 87 = .ok (.iload 7, 2) := by decide +kernel
theorem dX5_chance_89 : decode cX5_chance 89 = .ok (.istore 6, 2) := by decide +kernel
theorem dX5_chance_91 : decode cX5_chance 91 = .ok (.iload 8, 2) := by decide +kernel
theorem dX5_chance_93 : decode cX5_chance 93 = .ok (.istore 7, 2) := by decide +kernel
theorem dX5_chance_95 : decode cX5_chance 95 = .ok (.goto (-20), 3) := by decide +kernel
theorem dX5_chance_98 : decode cX5_chance 98 = .ok (.iload 4, 2) := by decide +kernel
theorem dX5_chance_100 : decode cX5_chance 100 = .ok (.ifCond .ne 12, 3) := by decide +kernel
theorem dX5_chance_103 : decode cX5_chance 103 = .ok (.iload 5, 2) := by decide +kernel
theorem dX5_chance_105 : decode cX5_chance 105 = .ok (.iload 6, 2) := by decide +kernel
theorem dX5_chance_107 : decode cX5_chance 107 = .ok (.idiv, 1) := by decide +kernel
theorem dX5_chance_108 : decode cX5_chance 108 = .ok (.i2l, 1) := by decide +kernel
theorem dX5_chance_109 : decode cX5_chance 109 = .ok (.goto 8, 3) := by decide +kernel
theorem dX5_chance_112 : decode cX5_chance 112 = .ok (.iload_n 2, 1) := by decide +kernel
theorem dX5_chance_113 : decode cX5_chance 113 = .ok (.iload 6, 2) := by decide +kernel
theorem dX5_chance_115 : decode cX5_chance 115 = .ok (.idiv, 1) := by decide +kernel
theorem dX5_chance_116 : decode cX5_chance 116 = .ok (.i2l, 1) := by decide +kernel
theorem dX5_chance_117 : decode cX5_chance 117 = .ok (.lreturn, 1) := by decide +kernel
theorem dX5_image_0 : decode cX5_image 0 = .ok (.aload_n 0, 1) := by decide +kernel
theorem dX5_image_1 : decode cX5_image 1 = .ok (.iconst 1, 1) := by decide +kernel
theorem dX5_image_2 : decode cX5_image 2 = .ok (.putfield 303, 3) := by decide +kernel
theorem dX5_image_5 : decode cX5_image 5 = .ok (.aload_n 0, 1) := by decide +kernel
theorem dX5_image_6 : decode cX5_image 6 = .ok (.aload_n 0, 1) := by decide +kernel
theorem dX5_image_7 : decode cX5_image 7 = .ok (.getfield 79, 3) := by decide +kernel
theorem dX5_image_10 : decode cX5_image 10 = .ok (.putfield 306, 3) := by decide +kernel
theorem dX5_image_13 : decode cX5_image 13 = .ok (.aload_n 0, 1) := by decide +kernel
theorem dX5_image_14 : decode cX5_image 14 = .ok (.aload_n 0, 1) := by decide +kernel
theorem dX5_image_15 : decode cX5_image 15 = .ok (.getfield 93, 3) := by decide +kernel
theorem dX5_image_18 : decode cX5_image 18 = .ok (.putfield 309, 3) := by decide +kernel
theorem dX5_image_21 : decode cX5_image 21 = .ok (.aload_n 0, 1) := by decide +kernel
theorem dX5_image_22 : decode cX5_image 22 = .ok (.aload_n 0, 1) := by decide +kernel
theorem dX5_image_23 : decode cX5_image 23 = .ok (.getfield 214, 3) := by decide +kernel
theorem dX5_image_26 : decode cX5_image 26 = .ok (.putfield 312, 3) := by decide +kernel
theorem dX5_image_29 : decode cX5_image 29 = .ok (.iconst 0, 1) := by decide +kernel
theorem dX5_image_30 : decode cX5_image 30 = .ok (.istore_n 1, 1) := by decide +kernel
theorem dX5_image_31 : decode cX5_image 31 = .ok (.iload_n 1, 1) := by decide +kernel
theorem dX5_image_32 : decode cX5_image 32 = .ok (.bipush 8, 2) := by decide +kernel
theorem dX5_image_34 : decode cX5_image 34 = .ok (.if_icmp .ge 21, 3) := by decide +kernel
theorem dX5_image_37 : decode cX5_image 37 = .ok (.aload_n 0, 1) := by decide +kernel
theorem dX5_image_38 : decode cX5_image 38 = .ok (.getfield 53, 3) := by decide +kernel
theorem dX5_image_41 : decode cX5_image 41 = .ok (.iload_n 1, 1) := by decide +kernel
theorem dX5_image_42 : decode cX5_image 42 = .ok (.aload_n 0, 1) := by decide +kernel
theorem dX5_image_43 : decode cX5_image 43 = .ok (.getfield 7, 3) := by decide +kernel
theorem dX5_image_46 : decode cX5_image 46 = .ok (.iload_n 1, 1) := by decide +kernel
theorem dX5_image_47 : decode cX5_image 47 = .ok (.baload, 1) := by decide +kernel
theorem dX5_image_48 : decode cX5_image 48 = .ok (.bastore, 1) := by decide +kernel
theorem dX5_image_49 : decode cX5_image 49 = .ok (.iinc 1 1, 3) := by decide +kernel
theorem dX5_image_52 : decode cX5_image 52 = .ok (.goto (-21), 3) := by decide +kernel
theorem dX5_image_55 : decode cX5_image 55 = .ok (.iconst 0, 1) := by decide +kernel
theorem dX5_image_56 : decode cX5_image 56 = .ok (.istore_n 1, 1) := by decide +kernel
theorem dX5_image_57 : decode cX5_image 57 = .ok (.iload_n 1, 1) := by decide +kernel
theorem dX5_image_58 : decode cX5_image 58 = .ok (.iconst 5, 1) := by decide +kernel
theorem dX5_image_59 : decode cX5_image 59 = .ok (.if_icmp .ge 35, 3) := by decide +kernel
theorem dX5_image_62 : decode cX5_image 62 = .ok (.aload_n 0, 1) := by decide +kernel
theorem dX5_image_63 : decode cX5_image 63 = .ok (.getfield 56, 3) := by decide +kernel
theorem dX5_image_66 : decode cX5_image 66 = .ok (.iload_n 1, 1) := by decide +kernel
theorem dX5_image_67 : decode cX5_image 67 = .ok (.aload_n 0, 1) := by decide +kernel
theorem dX5_image_68 : decode cX5_image 68 = .ok (.getfield 17, 3) := by decide +kernel
theorem dX5_image_71 : decode cX5_image 71 = .ok (.iload_n 1, 1) := by decide +kernel
theorem dX5_image_72 : decode cX5_image 72 = .ok (.iaload, 1) := by decide +kernel
theorem dX5_image_73 : decode cX5_image 73 = .ok (.iastore, 1) := by decide +kernel
theorem dX5_image_74 : decode cX5_image 74 = .ok (.aload_n 0, 1) := by decide +kernel
theorem dX5_image_75 : decode cX5_image 75 = .ok (.getfield 56, 3) := by decide +kernel
theorem dX5_image_78 : decode cX5_image 78 = .ok (.iconst 5, 1) := by decide +kernel
theorem dX5_image_79 : decode cX5_image 79 = .ok (.iload_n 1, 1) := by decide +kernel
theorem dX5_image_80 : decode cX5_image 80 = .ok (.iadd, 1) := by decide +kernel
theorem dX5_image_81 : decode cX5_image 81 = .ok (.aload_n 0, 1) := by decide +kernel
theorem dX5_image_82 : decode cX5_image 82 = .ok (.getfield 20, 3) := by decide +kernel
theorem dX5_image_85 : decode cX5_image 85 = .ok (.iload_n 1, 1) := by decide +kernel
theorem dX5_image_86 : decode cX5_image 86 = .ok (.iaload, 1) := by decide +kernel
theorem dX5_image_87 : decode cX5_image 87 = .ok (.iastore, 1) := by decide +kernel
theorem dX5_image_88 : decode cX5_image 88 = .ok (.iinc 1 1, 3) := by decide +kernel
theorem dX5_image_91 : decode cX5_image 91 = .ok (.goto (-34), 3) := by decide +kernel
theorem dX5_image_94 : decode cX5_image 94 = .ok (.aload_n 0, 1) := by decide +kernel
theorem dX5_image_95 : decode cX5_image 95 = .ok (.getfield 79, 3) := by decide +kernel
theorem dX5_image_98 : decode cX5_image 98 = .ok (.ireturn, 1) := by decide +kernel
theorem dX5_back_0 : decode cX5_back 0 = .ok (.aload_n 0, 1) := by decide +kernel
theorem dX5_back_1 : decode cX5_back 1 = .ok (.getfield 303, 3) := by decide +kernel
theorem dX5_back_4 : decode cX5_back 4 = .ok (.ifCond .ne 6, 3) := by decide +kernel
theorem dX5_back_7 : decode cX5_back 7 = .ok (.bipush (-3), 2) := by decide +kernel
theorem dX5_back_9 : decode cX5_back 9 = .ok (.ireturn, 1) := by decide +kernel
theorem dX5_back_10 : decode cX5_back 10 = .ok (.aload_n 0, 1) := by decide +kernel
theorem dX5_back_11 : decode cX5_back 11 = .ok (.aload_n 0, 1) := by decide +kernel
theorem dX5_back_12 : decode cX5_back 12 = .ok (.getfield 306, 3) := by decide +kernel
theorem dX5_back_15 : decode cX5_back 15 = .ok (.putfield 79, 3) := by decide +kernel
theorem dX5_back_18 : decode cX5_back 18 = .ok (.aload_n 0, 1) := by decide +kernel
theorem dX5_back_19 : decode cX5_back 19 = .ok (.aload_n 0, 1) := by decide +kernel
theorem dX5_back_20 : decode cX5_back 20 = .ok (.getfield 309, 3) := by decide +kernel
theorem dX5_back_23 : decode cX5_back 23 = .ok (.putfield 93, 3) := by decide +kernel
theorem dX5_back_26 : decode cX5_back 26 = .ok (.aload_n 0, 1) := by decide +kernel
theorem dX5_back_27 : decode cX5_back 27 = .ok (.aload_n 0, 1) := by decide +kernel
theorem dX5_back_28 : decode cX5_back 28 = .ok (.getfield 312, 3) := by decide +kernel
theorem dX5_back_31 : decode cX5_back 31 = .ok (.putfield 214, 3) := by decide +kernel
theorem dX5_back_34 : decode cX5_back 34 = .ok (.iconst 0, 1) := by decide +kernel
theorem dX5_back_35 : decode cX5_back 35 = .ok (.istore_n 1, 1) := by decide +kernel
theorem dX5_back_36 : decode cX5_back 36 = .ok (.iload_n 1, 1) := by decide +kernel
theorem dX5_back_37 : decode cX5_back 37 = .ok (.bipush 8, 2) := by decide +kernel
theorem dX5_back_39 : decode cX5_back 39 = .ok (.if_icmp .ge 21, 3) := by decide +kernel
theorem dX5_back_42 : decode cX5_back 42 = .ok (.aload_n 0, 1) := by decide +kernel
theorem dX5_back_43 : decode cX5_back 43 = .ok (.getfield 7, 3) := by decide +kernel
theorem dX5_back_46 : decode cX5_back 46 = .ok (.iload_n 1, 1) := by decide +kernel
theorem dX5_back_47 : decode cX5_back 47 = .ok (.aload_n 0, 1) := by decide +kernel
theorem dX5_back_48 : decode cX5_back 48 = .ok (.getfield 53, 3) := by decide +kernel
theorem dX5_back_51 : decode cX5_back 51 = .ok (.iload_n 1, 1) := by decide +kernel
theorem dX5_back_52 : decode cX5_back 52 = .ok (.baload, 1) := by decide +kernel
theorem dX5_back_53 : decode cX5_back 53 = .ok (.bastore, 1) := by decide +kernel
theorem dX5_back_54 : decode cX5_back 54 = .ok (.iinc 1 1, 3) := by decide +kernel
theorem dX5_back_57 : decode cX5_back 57 = .ok (.goto (-21), 3) := by decide +kernel
theorem dX5_back_60 : decode cX5_back 60 = .ok (.iconst 0, 1) := by decide +kernel
theorem dX5_back_61 : decode cX5_back 61 = .ok (.istore_n 1, 1) := by decide +kernel
theorem dX5_back_62 : decode cX5_back 62 = .ok (.iload_n 1, 1) := by decide +kernel
theorem dX5_back_63 : decode cX5_back 63 = .ok (.iconst 5, 1) := by decide +kernel
theorem dX5_back_64 : decode cX5_back 64 = .ok (.if_icmp .ge 35, 3) := by decide +kernel
theorem dX5_back_67 : decode cX5_back 67 = .ok (.aload_n 0, 1) := by decide +kernel
theorem dX5_back_68 : decode cX5_back 68 = .ok (.getfield 17, 3) := by decide +kernel
theorem dX5_back_71 : decode cX5_back 71 = .ok (.iload_n 1, 1) := by decide +kernel
theorem dX5_back_72 : decode cX5_back 72 = .ok (.aload_n 0, 1) := by decide +kernel
theorem dX5_back_73 : decode cX5_back 73 = .ok (.getfield 56, 3) := by decide +kernel
theorem dX5_back_76 : decode cX5_back 76 = .ok (.iload_n 1, 1) := by decide +kernel
theorem dX5_back_77 : decode cX5_back 77 = .ok (.iaload, 1) := by decide +kernel
theorem dX5_back_78 : decode cX5_back 78 = .ok (.iastore, 1) := by decide +kernel
theorem dX5_back_79 : decode cX5_back 79 = .ok (.aload_n 0, 1) := by decide +kernel
theorem dX5_back_80 : decode cX5_back 80 = .ok (.getfield 20, 3) := by decide +kernel
theorem dX5_back_83 : decode cX5_back 83 = .ok (.iload_n 1, 1) := by decide +kernel
theorem dX5_back_84 : decode cX5_back 84 = .ok (.aload_n 0, 1) := by decide +kernel
theorem dX5_back_85 : decode cX5_back 85 = .ok (.getfield 56, 3) := by decide +kernel
theorem dX5_back_88 : decode cX5_back 88 = .ok (.iconst 5, 1) := by decide +kernel
theorem dX5_back_89 : decode cX5_back 89 = .ok (.iload_n 1, 1) := by decide +kernel
theorem dX5_back_90 : decode cX5_back 90 = .ok (.iadd, 1) := by decide +kernel
theorem dX5_back_91 : decode cX5_back 91 = .ok (.iaload, 1) := by decide +kernel
theorem dX5_back_92 : decode cX5_back 92 = .ok (.iastore, 1) := by decide +kernel
theorem dX5_back_93 : decode cX5_back 93 = .ok (.iinc 1 1, 3) := by decide +kernel
theorem dX5_back_96 : decode cX5_back 96 = .ok (.goto (-34), 3) := by decide +kernel
theorem dX5_back_99 : decode cX5_back 99 = .ok (.aload_n 0, 1) := by decide +kernel
theorem dX5_back_100 : decode cX5_back 100 = .ok (.getfield 79, 3) := by decide +kernel
theorem dX5_back_103 : decode cX5_back 103 = .ok (.ireturn, 1) := by decide +kernel
theorem dX5_count_0 : decode cX5_count 0 = .ok (.iconst 0, 1) := by decide +kernel
theorem dX5_count_1 : decode cX5_count 1 = .ok (.istore_n 2, 1) := by decide +kernel
theorem dX5_count_2 : decode cX5_count 2 = .ok (.iload_n 1, 1) := by decide +kernel
theorem dX5_count_3 : decode cX5_count 3 = .ok (.tableswitch 90 0 5 #[37, 42, 70, 75, 80, 85], 37) := by decide +kernel
theorem dX5_count_40 : decode cX5_count 40 = .ok (.aload_n 0, 1) := by decide +kernel
theorem dX5_count_41 : decode cX5_count 41 = .ok (.getfield 79, 3) := by decide +kernel
theorem dX5_count_44 : decode cX5_count 44 = .ok (.ireturn, 1) := by decide +kernel
theorem dX5_count_45 : decode cX5_count 45 = .ok (.iconst 0, 1) := by decide +kernel
theorem dX5_count_46 : decode cX5_count 46 = .ok (.istore_n 3, 1) := by decide +kernel
theorem dX5_count_47 : decode cX5_count 47 = .ok (.iload_n 3, 1) := by decide +kernel
theorem dX5_count_48 : decode cX5_count 48 = .ok (.bipush 8, 2) := by decide +kernel
theorem dX5_count_50 : decode cX5_count 50 = .ok (.if_icmp .ge 21, 3) := by decide +kernel
theorem dX5_count_53 : decode cX5_count 53 = .ok (.aload_n 0, 1) := by decide +kernel
theorem dX5_count_54 : decode cX5_count 54 = .ok (.getfield 7, 3) := by decide +kernel
theorem dX5_count_57 : decode cX5_count 57 = .ok (.iload_n 3, 1) := by decide +kernel
theorem dX5_count_58 : decode cX5_count 58 = .ok (.baload, 1) := by decide +kernel
theorem dX5_count_59 : decode cX5_count 59 = .ok (.ifCond .eq 6, 3) := by decide +kernel
theorem dX5_count_62 : decode cX5_count 62 = .ok (.iinc 2 1, 3) := by decide +kernel
theorem dX5_count_65 : decode cX5_count 65 = .ok (.iinc 3 1, 3) := by decide +kernel
theorem dX5_count_68 : decode cX5_count 68 = .ok (.goto (-21), 3) := by decide +kernel
theorem dX5_count_71 : decode cX5_count 71 = .ok (.iload_n 2, 1) := by decide +kernel
theorem dX5_count_72 : decode cX5_count 72 = .ok (.ireturn, 1) := by decide +kernel
theorem dX5_count_73 : decode cX5_count 73 = .ok (.aload_n 0, 1) := by decide +kernel
theorem dX5_count_74 : decode cX5_count 74 = .ok (.getfield 93, 3) := by decide +kernel
theorem dX5_count_77 : decode cX5_count 77 = .ok (.ireturn, 1) := by decide +kernel
theorem dX5_count_78 : decode cX5_count 78 = .ok (.aload_n 0, 1) := by decide +kernel
theorem dX5_count_79 : decode cX5_count 79 = .ok (.getfield 76, 3) := by decide +kernel
theorem dX5_count_82 : decode cX5_count 82 = .ok (.ireturn, 1) := by decide +kernel
theorem dX5_count_83 : decode cX5_count 83 = .ok (.aload_n 0, 1) := by decide +kernel
theorem dX5_count_84 : decode cX5_count 84 = .ok (.getfield 126, 3) := by decide +kernel
theorem dX5_count_87 : decode cX5_count 87 = .ok (.ireturn, 1) := by decide +kernel
theorem dX5_count_88 : decode cX5_count 88 = .ok (.aload_n 0, 1) := by decide +kernel
theorem dX5_count_89 : decode cX5_count 89 = .ok (.getfield 214, 3) := by decide +kernel
theorem dX5_count_92 : decode cX5_count 92 = .ok (.ireturn, 1) := by decide +kernel
theorem dX5_count_93 : decode cX5_count 93 = .ok (.bipush (-2), 2) := by decide +kernel
theorem dX5_count_95 : decode cX5_count 95 = .ok (.ireturn, 1) := by decide +kernel
theorem dX5_sheet_0 : decode cX5_sheet 0 = .ok (.iload_n 1, 1) := by decide +kernel
theorem dX5_sheet_1 : decode cX5_sheet 1 = .ok (.invokestatic 279, 3) := by decide +kernel
theorem dX5_sheet_4 : decode cX5_sheet 4 = .ok (.ifCond .eq 12, 3) := by decide +kernel
theorem dX5_sheet_7 : decode cX5_sheet 7 = .ok (.iload_n 2, 1) := by decide +kernel
theorem dX5_sheet_8 : decode cX5_sheet 8 = .ok (.iconst (-1), 1) := by decide +kernel
theorem dX5_sheet_9 : decode cX5_sheet 9 = .ok (.iconst 2, 1) := by decide +kernel
theorem dX5_sheet_10 : decode cX5_sheet 10 = .ok (.invokestatic 82, 3) := by decide +kernel
theorem dX5_sheet_13 : decode cX5_sheet 13 = .ok (.ifCond .ne 6, 3) := by decide +kernel
theorem dX5_sheet_16 : decode cX5_sheet 16 = .ok (.bipush (-2), 2) := by decide +kernel
theorem dX5_sheet_18 : decode cX5_sheet 18 = .ok (.ireturn, 1) := by decide +kernel
theorem dX5_sheet_19 : decode cX5_sheet 19 = .ok (.iload_n 2, 1) := by decide +kernel
theorem dX5_sheet_20 : decode cX5_sheet 20 = .ok (.ifCond .lt 10, 3) := by decide +kernel
theorem dX5_sheet_23 : decode cX5_sheet 23 = .ok (.iload_n 3, 1) := by decide +kernel
theorem dX5_sheet_24 : decode cX5_sheet 24 = .ok (.ifCond .ge 6, 3) := by decide +kernel
theorem dX5_sheet_27 : decode cX5_sheet 27 = .ok (.bipush (-14), 2) := by decide +kernel
theorem dX5_sheet_29 : decode cX5_sheet 29 = .ok (.ireturn, 1) := by decide +kernel
theorem dX5_sheet_30 : decode cX5_sheet 30 = .ok (.iload_n 2, 1) := by decide +kernel
theorem dX5_sheet_31 : decode cX5_sheet 31 = .ok (.ifCond .lt 12, 3) := by decide +kernel
theorem dX5_sheet_34 : decode cX5_sheet 34 = .ok (.iload_n 3, 1) := by decide +kernel
theorem dX5_sheet_35 : decode cX5_sheet 35 = .ok (.bipush 40, 2) := by decide +kernel
theorem dX5_sheet_37 : decode cX5_sheet 37 = .ok (.if_icmp .le 6, 3) := by decide +kernel
theorem dX5_sheet_40 : decode cX5_sheet 40 = .ok (.bipush (-2), 2) := by decide +kernel
theorem dX5_sheet_42 : decode cX5_sheet 42 = .ok (.ireturn, 1) := by decide +kernel
theorem dX5_sheet_43 : decode cX5_sheet 43 = .ok (.aload_n 0, 1) := by decide +kernel
theorem dX5_sheet_44 : decode cX5_sheet 44 = .ok (.getfield 59, 3) := by decide +kernel
theorem dX5_sheet_47 : decode cX5_sheet 47 = .ok (.iload_n 1, 1) := by decide +kernel
theorem dX5_sheet_48 : decode cX5_sheet 48 = .ok (.iload_n 2, 1) := by decide +kernel
theorem dX5_sheet_49 : decode cX5_sheet 49 = .ok (.iastore, 1) := by decide +kernel
theorem dX5_sheet_50 : decode cX5_sheet 50 = .ok (.aload_n 0, 1) := by decide +kernel
theorem dX5_sheet_51 : decode cX5_sheet 51 = .ok (.getfield 62, 3) := by decide +kernel
theorem dX5_sheet_54 : decode cX5_sheet 54 = .ok (.iload_n 1, 1) := by decide +kernel
theorem dX5_sheet_55 : decode cX5_sheet 55 = .ok (.iload_n 2, 1) := by decide +kernel
theorem dX5_sheet_56 : decode cX5_sheet 56 = .ok (.ifCond .ge 7, 3) := by decide +kernel
theorem dX5_sheet_59 : decode cX5_sheet 59 = .ok (.iconst 0, 1) := by decide +kernel
theorem dX5_sheet_60 : decode cX5_sheet 60 = .ok (.goto 4, 3) := by decide +kernel
theorem dX5_sheet_63 : decode cX5_sheet 63 = .ok (.iload_n 3, 1) := by decide +kernel
theorem dX5_sheet_64 : decode cX5_sheet 64 = .ok (.iastore, 1) := by decide +kernel
theorem dX5_sheet_65 : decode cX5_sheet 65 = .ok (.iconst 0, 1) := by decide +kernel
theorem dX5_sheet_66 : decode cX5_sheet 66 = .ok (.istore 4, 2) := by decide +kernel
theorem dX5_sheet_68 : decode cX5_sheet 68 = .ok (.iload 4, 2) := by decide +kernel
theorem dX5_sheet_70 : decode cX5_sheet 70 = .ok (.bipush 40, 2) := by decide +kernel
theorem dX5_sheet_72 : decode cX5_sheet 72 = .ok (.if_icmp .ge 22, 3) := by decide +kernel
theorem dX5_sheet_75 : decode cX5_sheet 75 = .ok (.aload_n 0, 1) := by decide +kernel
theorem dX5_sheet_76 : decode cX5_sheet 76 = .ok (.getfield 65, 3) := by decide +kernel
theorem dX5_sheet_79 : decode cX5_sheet 79 = .ok (.bipush 40, 2) := by decide +kernel
theorem dX5_sheet_81 : decode cX5_sheet 81 = .ok (.iload_n 1, 1) := by decide +kernel
theorem dX5_sheet_82 : decode cX5_sheet 82 = .ok (.imul, 1) := by decide +kernel
theorem dX5_sheet_83 : decode cX5_sheet 83 = .ok (.iload 4, 2) := by decide +kernel
theorem dX5_sheet_85 : decode cX5_sheet 85 = .ok (.iadd, 1) := by decide +kernel
theorem dX5_sheet_86 : decode cX5_sheet 86 = .ok (.iconst 0, 1) := by decide +kernel
theorem dX5_sheet_87 : decode cX5_sheet 87 = .ok (.iastore, 1) := by decide +kernel
theorem dX5_sheet_88 : decode cX5_sheet 88 = .ok (.iinc 4 1, 3) := by decide +kernel
theorem dX5_sheet_91 : decode cX5_sheet 91 = .ok (.goto (-23), 3) := by decide +kernel
theorem dX5_sheet_94 : decode cX5_sheet 94 = .ok (.iconst 1, 1) := by decide +kernel
theorem dX5_sheet_95 : decode cX5_sheet 95 = .ok (.ireturn, 1) := by decide +kernel
theorem dX5_cell_0 : decode cX5_cell 0 = .ok (.iload_n 1, 1) := by decide +kernel
theorem dX5_cell_1 : decode cX5_cell 1 = .ok (.invokestatic 279, 3) := by decide +kernel
theorem dX5_cell_4 : decode cX5_cell 4 = .ok (.ifCond .ne 6, 3) := by decide +kernel
theorem dX5_cell_7 : decode cX5_cell 7 = .ok (.bipush (-2), 2) := by decide +kernel
theorem dX5_cell_9 : decode cX5_cell 9 = .ok (.ireturn, 1) := by decide +kernel
theorem dX5_cell_10 : decode cX5_cell 10 = .ok (.aload_n 0, 1) := by decide +kernel
theorem dX5_cell_11 : decode cX5_cell 11 = .ok (.getfield 59, 3) := by decide +kernel
theorem dX5_cell_14 : decode cX5_cell 14 = .ok (.iload_n 1, 1) := by decide +kernel
theorem dX5_cell_15 : decode cX5_cell 15 = .ok (.iaload, 1) := by decide +kernel
theorem dX5_cell_16 : decode cX5_cell 16 = .ok (.ifCond .ge 6, 3) := by decide +kernel
theorem dX5_cell_19 : decode cX5_cell 19 = .ok (.bipush (-11), 2) := by decide +kernel
theorem dX5_cell_21 : decode cX5_cell 21 = .ok (.ireturn, 1) := by decide +kernel
theorem dX5_cell_22 : decode cX5_cell 22 = .ok (.iload_n 2, 1) := by decide +kernel
theorem dX5_cell_23 : decode cX5_cell 23 = .ok (.iconst 0, 1) := by decide +kernel
theorem dX5_cell_24 : decode cX5_cell 24 = .ok (.aload_n 0, 1) := by decide +kernel
theorem dX5_cell_25 : decode cX5_cell 25 = .ok (.getfield 62, 3) := by decide +kernel
theorem dX5_cell_28 : decode cX5_cell 28 = .ok (.iload_n 1, 1) := by decide +kernel
theorem dX5_cell_29 : decode cX5_cell 29 = .ok (.iaload, 1) := by decide +kernel
theorem dX5_cell_30 : decode cX5_cell 30 = .ok (.iconst 1, 1) := by decide +kernel
theorem dX5_cell_31 : decode cX5_cell 31 = .ok (.isub, 1) := by decide +kernel
theorem dX5_cell_32 : decode cX5_cell 32 = .ok (.invokestatic 82, 3) := by decide +kernel
theorem dX5_cell_35 : decode cX5_cell 35 = .ok (.ifCond .ne 6, 3) := by decide +kernel
theorem dX5_cell_38 : decode cX5_cell 38 = .ok (.bipush (-12), 2) := by decide +kernel
theorem dX5_cell_40 : decode cX5_cell 40 = .ok (.ireturn, 1) := by decide +kernel
theorem dX5_cell_41 : decode cX5_cell 41 = .ok (.aload_n 0, 1) := by decide +kernel
theorem dX5_cell_42 : decode cX5_cell 42 = .ok (.getfield 65, 3) := by decide +kernel
theorem dX5_cell_45 : decode cX5_cell 45 = .ok (.bipush 40, 2) := by decide +kernel
theorem dX5_cell_47 : decode cX5_cell 47 = .ok (.iload_n 1, 1) := by decide +kernel
theorem dX5_cell_48 : decode cX5_cell 48 = .ok (.imul, 1) := by decide +kernel
theorem dX5_cell_49 : decode cX5_cell 49 = .ok (.iload_n 2, 1) := by decide +kernel
theorem dX5_cell_50 : decode cX5_cell 50 = .ok (.iadd, 1) := by decide +kernel
theorem dX5_cell_51 : decode cX5_cell 51 = .ok (.aload_n 0, 1) := by decide +kernel
theorem dX5_cell_52 : decode cX5_cell 52 = .ok (.getfield 59, 3) := by decide +kernel
theorem dX5_cell_55 : decode cX5_cell 55 = .ok (.iload_n 1, 1) := by decide +kernel
theorem dX5_cell_56 : decode cX5_cell 56 = .ok (.iaload, 1) := by decide +kernel
theorem dX5_cell_57 : decode cX5_cell 57 = .ok (.ifCond .ne 8, 3) := by decide +kernel
theorem dX5_cell_60 : decode cX5_cell 60 = .ok (.iload_n 3, 1) := by decide +kernel
theorem dX5_cell_61 : decode cX5_cell 61 = .ok (.i2b, 1) := by decide +kernel
theorem dX5_cell_62 : decode cX5_cell 62 = .ok (.goto 19, 3) := by decide +kernel
theorem dX5_cell_65 : decode cX5_cell 65 = .ok (.aload_n 0, 1) := by decide +kernel
theorem dX5_cell_66 : decode cX5_cell 66 = .ok (.getfield 59, 3) := by decide +kernel
theorem dX5_cell_69 : decode cX5_cell 69 = .ok (.iload_n 1, 1) := by decide +kernel
theorem dX5_cell_70 : decode cX5_cell 70 = .ok (.iaload, 1) := by decide +kernel
theorem dX5_cell_71 : decode cX5_cell 71 = .ok (.iconst 1, 1) := by decide +kernel
theorem dX5_cell_72 : decode cX5_cell 72 = .ok (.if_icmp .ne 8, 3) := by decide +kernel
theorem dX5_cell_75 : decode cX5_cell 75 = .ok (.iload_n 3, 1) := by decide +kernel
theorem dX5_cell_76 : decode cX5_cell 76 = .ok (.i2s, 1) := by decide +kernel
theorem dX5_cell_77 : decode cX5_cell 77 = .ok (.goto 4, 3) := by decide +kernel
theorem dX5_cell_80 : decode cX5_cell 80 = .ok (.iload_n 3, 1) := by decide +kernel
theorem dX5_cell_81 : decode cX5_cell 81 = .ok (.iastore, 1) := by decide +kernel
theorem dX5_cell_82 : decode cX5_cell 82 = .ok (.iconst 1, 1) := by decide +kernel
theorem dX5_cell_83 : decode cX5_cell 83 = .ok (.ireturn, 1) := by decide +kernel
theorem dX5_copy_0 : decode cX5_copy 0 = .ok (.iload_n 1, 1) := by decide +kernel
theorem dX5_copy_1 : decode cX5_copy 1 = .ok (.invokestatic 279, 3) := by decide +kernel
theorem dX5_copy_4 : decode cX5_copy 4 = .ok (.ifCond .eq 10, 3) := by decide +kernel
theorem dX5_copy_7 : decode cX5_copy 7 = .ok (.iload_n 3, 1) := by decide +kernel
theorem dX5_copy_8 : decode cX5_copy 8 = .ok (.invokestatic 279, 3) := by decide +kernel
theorem dX5_copy_11 : decode cX5_copy 11 = .ok (.ifCond .ne 6, 3) := by decide +kernel
theorem dX5_copy_14 : decode cX5_copy 14 = .ok (.bipush (-2), 2) := by decide +kernel
theorem dX5_copy_16 : decode cX5_copy 16 = .ok (.ireturn, 1) := by decide +kernel
theorem dX5_copy_17 : decode cX5_copy 17 = .ok (.aload_n 0, 1) := by decide +kernel
theorem dX5_copy_18 : decode cX5_copy 18 = .ok (.getfield 59, 3) := by decide +kernel
theorem dX5_copy_21 : decode cX5_copy 21 = .ok (.iload_n 1, 1) := by decide +kernel
theorem dX5_copy_22 : decode cX5_copy 22 = .ok (.iaload, 1) := by decide +kernel
theorem dX5_copy_23 : decode cX5_copy 23 = .ok (.ifCond .lt 12, 3) := by decide +kernel
theorem dX5_copy_26 : decode cX5_copy 26 = .ok (.aload_n 0, 1) := by decide +kernel
theorem dX5_copy_27 : decode cX5_copy 27 = .ok (.getfield 59, 3) := by decide +kernel
theorem dX5_copy_30 : decode cX5_copy 30 = .ok (.iload_n 3, 1) := by decide +kernel
theorem dX5_copy_31 : decode cX5_copy 31 = .ok (.iaload, 1) := by decide +kernel
theorem dX5_copy_32 : decode cX5_copy 32 = .ok (.ifCond .ge 6, 3) := by decide +kernel
theorem dX5_copy_35 : decode cX5_copy 35 = .ok (.bipush (-11), 2) := by decide +kernel
theorem dX5_copy_37 : decode cX5_copy 37 = .ok (.ireturn, 1) := by decide +kernel
theorem dX5_copy_38 : decode cX5_copy 38 = .ok (.aload_n 0, 1) := by decide +kernel
theorem dX5_copy_39 : decode cX5_copy 39 = .ok (.getfield 59, 3) := by decide +kernel
theorem dX5_copy_42 : decode cX5_copy 42 = .ok (.iload_n 1, 1) := by decide +kernel
theorem dX5_copy_43 : decode cX5_copy 43 = .ok (.iaload, 1) := by decide +kernel
theorem dX5_copy_44 : decode cX5_copy 44 = .ok (.aload_n 0, 1) := by decide +kernel
theorem dX5_copy_45 : decode cX5_copy 45 = .ok (.getfield 59, 3) := by decide +kernel
theorem dX5_copy_48 : decode cX5_copy 48 = .ok (.iload_n 3, 1) := by decide +kernel
theorem dX5_copy_49 : decode cX5_copy 49 = .ok (.iaload, 1) := by decide +kernel
theorem dX5_copy_50 : decode cX5_copy 50 = .ok (.if_icmp .eq 6, 3) := by decide +kernel
theorem dX5_copy_53 : decode cX5_copy 53 = .ok (.bipush (-13), 2) := by decide +kernel
theorem dX5_copy_55 : decode cX5_copy 55 = .ok (.ireturn, 1) := by decide +kernel
theorem dX5_copy_56 : decode cX5_copy 56 = .ok (.iload 5, 2) := by decide +kernel
theorem dX5_copy_58 : decode cX5_copy 58 = .ok (.ifCond .lt 47, 3) := by decide +kernel
theorem dX5_copy_61 : decode cX5_copy 61 = .ok (.iload_n 2, 1) := by decide +kernel
theorem dX5_copy_62 : decode cX5_copy 62 = .ok (.ifCond .lt 43, 3) := by decide +kernel
theorem dX5_copy_65 : decode cX5_copy 65 = .ok (.iload 4, 2) := by decide +kernel
theorem dX5_copy_67 : decode cX5_copy 67 = .ok (.ifCond .lt 38, 3) := by decide +kernel
theorem dX5_copy_70 : decode cX5_copy 70 = .ok (.iload_n 2, 1) := by decide +kernel
theorem dX5_copy_71 : decode cX5_copy 71 = .ok (.i2l, 1) := by decide +kernel
theorem dX5_copy_72 : decode cX5_copy 72 = .ok (.iload 5, 2) := by decide +kernel
theorem dX5_copy_74 : decode cX5_copy 74 = .ok (.i2l, 1) := by decide +kernel
theorem dX5_copy_75 : decode cX5_copy 75 = .ok (.ladd, 1) := by decide +kernel
theorem dX5_copy_76 : decode cX5_copy 76 = .ok (.aload_n 0, 1) := by decide +kernel
theorem dX5_copy_77 : decode cX5_copy 77 = .ok (.getfield 62, 3) := by decide +kernel
theorem dX5_copy_80 : decode cX5_copy 80 = .ok (.iload_n 1, 1) := by decide +kernel
theorem dX5_copy_81 : decode cX5_copy 81 = .ok (.iaload, 1) := by decide +kernel
theorem dX5_copy_82 : decode cX5_copy 82 = .ok (.i2l, 1) := by decide +kernel
theorem dX5_copy_83 : decode cX5_copy 83 = .ok (.lcmp, 1) := by decide +kernel
theorem dX5_copy_84 : decode cX5_copy 84 = .ok (.ifCond .gt 21, 3) := by decide +kernel
theorem dX5_copy_87 : decode cX5_copy 87 = .ok (.iload 4, 2) := by decide +kernel
theorem dX5_copy_89 : decode cX5_copy 89 = .ok (.i2l, 1) := by decide +kernel
theorem dX5_copy_90 : decode cX5_copy 90 = .ok (.iload 5, 2) := by decide +kernel
theorem dX5_copy_92 : decode cX5_copy 92 = .ok (.i2l, 1) := by decide +kernel
theorem dX5_copy_93 : decode cX5_copy 93 = .ok (.ladd, 1) := by decide +kernel
theorem dX5_copy_94 : decode cX5_copy 94 = .ok (.aload_n 0, 1) := by decide +kernel
theorem dX5_copy_95 : decode cX5_copy 95 = .ok (.getfield 62, 3) := by decide +kernel
theorem dX5_copy_98 : decode cX5_copy 98 = .ok (.iload_n 3, 1) := by decide +kernel
theorem dX5_copy_99 : decode cX5_copy 99 = .ok (.iaload, 1) := by decide +kernel
theorem dX5_copy_100 : decode cX5_copy 100 = .ok (.i2l, 1) := by decide +kernel
theorem dX5_copy_101 : decode cX5_copy 101 = .ok (.lcmp, 1) := by decide +kernel
theorem dX5_copy_102 : decode cX5_copy 102 = .ok (.ifCond .le 6, 3) := by decide +kernel
theorem dX5_copy_105 : decode cX5_copy 105 = .ok (.bipush (-12), 2) := by decide +kernel
theorem dX5_copy_107 : decode cX5_copy 107 = .ok (.ireturn, 1) := by decide +kernel
theorem dX5_copy_108 : decode cX5_copy 108 = .ok (.iload_n 1, 1) := by decide +kernel
theorem dX5_copy_109 : decode cX5_copy 109 = .ok (.iload_n 3, 1) := by decide +kernel
theorem dX5_copy_110 : decode cX5_copy 110 = .ok (.if_icmp .ne 58, 3) := by decide +kernel
theorem dX5_copy_113 : decode cX5_copy 113 = .ok (.iload_n 2, 1) := by decide +kernel
theorem dX5_copy_114 : decode cX5_copy 114 = .ok (.iload 4, 2) := by decide +kernel
theorem dX5_copy_116 : decode cX5_copy 116 = .ok (.if_icmp .ge 52, 3) := by decide +kernel
theorem dX5_copy_119 : decode cX5_copy 119 = .ok (.iload 5, 2) := by decide +kernel
theorem dX5_copy_121 : decode cX5_copy 121 = .ok (.iconst 1, 1) := by decide +kernel
theorem dX5_copy_122 : decode cX5_copy 122 = .ok (.isub, 1) := by decide +kernel
theorem dX5_copy_123 : decode cX5_copy 123 = .ok (.istore 6, 2) := by decide +kernel
theorem dX5_copy_125 : decode cX5_copy 125 = .ok (.iload 6, 2) := by decide +kernel
theorem dX5_copy_127 : decode cX5_copy 127 = .ok (.ifCond .lt 38, 3) := by decide +kernel
theorem dX5_copy_130 : decode cX5_copy 130 = .ok (.aload_n 0, 1) := by decide +kernel
theorem dX5_copy_131 : decode cX5_copy 131 = .ok (.getfield 65, 3) := by decide +kernel
theorem dX5_copy_134 : decode cX5_copy 134 = .ok (.bipush 40, 2) := by decide +kernel
theorem dX5_copy_136 : decode cX5_copy 136 = .ok (.iload_n 3, 1) := by decide +kernel
theorem dX5_copy_137 : decode cX5_copy 137 = .ok (.imul, 1) := by decide +kernel
theorem dX5_copy_138 : decode cX5_copy 138 = .ok (.iload 4, 2) := by decide +kernel
theorem dX5_copy_140 : decode cX5_copy 140 = .ok (.iadd, 1) := by decide +kernel
theorem dX5_copy_141 : decode cX5_copy 141 = .ok (.iload 6, 2) := by decide +kernel
theorem dX5_copy_143 : decode cX5_copy 143 = .ok (.iadd, 1) := by decide +kernel
theorem dX5_copy_144 : decode cX5_copy 144 = .ok (.aload_n 0, 1) := by decide +kernel
theorem dX5_copy_145 : decode cX5_copy 145 = .ok (.getfield 65, 3) := by decide +kernel
theorem dX5_copy_148 : decode cX5_copy 148 = .ok (.bipush 40, 2) := by decide +kernel
theorem dX5_copy_150 : decode cX5_copy 150 = .ok (.iload_n 1, 1) := by decide +kernel
theorem dX5_copy_151 : decode cX5_copy 151 = .ok (.imul, 1) := by decide +kernel
theorem dX5_copy_152 : decode cX5_copy 152 = .ok (.iload_n 2, 1) := by decide +kernel
theorem dX5_copy_153 : decode cX5_copy 153 = .ok (.iadd, 1) := by decide +kernel
theorem dX5_copy_154 : decode cX5_copy 154 = .ok (.iload 6, 2) := by decide +kernel
theorem dX5_copy_156 : decode cX5_copy 156 = .ok (.iadd, 1) := by decide +kernel
theorem dX5_copy_157 : decode cX5_copy 157 = .ok (.iaload, 1) := by decide +kernel
theorem dX5_copy_158 : decode cX5_copy 158 = .ok (.iastore, 1) := by decide +kernel
theorem dX5_copy_159 : decode cX5_copy 159 = .ok (.iinc 6 (-1), 3) := by decide +kernel
theorem dX5_copy_162 : decode cX5_copy 162 = .ok (.goto (-37), 3) := by decide +kernel
theorem dX5_copy_165 : decode cX5_copy 165 = .ok (.goto 48, 3) := by decide +kernel
theorem dX5_copy_168 : decode cX5_copy 168 = .ok (.iconst 0, 1) := by decide +kernel
theorem dX5_copy_169 : decode cX5_copy 169 = .ok (.istore 6, 2) := by decide +kernel
theorem dX5_copy_171 : decode cX5_copy 171 = .ok (.iload 6, 2) := by decide +kernel
theorem dX5_copy_173 : decode cX5_copy 173 = .ok (.iload 5, 2) := by decide +kernel
theorem dX5_copy_175 : decode cX5_copy 175 = .ok (.if_icmp .ge 38, 3) := by decide +kernel
theorem dX5_copy_178 : decode cX5_copy 178 = .ok (.aload_n 0, 1) := by decide +kernel
theorem dX5_copy_179 : decode cX5_copy 179 = .ok (.getfield 65, 3) := by decide +kernel
theorem dX5_copy_182 : decode cX5_copy 182 = .ok (.bipush 40, 2) := by decide +kernel
theorem dX5_copy_184 : decode cX5_copy 184 = .ok (.iload_n 3, 1) := by decide +kernel
theorem dX5_copy_185 : decode cX5_copy 185 = .ok (.imul, 1) := by decide +kernel
theorem dX5_copy_186 : decode cX5_copy 186 = .ok (.iload 4, 2) := by decide +kernel
theorem dX5_copy_188 : decode cX5_copy 188 = .ok (.iadd, 1) := by decide +kernel
theorem dX5_copy_189 : decode cX5_copy 189 = .ok (.iload 6, 2) := by decide +kernel
theorem dX5_copy_191 : decode cX5_copy 191 = .ok (.iadd, 1) := by decide +kernel
theorem dX5_copy_192 : decode cX5_copy 192 = .ok (.aload_n 0, 1) := by decide +kernel
theorem dX5_copy_193 : decode cX5_copy 193 = .ok (.getfield 65, 3) := by decide +kernel
theorem dX5_copy_196 : decode cX5_copy 196 = .ok (.bipush 40, 2) := by decide +kernel
theorem dX5_copy_198 : decode cX5_copy 198 = .ok (.iload_n 1, 1) := by decide +kernel
theorem dX5_copy_199 : decode cX5_copy 199 = .ok (.imul, 1) := by decide +kernel
theorem dX5_copy_200 : decode cX5_copy 200 = .ok (.iload_n 2, 1) := by decide +kernel
theorem dX5_copy_201 : decode cX5_copy 201 = .ok (.iadd, 1) := by decide +kernel
theorem dX5_copy_202 : decode cX5_copy 202 = .ok (.iload 6, 2) := by decide +kernel
theorem dX5_copy_204 : decode cX5_copy 204 = .ok (.iadd, 1) := by decide +kernel
theorem dX5_copy_205 : decode cX5_copy 205 = .ok (.iaload, 1) := by decide +kernel
theorem dX5_copy_206 : decode cX5_copy 206 = .ok (.iastore, 1) := by decide +kernel
theorem dX5_copy_207 : decode cX5_copy 207 = .ok (.iinc 6 1, 3) := by decide +kernel
theorem dX5_copy_210 : decode cX5_copy 210 = .ok (.goto (-39), 3) := by decide +kernel
theorem dX5_copy_213 : decode cX5_copy 213 = .ok (.iload 5, 2) := by decide +kernel
theorem dX5_copy_215 : decode cX5_copy 215 = .ok (.ireturn, 1) := by decide +kernel
theorem dX5_people_0 : decode cX5_people 0 = .ok (.iload_n 1, 1) := by decide +kernel
theorem dX5_people_1 : decode cX5_people 1 = .ok (.invokestatic 279, 3) := by decide +kernel
theorem dX5_people_4 : decode cX5_people 4 = .ok (.ifCond .eq 22, 3) := by decide +kernel
theorem dX5_people_7 : decode cX5_people 7 = .ok (.iload_n 2, 1) := by decide +kernel
theorem dX5_people_8 : decode cX5_people 8 = .ok (.iconst 0, 1) := by decide +kernel
theorem dX5_people_9 : decode cX5_people 9 = .ok (.iconst 2, 1) := by decide +kernel
theorem dX5_people_10 : decode cX5_people 10 = .ok (.invokestatic 82, 3) := by decide +kernel
theorem dX5_people_13 : decode cX5_people 13 = .ok (.ifCond .eq 13, 3) := by decide +kernel
theorem dX5_people_16 : decode cX5_people 16 = .ok (.iload 4, 2) := by decide +kernel
theorem dX5_people_18 : decode cX5_people 18 = .ok (.iconst 0, 1) := by decide +kernel
theorem dX5_people_19 : decode cX5_people 19 = .ok (.iconst 5, 1) := by decide +kernel
theorem dX5_people_20 : decode cX5_people 20 = .ok (.invokestatic 82, 3) := by decide +kernel
theorem dX5_people_23 : decode cX5_people 23 = .ok (.ifCond .ne 6, 3) := by decide +kernel
theorem dX5_people_26 : decode cX5_people 26 = .ok (.bipush (-2), 2) := by decide +kernel
theorem dX5_people_28 : decode cX5_people 28 = .ok (.ireturn, 1) := by decide +kernel
theorem dX5_people_29 : decode cX5_people 29 = .ok (.aload_n 0, 1) := by decide +kernel
theorem dX5_people_30 : decode cX5_people 30 = .ok (.getfield 59, 3) := by decide +kernel
theorem dX5_people_33 : decode cX5_people 33 = .ok (.iload_n 1, 1) := by decide +kernel
theorem dX5_people_34 : decode cX5_people 34 = .ok (.iaload, 1) := by decide +kernel
theorem dX5_people_35 : decode cX5_people 35 = .ok (.ifCond .ge 6, 3) := by decide +kernel
theorem dX5_people_38 : decode cX5_people 38 = .ok (.bipush (-11), 2) := by decide +kernel
theorem dX5_people_40 : decode cX5_people 40 = .ok (.ireturn, 1) := by decide +kernel
theorem dX5_people_41 : decode cX5_people 41 = .ok (.aload_n 0, 1) := by decide +kernel
theorem dX5_people_42 : decode cX5_people 42 = .ok (.getfield 59, 3) := by decide +kernel
theorem dX5_people_45 : decode cX5_people 45 = .ok (.iload_n 1, 1) := by decide +kernel
theorem dX5_people_46 : decode cX5_people 46 = .ok (.iaload, 1) := by decide +kernel
theorem dX5_people_47 : decode cX5_people 47 = .ok (.iload_n 2, 1) := by decide +kernel
theorem dX5_people_48 : decode cX5_people 48 = .ok (.if_icmp .eq 6, 3) := by decide +kernel
theorem dX5_people_51 : decode cX5_people 51 = .ok (.bipush (-13), 2) := by decide +kernel
theorem dX5_people_53 : decode cX5_people 53 = .ok (.ireturn, 1) := by decide +kernel
theorem dX5_people_54 : decode cX5_people 54 = .ok (.iconst 0, 1) := by decide +kernel
theorem dX5_people_55 : decode cX5_people 55 = .ok (.istore 5, 2) := by decide +kernel
theorem dX5_people_57 : decode cX5_people 57 = .ok (.iconst 0, 1) := by decide +kernel
theorem dX5_people_58 : decode cX5_people 58 = .ok (.istore 6, 2) := by decide +kernel
theorem dX5_people_60 : decode cX5_people 60 = .ok (.iload 6, 2) := by decide +kernel
theorem dX5_people_62 : decode cX5_people 62 = .ok (.iload 4, 2) := by decide +kernel
theorem dX5_people_64 : decode cX5_people 64 = .ok (.if_icmp .ge 82, 3) := by decide +kernel
theorem dX5_people_67 : decode cX5_people 67 = .ok (.iload_n 3, 1) := by decide +kernel
theorem dX5_people_68 : decode cX5_people 68 = .ok (.i2l, 1) := by decide +kernel
theorem dX5_people_69 : decode cX5_people 69 = .ok (.ldc2_w 315, 3) := by decide +kernel
theorem dX5_people_72 : decode cX5_people 72 = .ok (.iload 6, 2) := by decide +kernel
theorem dX5_people_74 : decode cX5_people 74 = .ok (.i2l, 1) := by decide +kernel
theorem dX5_people_75 : decode cX5_people 75 = .ok (.lmul, 1) := by decide +kernel
theorem dX5_people_76 : decode cX5_people 76 = .ok (.ladd, 1) := by decide +kernel
theorem dX5_people_77 : decode cX5_people 77 = .ok (.lstore 7, 2) := by decide +kernel
theorem dX5_people_79 : decode cX5_people 79 = .ok (.lload 7, 2) := by decide +kernel
theorem dX5_people_81 : decode cX5_people 81 = .ok (.lconst 0, 1) := by decide +kernel
theorem dX5_people_82 : decode cX5_people 82 = .ok (.lcmp, 1) := by decide +kernel
theorem dX5_people_83 : decode cX5_people 83 = .ok (.ifCond .lt 18, 3) := by decide +kernel
theorem dX5_people_86 : decode cX5_people 86 = .ok (.lload 7, 2) := by decide +kernel
theorem dX5_people_88 : decode cX5_people 88 = .ok (.lconst 1, 1) := by decide +kernel
theorem dX5_people_89 : decode cX5_people 89 = .ok (.ladd, 1) := by decide +kernel
theorem dX5_people_90 : decode cX5_people 90 = .ok (.aload_n 0, 1) := by decide +kernel
theorem dX5_people_91 : decode cX5_people 91 = .ok (.getfield 62, 3) := by decide +kernel
theorem dX5_people_94 : decode cX5_people 94 = .ok (.iload_n 1, 1) := by decide +kernel
theorem dX5_people_95 : decode cX5_people 95 = .ok (.iaload, 1) := by decide +kernel
theorem dX5_people_96 : decode cX5_people 96 = .ok (.i2l, 1) := by decide +kernel
theorem dX5_people_97 : decode cX5_people 97 = .ok (.lcmp, 1) := by decide +kernel
theorem dX5_people_98 : decode cX5_people 98 = .ok (.ifCond .lt 6, 3) := by decide +kernel
theorem dX5_people_101 : decode cX5_people 101 = .ok (.bipush (-12), 2) := by decide +kernel
theorem dX5_people_103 : decode cX5_people 103 = .ok (.ireturn, 1) := by decide +kernel
theorem dX5_people_104 : decode cX5_people 104 = .ok (.bipush 40, 2) := by decide +kernel
theorem dX5_people_106 : decode cX5_people 106 = .ok (.iload_n 1, 1) := by decide +kernel
theorem dX5_people_107 : decode cX5_people 107 = .ok (.imul, 1) := by decide +kernel
theorem dX5_people_108 : decode cX5_people 108 = .ok (.lload 7, 2) := by decide +kernel
theorem dX5_people_110 : decode cX5_people 110 = .ok (.l2i, 1) := by decide +kernel
theorem dX5_people_111 : decode cX5_people 111 = .ok (.iadd, 1) := by decide +kernel
theorem dX5_people_112 : decode cX5_people 112 = .ok (.istore 9, 2) := by decide +kernel
theorem dX5_people_114 : decode cX5_people 114 = .ok (.aload_n 0, 1) := by decide +kernel
theorem dX5_people_115 : decode cX5_people 115 = .ok (.aload_n 0, 1) := by decide +kernel
theorem dX5_people_116 : decode cX5_people 116 = .ok (.getfield 65, 3) := by decide +kernel
theorem dX5_people_119 : decode cX5_people 119 = .ok (.iload 9, 2) := by decide +kernel
theorem dX5_people_121 : decode cX5_people 121 = .ok (.iaload, 1) := by decide +kernel
theorem dX5_people_122 : decode cX5_people 122 = .ok (.aload_n 0, 1) := by decide +kernel
theorem dX5_people_123 : decode cX5_people 123 = .ok (.getfield 65, 3) := by decide +kernel
theorem dX5_people_126 : decode cX5_people 126 = .ok (.iload 9, 2) := by decide +kernel
theorem dX5_people_128 : decode cX5_people 128 = .ok (.iconst 1, 1) := by decide +kernel
theorem dX5_people_129 : decode cX5_people 129 = .ok (.iadd, 1) := by decide +kernel
theorem dX5_people_130 : decode cX5_people 130 = .ok (.iaload, 1) := by decide +kernel
theorem dX5_people_131 : decode cX5_people 131 = .ok (.invokevirtual 317, 3) := by decide +kernel
theorem dX5_people_134 : decode cX5_people 134 = .ok (.ifCond .lt 6, 3) := by decide +kernel
theorem dX5_people_137 : decode cX5_people 137 = .ok (.iinc 5 1, 3) := by decide +kernel
theorem dX5_people_140 : decode cX5_people 140 = .ok (.iinc 6 1, 3) := by decide +kernel
theorem dX5_people_143 : decode cX5_people 143 = .ok (.goto (-83), 3) := by decide +kernel
theorem dX5_people_146 : decode cX5_people 146 = .ok (.iload 5, 2) := by decide +kernel
theorem dX5_people_148 : decode cX5_people 148 = .ok (.ireturn, 1) := by decide +kernel
theorem dX5_taken_0 : decode cX5_taken 0 = .ok (.iload_n 2, 1) := by decide +kernel
theorem dX5_taken_1 : decode cX5_taken 1 = .ok (.iconst 0, 1) := by decide +kernel
theorem dX5_taken_2 : decode cX5_taken 2 = .ok (.iconst 5, 1) := by decide +kernel
theorem dX5_taken_3 : decode cX5_taken 3 = .ok (.invokestatic 82, 3) := by decide +kernel
theorem dX5_taken_6 : decode cX5_taken 6 = .ok (.ifCond .ne 6, 3) := by decide +kernel
theorem dX5_taken_9 : decode cX5_taken 9 = .ok (.bipush (-2), 2) := by decide +kernel
theorem dX5_taken_11 : decode cX5_taken 11 = .ok (.ireturn, 1) := by decide +kernel
theorem dX5_taken_12 : decode cX5_taken 12 = .ok (.aload_n 0, 1) := by decide +kernel
theorem dX5_taken_13 : decode cX5_taken 13 = .ok (.iload_n 1, 1) := by decide +kernel
theorem dX5_taken_14 : decode cX5_taken 14 = .ok (.invokevirtual 86, 3) := by decide +kernel
theorem dX5_taken_17 : decode cX5_taken 17 = .ok (.ifCond .ne 6, 3) := by decide +kernel
theorem dX5_taken_20 : decode cX5_taken 20 = .ok (.bipush (-11), 2) := by decide +kernel
theorem dX5_taken_22 : decode cX5_taken 22 = .ok (.ireturn, 1) := by decide +kernel
theorem dX5_taken_23 : decode cX5_taken 23 = .ok (.aload_n 0, 1) := by decide +kernel
theorem dX5_taken_24 : decode cX5_taken 24 = .ok (.getfield 13, 3) := by decide +kernel
theorem dX5_taken_27 : decode cX5_taken 27 = .ok (.iload_n 1, 1) := by decide +kernel
theorem dX5_taken_28 : decode cX5_taken 28 = .ok (.iaload, 1) := by decide +kernel
theorem dX5_taken_29 : decode cX5_taken 29 = .ok (.istore_n 3, 1) := by decide +kernel
theorem dX5_taken_30 : decode cX5_taken 30 = .ok (.iload_n 3, 1) := by decide +kernel
theorem dX5_taken_31 : decode cX5_taken 31 = .ok (.iload_n 2, 1) := by decide +kernel
theorem dX5_taken_32 : decode cX5_taken 32 = .ok (.if_icmp .eq 30, 3) := by decide +kernel
theorem dX5_taken_35 : decode cX5_taken 35 = .ok (.iload_n 3, 1) := by decide +kernel
theorem dX5_taken_36 : decode cX5_taken 36 = .ok (.ifCond .le 26, 3) := by decide +kernel
theorem dX5_taken_39 : decode cX5_taken 39 = .ok (.iload_n 3, 1) := by decide +kernel
theorem dX5_taken_40 : decode cX5_taken 40 = .ok (.iconst 3, 1) := by decide +kernel
theorem dX5_taken_41 : decode cX5_taken 41 = .ok (.if_icmp .ne 7, 3) := by decide +kernel
theorem dX5_taken_44 : decode cX5_taken 44 = .ok (.iconst 1, 1) := by decide +kernel
theorem dX5_taken_45 : decode cX5_taken 45 = .ok (.goto 13, 3) := by decide +kernel
theorem dX5_taken_48 : decode cX5_taken 48 = .ok (.iload_n 3, 1) := by decide +kernel
theorem dX5_taken_49 : decode cX5_taken 49 = .ok (.iconst 4, 1) := by decide +kernel
theorem dX5_taken_50 : decode cX5_taken 50 = .ok (.if_icmp .ne 7, 3) := by decide +kernel
theorem dX5_taken_53 : decode cX5_taken 53 = .ok (.iconst 2, 1) := by decide +kernel
theorem dX5_taken_54 : decode cX5_taken 54 = .ok (.goto 4, 3) := by decide +kernel
theorem dX5_taken_57 : decode cX5_taken 57 = .ok (.iconst 0, 1) := by decide +kernel
theorem dX5_taken_58 : decode cX5_taken 58 = .ok (.istore_n 3, 1) := by decide +kernel
theorem dX5_taken_59 : decode cX5_taken 59 = .ok (.goto (-29), 3) := by decide +kernel
theorem dX5_taken_62 : decode cX5_taken 62 = .ok (.iload_n 3, 1) := by decide +kernel
theorem dX5_taken_63 : decode cX5_taken 63 = .ok (.iload_n 2, 1) := by decide +kernel
theorem dX5_taken_64 : decode cX5_taken 64 = .ok (.if_icmp .ne 12, 3) := by decide +kernel
theorem dX5_taken_67 : decode cX5_taken 67 = .ok (.aload_n 0, 1) := by decide +kernel
theorem dX5_taken_68 : decode cX5_taken 68 = .ok (.getfield 17, 3) := by decide +kernel
theorem dX5_taken_71 : decode cX5_taken 71 = .ok (.iload_n 1, 1) := by decide +kernel
theorem dX5_taken_72 : decode cX5_taken 72 = .ok (.iaload, 1) := by decide +kernel
theorem dX5_taken_73 : decode cX5_taken 73 = .ok (.goto 5, 3) := by decide +kernel
theorem dX5_taken_76 : decode cX5_taken 76 = .ok (.bipush (-13), 2) := by decide +kernel
theorem dX5_taken_78 : decode cX5_taken 78 = .ok (.ireturn, 1) := by decide +kernel
end
section
/-! what the class world knows of the rest: its texts, its statics, nest links; rows for them -/
def strLens : List Nat := [51, 61, 8]
def strByts : List (List Int32) := [[99, 117, 116, 115, 32, 108, 97, 121, 101, 114, 32, 60, 32, 51, 32, 43, 32, 109, 111, 111, 100, 32, 59, 32, 102, 101, 101, 108, 115, 32, 108, 97, 121, 101, 114, 32, 45, 32, 51, 32, 59, 32, 115, 101, 110, 100, 115, 32, 49, 32, 59], [108, 97, 121, 101, 114, 32, 109, 111, 111, 100, 32, 110, 117, 109, 98, 101, 114, 32, 116, 104, 101, 105, 114, 115, 32, 102, 114, 111, 109, 32, 116, 111, 32, 99, 117, 116, 115, 32, 102, 101, 101, 108, 115, 32, 115, 101, 110, 100, 115, 32, 111, 114, 32, 97, 110, 100, 32, 110, 111, 116, 32], [40, 41, 59, 43, 45, 42, 60, 61]]
def strN (kx : Nat) : Nat := strLens.getD kx 0
def strB (kx j : Nat) : Int32 := (strByts.getD kx []).getD j 0
def underV (j : Nat) : Int32 := ([-1, 0, 0, 1, 2, 0] : List Int32).getD j 0
def isZ (v : Int32) : Prop := v = 0 ∨ v = 1
theorem isZ.nb {v : Int32} (h : isZ v) : narrow .boolean (.int v) = .int v := by rcases h with rfl | rfl <;> rfl
theorem isZ.and {v : Int32} (h : isZ v) : v &&& 1 = v := by rcases h with rfl | rfl <;> rfl
theorem QI.i {K : Int32 → Wd → Prop} {v : Int32} {w : Wd} (h : K v w) : QI K (some (.int v)) w := ⟨v, rfl, h⟩
theorem QL.i {K : Int64 → Wd → Prop} {v : Int64} {w : Wd} (h : K v w) : QL K (some (.long v)) w := ⟨v, rfl, h⟩
theorem QV.i {K : Wd → Prop} {w : Wd} (h : K w) : QV K none w := ⟨rfl, h⟩
theorem cat0 : ∀ a ∈ ([] : List Value), a.category = 1 := fun _ h => absurd h List.not_mem_nil
theorem catI {x : Int32} {as : List Value} (h : ∀ a ∈ as, a.category = 1) : ∀ a ∈ (Value.int x :: as), a.category = 1 := List.forall_mem_cons.mpr ⟨rfl, h⟩
theorem catR {x : Nat} {as : List Value} (h : ∀ a ∈ as, a.category = 1) : ∀ a ∈ (Value.ref x :: as), a.category = 1 := List.forall_mem_cons.mpr ⟨rfl, h⟩
theorem catV {x : Value} {as : List Value} (hx : x.category = 1) (h : ∀ a ∈ as, a.category = 1) : ∀ a ∈ (x :: as), a.category = 1 := List.forall_mem_cons.mpr ⟨hx, h⟩
def EXF (ad : Nat → Nat) (A : Nat → Prop) (U : State) : Prop :=
  va_Nw (.methodLinkNest RX1 87 M_X4_isIn.1 "SandwichesSpeak") U ∧ va_Nw (.methodLinkNest RX0 80 M_X4_bounded.1 "SandwichesSpeak") U ∧
  vk_R RX4 49 "cuts layer < 3 + mood ; feels layer - 3 ; sends 1 ;" (ad 100) U ∧ vk_R RX1 109 "layer mood number theirs from to cuts feels sends or and not " (ad 101) U ∧ vk_R RX1 97 "();+-*<=" (ad 102) U ∧
  vk_S 3 strLens strByts (fun i => ad (100 + i)) (fun i => ad (110 + i)) A U U.heap ∧
  va_Z "java/lang/String" "COMPACT_STRINGS" "Z" (.int 1) A U U.heap ∧ va_Zq "jdk/internal/util/Preconditions" "SIOOBE_FORMATTER" "Ljava/util/function/BiFunction;" A U U.heap ∧
  va_Z "SandwichesSpeak" "UNDER" "[I" (.ref (ad 120)) A U U.heap ∧ va_T .int (ad 120) 6 (fun j => .int (underV j)) A U U.heap
theorem EXF.same {ad : Nat → Nat} {A : Nat → Prop} {s U : State} (h : EXF ad A s) (hh : U.heap = s.heap) (hv : U.vm = s.vm) : EXF ad A U := by
  obtain ⟨h1, h2, h3, h4, h5, h6, h7, h8, h9, h10⟩ := h
  have ha : s.vm.Alike U.vm := by rw [hv]; exact Vm.Alike.refl _
  refine ⟨va_Nw.same rfl hv.symm h1, va_Nw.same rfl hv.symm h2, vk_R.same hv h3, vk_R.same hv h4, vk_R.same hv h5, ?_, ?_, ?_, ?_, ?_⟩
  all_goals rw [hh]
  · exact h6.moved ha
  · exact h7.moved ha
  · exact h8.moved ha
  · exact h9.moved ha
  · exact h10.moved ha
theorem EXF.warm {ad : Nat → Nat} {A : Nat → Prop} {s U : State} (h : EXF ad A s) (hW : s.WarmedH U.vm) (hz : s.heap.size ≤ U.heap.size) (hq : ∀ q : Nat, q < s.heap.size → ¬ A q → U.heap[q]? = s.heap[q]?) : EXF ad A U := by
  obtain ⟨h1, h2, h3, h4, h5, h6, h7, h8, h9, h10⟩ := h
  have ha := hW.alike
  exact ⟨va_Nw.warmM hW h1, va_Nw.warmM hW h2, h3.warm hW, h4.warm hW, h5.warm hW, (h6.kept hq).moved ha, (h7.kept hq).moved ha, (h8.kept hq).moved ha, (h9.kept hq).moved ha, (h10.kept hq).moved ha⟩
/-- the class world, and the model's -/
def GC (Γ : Gx) : Prop := GOK Γ ∧ ShC Γ ∧ ∀ U, gE Γ U → EXF (gad Γ) (gA Γ) U
def GM (Γ : Gx) : Prop := GOK Γ ∧ ShM Γ
theorem GC.x {Γ : Gx} (h : GC Γ) {X : Mx} {own : String} {cc : ByteArray} {nL : Nat} {ret : Option FieldType} (hO : OKM Γ X own cc nL ret) : EXF (gad Γ) (gA Γ) (xs X) := h.2.2 _ hO.2.2.2.2.2.2.2.2.2
section XROWS
variable {Γ : Gx} {X : Mx} {own : String} {cc : ByteArray} {nL d pc : Nat} {ret : Option FieldType} {Q : Option Value → Wd → Prop} {lv : List (Option Value)} {st rest : List Value} {w : Wd}
theorem G_ldcS (hO : OKM Γ X own cc nL ret) {ix kx : Nat} {tx : String} (hd : decode cc pc = .ok (.ldc ix, 2)) (hX : vk_R own ix tx (gad Γ kx) (xs X)) (k : GG Γ X d nL Q (pc + 2) lv (.ref (gad Γ kx) :: st) w) : GG Γ X d nL Q pc lv st w := fun ls H locs hl hP hS => va_ldcS hO.1 hO.2.1 hO.2.2.2.1 hX hd (k ls H locs hl hP hS)
theorem G_aaT (hO : OKM Γ X own cc nL ret) {i : Nat} {j : Int32} (hd : decode cc pc = .ok (.aaload, 1)) (hs : (gS Γ)[i]? = some (.inl (3, 6, textCells))) (hin : vp_in j 6) (k : GG Γ X d nL Q (pc + 1) lv (.ref (gad Γ (rfa textCells j.toNatClampNeg)) :: st) w) : GG Γ X d nL Q pc lv (.int j :: .ref (gad Γ i) :: st) w := G_aaload hO hd hs (C := "SandwichesSpeak$Text") rfl hin k
theorem G_aaS (hO : OKM Γ X own cc nL ret) {i : Nat} {j : Int32} (hd : decode cc pc = .ok (.aaload, 1)) (hs : (gS Γ)[i]? = some (.inl (2, 4, sheetCells))) (hin : vp_in j 4) (k : GG Γ X d nL Q (pc + 1) lv (.ref (gad Γ (rfa sheetCells j.toNatClampNeg)) :: st) w) : GG Γ X d nL Q pc lv (.int j :: .ref (gad Γ i) :: st) w := G_aaload hO hd hs (C := "SandwichesSpeak$Sheet") rfl hin k
theorem G_under (hO : OKM Γ X RX4 cc nL ret) (hX : EXF (gad Γ) (gA Γ) (xs X)) (hd : decode cc pc = .ok (.getstatic 260, 3)) (k : GG Γ X d nL Q (pc + 3) lv (.ref (gad Γ 120) :: st) w) : GG Γ X d nL Q pc lv st w := fun ls H locs hl hP hS => va_gets hO.1 hO.2.1 hX.2.2.2.2.2.2.2.2.1 hS hO.2.2.2.1 (hO.2.2.2.2.1 _ (show Cond.fieldLink RX4 260 "SandwichesSpeak" "UNDER" "[I" ∈ AW from AW_mem 737 (by decide +kernel) (by decide +kernel))) (fun _ h => h) hd (k ls H locs hl hP hS)
theorem G_underLd (hO : OKM Γ X own cc nL ret) (hX : EXF (gad Γ) (gA Γ) (xs X)) {j : Int32} (hd : decode cc pc = .ok (.iaload, 1)) (hin : vp_in j 6) (k : GG Γ X d nL Q (pc + 1) lv (.int (underV j.toNatClampNeg) :: st) w) : GG Γ X d nL Q pc lv (.int j :: .ref (gad Γ 120) :: st) w := fun ls H locs hl hP hS => va_ti hO.1 hO.2.1 hX.2.2.2.2.2.2.2.2.2 hS hin rfl hd (k ls H locs hl hP hS)
theorem G_compact (hO : OKM Γ X RJ0 cc nL ret) (hX : EXF (gad Γ) (gA Γ) (xs X)) (hd : decode cc pc = .ok (.getstatic 38, 3)) (k : GG Γ X d nL Q (pc + 3) lv (.int 1 :: st) w) : GG Γ X d nL Q pc lv st w := fun ls H locs hl hP hS => va_gets hO.1 hO.2.1 hX.2.2.2.2.2.2.1 hS hO.2.2.2.1 (hO.2.2.2.2.1 _ (show Cond.fieldLink RJ0 38 "java/lang/String" "COMPACT_STRINGS" "Z" ∈ AW from AW_mem 228 (by decide +kernel) (by decide +kernel))) (fun _ h => h) hd (k ls H locs hl hP hS)
theorem G_sioobe (hO : OKM Γ X RJ0 cc nL ret) (hX : EXF (gad Γ) (gA Γ) (xs X)) (hd : decode cc pc = .ok (.getstatic 1053, 3)) (k : ∀ v : Value, v.category = 1 → GG Γ X d nL Q (pc + 3) lv (v :: st) w) : GG Γ X d nL Q pc lv st w := fun ls H locs hl hP hS => by
  rcases hX.2.2.2.2.2.2.2.1 with h | ⟨t, h⟩
  · exact va_gets hO.1 hO.2.1 h hS hO.2.2.2.1 (hO.2.2.2.2.1 _ (show Cond.fieldLink RJ0 1053 "jdk/internal/util/Preconditions" "SIOOBE_FORMATTER" "Ljava/util/function/BiFunction;" ∈ AW from AW_mem 244 (by decide +kernel) (by decide +kernel))) (fun _ h => h) hd (k _ rfl ls H locs hl hP hS)
  · exact va_gets hO.1 hO.2.1 h hS hO.2.2.2.1 (hO.2.2.2.2.1 _ (show Cond.fieldLink RJ0 1053 "jdk/internal/util/Preconditions" "SIOOBE_FORMATTER" "Ljava/util/function/BiFunction;" ∈ AW from AW_mem 244 (by decide +kernel) (by decide +kernel))) (fun _ h => h) hd (k _ rfl ls H locs hl hP hS)
theorem G_strVal (hO : OKM Γ X RJ0 cc nL ret) (hX : EXF (gad Γ) (gA Γ) (xs X)) {kx : Nat} (hd : decode cc pc = .ok (.getfield 9, 3)) (hk : kx < 3) (k : GG Γ X d nL Q (pc + 3) lv (.ref (gad Γ (110 + kx)) :: st) w) : GG Γ X d nL Q pc lv (.ref (gad Γ (100 + kx)) :: st) w := fun ls H locs hl hP hS => vk_getf hO.1 hO.2.1 (hX.2.2.2.2.2.1.1 kx hk).2.2.1 hS hO.2.2.2.1 (hO.2.2.2.2.1 _ (show Cond.fieldLink RJ0 9 "java/lang/String" "value" "[B" ∈ AW from AW_mem 1187 (by decide +kernel) (by decide +kernel))) (fun _ h => h) hd (k ls H locs hl hP hS)
theorem G_strCod (hO : OKM Γ X RJ0 cc nL ret) (hX : EXF (gad Γ) (gA Γ) (xs X)) {kx : Nat} (hd : decode cc pc = .ok (.getfield 15, 3)) (hk : kx < 3) (k : GG Γ X d nL Q (pc + 3) lv (.int 0 :: st) w) : GG Γ X d nL Q pc lv (.ref (gad Γ (100 + kx)) :: st) w := fun ls H locs hl hP hS => vk_getf hO.1 hO.2.1 (hX.2.2.2.2.2.1.1 kx hk).2.1 hS hO.2.2.2.1 (hO.2.2.2.2.1 _ (show Cond.fieldLink RJ0 15 "java/lang/String" "coder" "B" ∈ AW from AW_mem 1188 (by decide +kernel) (by decide +kernel))) (fun _ h => h) hd (k ls H locs hl hP hS)
theorem G_strLd (hO : OKM Γ X own cc nL ret) (hX : EXF (gad Γ) (gA Γ) (xs X)) {kx : Nat} {j : Int32} (hd : decode cc pc = .ok (.baload, 1)) (hk : kx < 3) (hin : vp_in j (strN kx)) (k : GG Γ X d nL Q (pc + 1) lv (.int (strB kx j.toNatClampNeg) :: st) w) : GG Γ X d nL Q pc lv (.int j :: .ref (gad Γ (110 + kx)) :: st) w := fun ls H locs hl hP hS => va_tb hO.1 hO.2.1 (hX.2.2.2.2.2.1.1 kx hk).2.2.2 hS hin rfl hd (k ls H locs hl hP hS)
theorem G_strLen (hO : OKM Γ X own cc nL ret) (hX : EXF (gad Γ) (gA Γ) (xs X)) {kx : Nat} (hd : decode cc pc = .ok (.arraylength, 1)) (hk : kx < 3) (k : GG Γ X d nL Q (pc + 1) lv (.int (nI (strN kx)) :: st) w) : GG Γ X d nL Q pc lv (.ref (gad Γ (110 + kx)) :: st) w := fun ls H locs hl hP hS => by
  obtain ⟨cell, h1, h2, h3, h4, h5, h6, h7⟩ := (hX.2.2.2.2.2.1.1 kx hk).2.2.2
  exact W.alen (n := nI (strN kx)) hO.1 hO.2.1 (by rw [hS.2.1 _ (Array.getElem?_eq_some_iff.mp h1).1 h7]; exact h1) h2 h5 (g := F0 (xm X) pc ls (.ref (gad Γ (110 + kx)) :: st)) rfl rfl hd (k ls H locs hl hP hS)
theorem G_callT (hO : OKM Γ X own cc nL ret) (hX : EXF (gad Γ) (gA Γ) (xs X)) {kx : Nat} {M : Mth} {idx n : Nat} {As : List Value} {K : Int32 → Wd → Prop} (hd : decode cc pc = .ok (.invokevirtual idx, 3)) (hk : kx < 3) (h : CI Γ d M (.ref (gad Γ (100 + kx)) :: As) w K) (hw : CallV own "java/lang/String" idx M n) (hn : As.length = n) (hr : (rest.map fun v => v.category).sum ≤ 8) (k : ∀ v w', K v w' → GG Γ X (d + 1) nL Q (pc + 3) lv (.int v :: rest) w') (hst : st = As.reverse ++ .ref (gad Γ (100 + kx)) :: rest) : GG Γ X (d + 1) nL Q pc lv st w := fun ls H locs hl hP hS => by
  obtain ⟨h1, h2, h3, h4⟩ := hw
  exact run_go hO (va_runV (As := As) (rest := rest) ⟨hO.1, hO.2.1, hO.2.2.1, hO.2.2.2.1, hO.2.2.2.2.1⟩ h ⟨callD_B hO h4 h1, hO.2.2.2.2.1 _ h2, hO.2.2.2.2.1 _ h3⟩ ⟨Inv_blind hO.2.2.2.2.2.2.2.2.1, vk_recv (i := kx) hX.2.2.2.2.2.1 hk hS, fun U hU hW => ⟨rfl, Inv_here hO hP hS hU hW⟩⟩ rfl hn hl.1 hst (lv_room hr) hd ⟨Nat.le_refl _, Nat.le_refl _⟩) hl hS (fun r w' ⟨v, e, hk⟩ => by subst e; exact k v w' hk)
end XROWS
theorem cp_link : Cond.methodLink RX4 251 arraycopyName ∈ AW := AW_mem 725 (by decide +kernel) (by decide +kernel)
theorem cp_nat : Cond.native arraycopyName ∈ AW := AW_mem 727 (by decide +kernel) (by decide +kernel)
theorem cp_sta : Cond.static arraycopyName ∈ AW := AW_mem 726 (by decide +kernel) (by decide +kernel)
theorem cp_ini : Cond.initialized "java/lang/System" ∈ AW := AW_mem 83 (by decide +kernel) (by decide +kernel)
end
section
/-! what each method does, by program out of its bytecode (wp_..), and that the machine does it (con_..) -/
theorem swne {x k : Int32} {a : Int} (h : ¬ x = k) (hk : k.toInt = a) : ¬ x.toInt = a := lv_neT h hk
theorem sweq {x k : Int32} {a : Int} (h : x = k) (hk : k.toInt = a) : x.toInt = a := by rw [h]; exact hk
section SW
variable {Γ : Gx} {X : Mx} {own : String} {cc : ByteArray} {nL d pc : Nat} {ret : Option FieldType} {Q : Option Value → Wd → Prop} {lv : List (Option Value)} {st : List Value} {w : Wd}
theorem G_tabIn (hO : OKM Γ X own cc nL ret) {dflt lo hi off : Int} {offs : Array Int} {len tgt : Nat} {x : Int32} (j : Nat) (hd : decode cc pc = .ok (.tableswitch dflt lo hi offs, len)) (hj : lo + j ≤ hi) (ho : offs[j]? = some off) (hx : x.toInt = lo + j) (ht : (pc : Int) + off = (tgt : Int)) (k : GG Γ X d nL Q tgt lv st w) : GG Γ X d nL Q pc lv (.int x :: st) w := fun ls H locs hl hP hS => by
  refine lv_tableIn hO.1 hO.2.1 hd (by omega) (by omega) (off := off) ?_ ht (k ls H locs hl hP hS)
  have e : (x.toInt - lo).toNat = j := by omega
  rw [e]
  exact ho
/-- outside the table, or at a place of it that goes where the default goes -/
def tabOff (pc tgt : Nat) (offs : Array Int) (j : Nat) (x lo : Int) : Prop := match offs[j]? with
  | some off => if (pc : Int) + off = (tgt : Int) then True else ¬ x = lo + j
  | none => True
theorem G_tabOut (hO : OKM Γ X own cc nL ret) {dflt lo hi : Int} {offs : Array Int} {len tgt : Nat} {x : Int32} (hd : decode cc pc = .ok (.tableswitch dflt lo hi offs, len)) (hsz : hi - lo + 1 = (offs.size : Int)) (ht : (pc : Int) + dflt = (tgt : Int)) (hx : ∀ j : Nat, j < offs.size → tabOff pc tgt offs j x.toInt lo) (k : GG Γ X d nL Q tgt lv st w) : GG Γ X d nL Q pc lv (.int x :: st) w := fun ls H locs hl hP hS => by
  by_cases h : x.toInt < lo ∨ hi < x.toInt
  · exact lv_tableOut hO.1 hO.2.1 hd h ht (k ls H locs hl hP hS)
  · have h1 : ¬ x.toInt < lo := fun q => h (Or.inl q)
    have h2 : ¬ hi < x.toInt := fun q => h (Or.inr q)
    have hj : (x.toInt - lo).toNat < offs.size := by omega
    have h3 := hx _ hj
    have ho := Array.getElem?_eq_getElem hj
    unfold tabOff at h3
    rw [ho] at h3
    simp only at h3
    by_cases he : (pc : Int) + offs[(x.toInt - lo).toNat] = (tgt : Int)
    · exact lv_tableIn hO.1 hO.2.1 hd h1 h2 ho he (k ls H locs hl hP hS)
    · rw [if_neg he] at h3
      exact absurd (by omega) h3
theorem G_lookIn (hO : OKM Γ X own cc nL ret) {dflt : Int} {ps : Array (Int × Int)} {len tgt : Nat} {x : Int32} (q : Int × Int) (hd : decode cc pc = .ok (.lookupswitch dflt ps, len)) (hp : (ps.toList.zip (ps.toList.drop 1)).all (fun (a, next) => a.1 < next.1) = true) (hx : x.toInt = q.1) (ho : Op.lookupswitch.offset ps.toList dflt q.1 = q.2) (ht : (pc : Int) + q.2 = (tgt : Int)) (k : GG Γ X d nL Q tgt lv st w) : GG Γ X d nL Q pc lv (.int x :: st) w := fun ls H locs hl hP hS =>
  lv_lookup hO.1 hO.2.1 hd hp (by rw [hx]; exact ho) ht (k ls H locs hl hP hS)
theorem G_lookOut (hO : OKM Γ X own cc nL ret) {dflt : Int} {ps : Array (Int × Int)} {len tgt : Nat} {x : Int32} (hd : decode cc pc = .ok (.lookupswitch dflt ps, len)) (hp : (ps.toList.zip (ps.toList.drop 1)).all (fun (a, next) => a.1 < next.1) = true) (ht : (pc : Int) + dflt = (tgt : Int)) (hx : ∀ q ∈ ps.toList, ¬ x.toInt = q.1) (k : GG Γ X d nL Q tgt lv st w) : GG Γ X d nL Q pc lv (.int x :: st) w := fun ls H locs hl hP hS => by
  rcases offset_in (x := x.toInt) (dflt := dflt) ps.toList with ⟨q, h1, h2, h3⟩ | ⟨h1, h2⟩
  · exact absurd h2 (hx q h1)
  · exact lv_lookup hO.1 hO.2.1 hd hp h2 ht (k ls H locs hl hP hS)
end SW
def wp_X3_empty (Γ : Gx) (d : Nat) (t : Nat) (w : Wd) (Q : Wd → Prop) : Prop :=
  Q (wset w t 2 (0 : Int32))
set_option maxRecDepth 20000 in
theorem con_X3_empty {Γ : Gx} {d : Nat} (hG : GC Γ) {t : Nat} (hT : ShT Γ t) {w : Wd} {Q : Wd → Prop} (h : wp_X3_empty Γ d t w Q) : CV Γ (d + 1) M_X3_empty [.ref (gad Γ t)] w Q := by
  have hC := hG.2.1
  refine Con.of RX3 cX3_empty 1 none [some (.ref (gad Γ t))] rfl rfl (by decide +kernel) hG.1 (catR cat0) (Nat.le_of_ble_eq_true rfl) rfl ?_
  intro X hO
  refine G_aload_n hO dX3_empty_0 rfl rfl ?_
  refine G_iconst (v := 0) hO dX3_empty_1 rfl ?_
  refine pi_X3_18 hO dX3_empty_2 hT.1 rfl ?_
  exact G_vret hO dX3_empty_5 rfl (QV.i h)
def wp_X3_beginPart (Γ : Gx) (d : Nat) (t : Nat) (p1 : Int32) (w : Wd) (Q : Wd → Prop) : Prop :=
  (vp_in p1 4 ∧ Q (wset w (t + 2) (p1).toNatClampNeg (w t 2)))
set_option maxRecDepth 20000 in
theorem con_X3_beginPart {Γ : Gx} {d : Nat} (hG : GC Γ) {t : Nat} {p1 : Int32} (hT : ShT Γ t) {w : Wd} {Q : Wd → Prop} (h : wp_X3_beginPart Γ d t p1 w Q) : CV Γ (d + 1) M_X3_beginPart [.ref (gad Γ t), .int p1] w Q := by
  have hC := hG.2.1
  refine Con.of RX3 cX3_beginPart 2 none [some (.ref (gad Γ t)), some (.int p1)] rfl rfl (by decide +kernel) hG.1 (catR (catI cat0)) (Nat.le_of_ble_eq_true rfl) rfl ?_
  intro X hO
  refine G_aload_n hO dX3_beginPart_0 rfl rfl ?_
  refine gr_X3_15 (c := (t + 2)) hO dX3_beginPart_1 hT.1 rfl ?_
  refine G_iload_n hO dX3_beginPart_4 rfl rfl ?_
  refine G_aload_n hO dX3_beginPart_5 rfl rfl ?_
  refine gi_X3_18 hO dX3_beginPart_6 hT.1 rfl ?_
  obtain ⟨c1, h⟩ := h
  refine G_iastore hO dX3_beginPart_9 hT.2.2 c1 ?_
  exact G_vret hO dX3_beginPart_10 rfl (QV.i h)
def wp_X3_takeStep (Γ : Gx) (d : Nat) (t : Nat) (p1 : Int32) (w : Wd) (Q : Wd → Prop) : Prop :=
  (((160 : Int32) ≤ (w t 2) → Q w) ∧ (¬ (160 : Int32) ≤ (w t 2) → (vp_in (w t 2) 160 ∧ Q (wset (wset w (t + 1) ((w t 2)).toNatClampNeg p1) t 2 (((wset w (t + 1) ((w t 2)).toNatClampNeg p1) t 2) + (1 : Int32))))))
set_option maxRecDepth 20000 in
theorem con_X3_takeStep {Γ : Gx} {d : Nat} (hG : GC Γ) {t : Nat} {p1 : Int32} (hT : ShT Γ t) {w : Wd} {Q : Wd → Prop} (h : wp_X3_takeStep Γ d t p1 w Q) : CV Γ (d + 1) M_X3_takeStep [.ref (gad Γ t), .int p1] w Q := by
  have hC := hG.2.1
  refine Con.of RX3 cX3_takeStep 2 none [some (.ref (gad Γ t)), some (.int p1)] rfl rfl (by decide +kernel) hG.1 (catR (catI cat0)) (Nat.le_of_ble_eq_true rfl) rfl ?_
  intro X hO
  refine G_aload_n hO dX3_takeStep_0 rfl rfl ?_
  refine gi_X3_18 hO dX3_takeStep_1 hT.1 rfl ?_
  refine G_aload_n hO dX3_takeStep_4 rfl rfl ?_
  refine gr_X3_9 (c := (t + 1)) hO dX3_takeStep_5 hT.1 rfl ?_
  refine G_alen (v := 160) hO dX3_takeStep_8 hT.2.1 rfl rfl ?_
  refine G_icmp_ge (tgt := 32) hO dX3_takeStep_9 (by decide) (fun c1 => ?_) (fun c1 => ?_)
  · have h := h.1 c1
    exact G_vret hO dX3_takeStep_32 rfl (QV.i h)
  · have h := h.2 c1
    refine G_aload_n hO dX3_takeStep_12 rfl rfl ?_
    refine gr_X3_9 (c := (t + 1)) hO dX3_takeStep_13 hT.1 rfl ?_
    refine G_aload_n hO dX3_takeStep_16 rfl rfl ?_
    refine gi_X3_18 hO dX3_takeStep_17 hT.1 rfl ?_
    refine G_iload_n hO dX3_takeStep_20 rfl rfl ?_
    obtain ⟨c2, h⟩ := h
    refine G_iastore hO dX3_takeStep_21 hT.2.1 c2 ?_
    refine G_aload_n hO dX3_takeStep_22 rfl rfl ?_
    refine G_dup hO dX3_takeStep_23 rfl ?_
    refine gi_X3_18 hO dX3_takeStep_24 hT.1 rfl ?_
    refine G_iconst (v := 1) hO dX3_takeStep_27 rfl ?_
    refine G_iadd hO dX3_takeStep_28 ?_
    refine pi_X3_18 hO dX3_takeStep_29 hT.1 rfl ?_
    refine GG.atpc (pc2 := 32) rfl ?_
    exact G_vret hO dX3_takeStep_32 rfl (QV.i h)
def wp_X3_valueOf (Γ : Gx) (d : Nat) (t : Nat) (p1 : Int32) (a2 : Nat) (a3 : Nat) (w : Wd) (Q : Int32 → Wd → Prop) : Prop :=
  ∀ (P_15 : Int32 → Int32 → Wd → Prop),
  ∀ (P_77 : Int32 → Int32 → Int32 → Wd → Prop),
  ∀ (P_130 : Int32 → Int32 → Int32 → Wd → Prop),
  (∀ (l4 : Int32) (l5 : Int32) (w : Wd), (vp_in (p1 + (1 : Int32)) 4 ∧ (((w (t + 2) ((p1 + (1 : Int32))).toNatClampNeg) ≤ l5 → Q (w a3 0) w) ∧ (¬ (w (t + 2) ((p1 + (1 : Int32))).toNatClampNeg) ≤ l5 → (vp_in l5 160 ∧ (((w (t + 1) (l5).toNatClampNeg) ≤ (-7 : Int32) → P_77 l4 l5 (w (t + 1) (l5).toNatClampNeg) w) ∧ (¬ (w (t + 1) (l5).toNatClampNeg) ≤ (-7 : Int32) → (((160 : Int32) ≤ l4 → P_77 l4 l5 (w (t + 1) (l5).toNatClampNeg) w) ∧ (¬ (160 : Int32) ≤ l4 → (((w (t + 1) (l5).toNatClampNeg) < 0 → (vp_in ((-1 : Int32) - (w (t + 1) (l5).toNatClampNeg)) 6 ∧ (vp_in l4 160 ∧ P_15 (l4 + 1) (l5 + 1) (wset w a3 (l4).toNatClampNeg (w a2 (((-1 : Int32) - (w (t + 1) (l5).toNatClampNeg))).toNatClampNeg))))) ∧ (¬ (w (t + 1) (l5).toNatClampNeg) < 0 → (vp_in l4 160 ∧ P_15 (l4 + 1) (l5 + 1) (wset w a3 (l4).toNatClampNeg (w (t + 1) (l5).toNatClampNeg))))))))))))) → P_15 l4 l5 w) →
  (∀ (l4 : Int32) (l5 : Int32) (l6 : Int32) (w : Wd), ((l6 < (-8 : Int32) → P_130 l4 l5 l6 w) ∧ (¬ l6 < (-8 : Int32) → ((l4 < (1 : Int32) → P_130 l4 l5 l6 w) ∧ (¬ l4 < (1 : Int32) → (vp_in (l4 - (1 : Int32)) 160 ∧ ((¬ l6 = (-8 : Int32) → ((¬ (w a3 ((l4 - (1 : Int32))).toNatClampNeg) = 0 → (vp_in (l4 - (1 : Int32)) 160 ∧ P_15 l4 (l5 + 1) (wset w a3 ((l4 - (1 : Int32))).toNatClampNeg (0 : Int32)))) ∧ ((w a3 ((l4 - (1 : Int32))).toNatClampNeg) = 0 → (vp_in (l4 - (1 : Int32)) 160 ∧ P_15 l4 (l5 + 1) (wset w a3 ((l4 - (1 : Int32))).toNatClampNeg (1 : Int32)))))) ∧ (l6 = (-8 : Int32) → (vp_in (l4 - (1 : Int32)) 160 ∧ P_15 l4 (l5 + 1) (wset w a3 ((l4 - (1 : Int32))).toNatClampNeg (-(w a3 ((l4 - (1 : Int32))).toNatClampNeg))))))))))) → P_77 l4 l5 l6 w) →
  (∀ (l4 : Int32) (l5 : Int32) (l6 : Int32) (w : Wd), ((l4 < (2 : Int32) → P_15 l4 (l5 + 1) w) ∧ (¬ l4 < (2 : Int32) → (vp_in ((l4 + (-1)) - (1 : Int32)) 160 ∧ (vp_in (l4 + (-1)) 160 ∧ (((l6 = (-9 : Int32)) → ((¬ (w a3 (((l4 + (-1)) - (1 : Int32))).toNatClampNeg) = 0 → (vp_in ((l4 + (-1)) - (1 : Int32)) 160 ∧ P_15 (l4 + (-1)) (l5 + 1) (wset w a3 (((l4 + (-1)) - (1 : Int32))).toNatClampNeg (1 : Int32)))) ∧ ((w a3 (((l4 + (-1)) - (1 : Int32))).toNatClampNeg) = 0 → (((w a3 ((l4 + (-1))).toNatClampNeg) = 0 → (vp_in ((l4 + (-1)) - (1 : Int32)) 160 ∧ P_15 (l4 + (-1)) (l5 + 1) (wset w a3 (((l4 + (-1)) - (1 : Int32))).toNatClampNeg (0 : Int32)))) ∧ (¬ (w a3 ((l4 + (-1))).toNatClampNeg) = 0 → (vp_in ((l4 + (-1)) - (1 : Int32)) 160 ∧ P_15 (l4 + (-1)) (l5 + 1) (wset w a3 (((l4 + (-1)) - (1 : Int32))).toNatClampNeg (1 : Int32)))))))) ∧ ((l6 = (-10 : Int32)) → (((w a3 (((l4 + (-1)) - (1 : Int32))).toNatClampNeg) = 0 → (vp_in ((l4 + (-1)) - (1 : Int32)) 160 ∧ P_15 (l4 + (-1)) (l5 + 1) (wset w a3 (((l4 + (-1)) - (1 : Int32))).toNatClampNeg (0 : Int32)))) ∧ (¬ (w a3 (((l4 + (-1)) - (1 : Int32))).toNatClampNeg) = 0 → (((w a3 ((l4 + (-1))).toNatClampNeg) = 0 → (vp_in ((l4 + (-1)) - (1 : Int32)) 160 ∧ P_15 (l4 + (-1)) (l5 + 1) (wset w a3 (((l4 + (-1)) - (1 : Int32))).toNatClampNeg (0 : Int32)))) ∧ (¬ (w a3 ((l4 + (-1))).toNatClampNeg) = 0 → (vp_in ((l4 + (-1)) - (1 : Int32)) 160 ∧ P_15 (l4 + (-1)) (l5 + 1) (wset w a3 (((l4 + (-1)) - (1 : Int32))).toNatClampNeg (1 : Int32)))))))) ∧ ((l6 = (-11 : Int32)) → (((w a3 ((l4 + (-1))).toNatClampNeg) ≤ (w a3 (((l4 + (-1)) - (1 : Int32))).toNatClampNeg) → (vp_in ((l4 + (-1)) - (1 : Int32)) 160 ∧ P_15 (l4 + (-1)) (l5 + 1) (wset w a3 (((l4 + (-1)) - (1 : Int32))).toNatClampNeg (0 : Int32)))) ∧ (¬ (w a3 ((l4 + (-1))).toNatClampNeg) ≤ (w a3 (((l4 + (-1)) - (1 : Int32))).toNatClampNeg) → (vp_in ((l4 + (-1)) - (1 : Int32)) 160 ∧ P_15 (l4 + (-1)) (l5 + 1) (wset w a3 (((l4 + (-1)) - (1 : Int32))).toNatClampNeg (1 : Int32)))))) ∧ ((l6 = (-12 : Int32)) → ((¬ (w a3 (((l4 + (-1)) - (1 : Int32))).toNatClampNeg) = (w a3 ((l4 + (-1))).toNatClampNeg) → (vp_in ((l4 + (-1)) - (1 : Int32)) 160 ∧ P_15 (l4 + (-1)) (l5 + 1) (wset w a3 (((l4 + (-1)) - (1 : Int32))).toNatClampNeg (0 : Int32)))) ∧ ((w a3 (((l4 + (-1)) - (1 : Int32))).toNatClampNeg) = (w a3 ((l4 + (-1))).toNatClampNeg) → (vp_in ((l4 + (-1)) - (1 : Int32)) 160 ∧ P_15 (l4 + (-1)) (l5 + 1) (wset w a3 (((l4 + (-1)) - (1 : Int32))).toNatClampNeg (1 : Int32)))))) ∧ ((l6 = (-13 : Int32)) → (vp_in ((l4 + (-1)) - (1 : Int32)) 160 ∧ P_15 (l4 + (-1)) (l5 + 1) (wset w a3 (((l4 + (-1)) - (1 : Int32))).toNatClampNeg ((w a3 (((l4 + (-1)) - (1 : Int32))).toNatClampNeg) + (w a3 ((l4 + (-1))).toNatClampNeg))))) ∧ ((l6 = (-14 : Int32)) → (vp_in ((l4 + (-1)) - (1 : Int32)) 160 ∧ P_15 (l4 + (-1)) (l5 + 1) (wset w a3 (((l4 + (-1)) - (1 : Int32))).toNatClampNeg ((w a3 (((l4 + (-1)) - (1 : Int32))).toNatClampNeg) - (w a3 ((l4 + (-1))).toNatClampNeg))))) ∧ ((¬ l6 = (-14 : Int32) ∧ ¬ l6 = (-13 : Int32) ∧ ¬ l6 = (-12 : Int32) ∧ ¬ l6 = (-11 : Int32) ∧ ¬ l6 = (-10 : Int32) ∧ ¬ l6 = (-9 : Int32)) → (vp_in ((l4 + (-1)) - (1 : Int32)) 160 ∧ P_15 (l4 + (-1)) (l5 + 1) (wset w a3 (((l4 + (-1)) - (1 : Int32))).toNatClampNeg ((w a3 (((l4 + (-1)) - (1 : Int32))).toNatClampNeg) * (w a3 ((l4 + (-1))).toNatClampNeg)))))))))) → P_130 l4 l5 l6 w) →
  (vp_in p1 4 ∧ P_15 (0 : Int32) ((wset w a3 0 (0 : Int32)) (t + 2) (p1).toNatClampNeg) (wset w a3 0 (0 : Int32)))
set_option maxRecDepth 20000 in
theorem con_X3_valueOf {Γ : Gx} {d : Nat} (hG : GC Γ) {t : Nat} {p1 : Int32} {a2 : Nat} {a3 : Nat} (hT : ShT Γ t) (ha2 : (gS Γ)[a2]? = some (.inl (0, 6, []))) (ha3 : (gS Γ)[a3]? = some (.inl (0, 160, []))) {w : Wd} {Q : Int32 → Wd → Prop} (h : wp_X3_valueOf Γ d t p1 a2 a3 w Q) : CI Γ (d + 1) M_X3_valueOf [.ref (gad Γ t), .int p1, .ref (gad Γ a2), .ref (gad Γ a3)] w Q := by
  have hC := hG.2.1
  refine Con.of RX3 cX3_valueOf 9 (some .int) [some (.ref (gad Γ t)), some (.int p1), some (.ref (gad Γ a2)), some (.ref (gad Γ a3)), none, none, none, none, none] rfl rfl (by decide +kernel) hG.1 (catR (catI (catR (catR cat0)))) (Nat.le_of_ble_eq_true rfl) rfl ?_
  intro X hO
  have h := h
    (fun (l4 : Int32) (l5 : Int32) (w : Wd) => GG Γ X (d + 1) 9 (QI Q) 15 [some (.ref (gad Γ t)), some (.int p1), some (.ref (gad Γ a2)), some (.ref (gad Γ a3)), some (.int l4), some (.int l5), none, none, none] [] w)
    (fun (l4 : Int32) (l5 : Int32) (l6 : Int32) (w : Wd) => GG Γ X (d + 1) 9 (QI Q) 77 [some (.ref (gad Γ t)), some (.int p1), some (.ref (gad Γ a2)), some (.ref (gad Γ a3)), some (.int l4), some (.int l5), some (.int l6), none, none] [] w)
    (fun (l4 : Int32) (l5 : Int32) (l6 : Int32) (w : Wd) => GG Γ X (d + 1) 9 (QI Q) 130 [some (.ref (gad Γ t)), some (.int p1), some (.ref (gad Γ a2)), some (.ref (gad Γ a3)), some (.int l4), some (.int l5), some (.int l6), none, none] [] w)
    (by
        intro l4 l5 w h
        refine G_iload hO dX3_valueOf_15 rfl ?_
        refine G_aload_n hO dX3_valueOf_17 rfl rfl ?_
        refine gr_X3_15 (c := (t + 2)) hO dX3_valueOf_18 hT.1 rfl ?_
        refine G_iload_n hO dX3_valueOf_21 rfl rfl ?_
        refine G_iconst (v := 1) hO dX3_valueOf_22 rfl ?_
        refine G_iadd hO dX3_valueOf_23 ?_
        obtain ⟨c2, h⟩ := h
        refine G_iaload hO dX3_valueOf_24 hT.2.2 c2 ?_
        refine G_icmp_ge (tgt := 327) hO dX3_valueOf_25 (by decide) (fun c3 => ?_) (fun c3 => ?_)
        · have h := h.1 c3
          refine G_aload_n hO dX3_valueOf_327 rfl rfl ?_
          refine G_iconst (v := 0) hO dX3_valueOf_328 rfl ?_
          refine G_iaload hO dX3_valueOf_329 ha3 (by unfold vp_in; decide) ?_
          exact G_iret hO dX3_valueOf_330 rfl rfl (QI.i h)
        · have h := h.2 c3
          refine G_aload_n hO dX3_valueOf_28 rfl rfl ?_
          refine gr_X3_9 (c := (t + 1)) hO dX3_valueOf_29 hT.1 rfl ?_
          refine G_iload hO dX3_valueOf_32 rfl ?_
          obtain ⟨c4, h⟩ := h
          refine G_iaload hO dX3_valueOf_34 hT.2.1 c4 ?_
          refine G_istore (lv2 := [some (.ref (gad Γ t)), some (.int p1), some (.ref (gad Γ a2)), some (.ref (gad Γ a3)), some (.int l4), some (.int l5), some (.int (w (t + 1) (l5).toNatClampNeg)), none, none]) hO dX3_valueOf_35 (by decide) rfl rfl ?_
          refine G_iload hO dX3_valueOf_37 rfl ?_
          refine G_bipush (v := -7) hO dX3_valueOf_39 rfl ?_
          refine G_icmp_le (tgt := 77) hO dX3_valueOf_41 (by decide) (fun c5 => ?_) (fun c5 => ?_)
          · have h := h.1 c5
            exact GG.sub (lv2 := [some (.ref (gad Γ t)), some (.int p1), some (.ref (gad Γ a2)), some (.ref (gad Γ a3)), some (.int l4), some (.int l5), some (.int (w (t + 1) (l5).toNatClampNeg)), none, none]) ⟨rfl, ⟨rfl, ⟨rfl, ⟨rfl, ⟨rfl, ⟨rfl, ⟨rfl, trivial⟩⟩⟩⟩⟩⟩⟩ h
          · have h := h.2 c5
            refine G_iload hO dX3_valueOf_44 rfl ?_
            refine G_aload_n hO dX3_valueOf_46 rfl rfl ?_
            refine G_alen (v := 160) hO dX3_valueOf_47 ha3 rfl rfl ?_
            refine G_icmp_ge (tgt := 77) hO dX3_valueOf_48 (by decide) (fun c6 => ?_) (fun c6 => ?_)
            · have h := h.1 c6
              exact GG.sub (lv2 := [some (.ref (gad Γ t)), some (.int p1), some (.ref (gad Γ a2)), some (.ref (gad Γ a3)), some (.int l4), some (.int l5), some (.int (w (t + 1) (l5).toNatClampNeg)), none, none]) ⟨rfl, ⟨rfl, ⟨rfl, ⟨rfl, ⟨rfl, ⟨rfl, ⟨rfl, trivial⟩⟩⟩⟩⟩⟩⟩ h
            · have h := h.2 c6
              refine G_aload_n hO dX3_valueOf_51 rfl rfl ?_
              refine G_iload hO dX3_valueOf_52 rfl ?_
              refine G_iload hO dX3_valueOf_54 rfl ?_
              refine G_if_lt (tgt := 64) hO dX3_valueOf_56 (by decide) (fun c7 => ?_) (fun c7 => ?_)
              · have h := h.1 c7
                refine G_aload_n hO dX3_valueOf_64 rfl rfl ?_
                refine G_iconst (v := -1) hO dX3_valueOf_65 rfl ?_
                refine G_iload hO dX3_valueOf_66 rfl ?_
                refine G_isub hO dX3_valueOf_68 ?_
                obtain ⟨c8, h⟩ := h
                refine G_iaload hO dX3_valueOf_69 ha2 c8 ?_
                obtain ⟨c9, h⟩ := h
                refine G_iastore hO dX3_valueOf_70 ha3 c9 ?_
                refine G_iinc (v := (l4 + 1)) (lv2 := [some (.ref (gad Γ t)), some (.int p1), some (.ref (gad Γ a2)), some (.ref (gad Γ a3)), some (.int (l4 + 1)), some (.int l5), some (.int (w (t + 1) (l5).toNatClampNeg)), none, none]) hO dX3_valueOf_71 rfl rfl (by decide) rfl rfl ?_
                refine G_goto (tgt := 321) hO dX3_valueOf_74 (by decide) ?_
                refine G_iinc (v := (l5 + 1)) (lv2 := [some (.ref (gad Γ t)), some (.int p1), some (.ref (gad Γ a2)), some (.ref (gad Γ a3)), some (.int (l4 + 1)), some (.int (l5 + 1)), some (.int (w (t + 1) (l5).toNatClampNeg)), none, none]) hO dX3_valueOf_321 rfl rfl (by decide) rfl rfl ?_
                refine G_goto (tgt := 15) hO dX3_valueOf_324 (by decide) ?_
                exact GG.sub (lv2 := [some (.ref (gad Γ t)), some (.int p1), some (.ref (gad Γ a2)), some (.ref (gad Γ a3)), some (.int (l4 + 1)), some (.int (l5 + 1)), none, none, none]) ⟨rfl, ⟨rfl, ⟨rfl, ⟨rfl, ⟨rfl, ⟨rfl, trivial⟩⟩⟩⟩⟩⟩ h
              · have h := h.2 c7
                refine G_iload hO dX3_valueOf_59 rfl ?_
                refine G_goto (tgt := 70) hO dX3_valueOf_61 (by decide) ?_
                obtain ⟨c10, h⟩ := h
                refine G_iastore hO dX3_valueOf_70 ha3 c10 ?_
                refine G_iinc (v := (l4 + 1)) (lv2 := [some (.ref (gad Γ t)), some (.int p1), some (.ref (gad Γ a2)), some (.ref (gad Γ a3)), some (.int (l4 + 1)), some (.int l5), some (.int (w (t + 1) (l5).toNatClampNeg)), none, none]) hO dX3_valueOf_71 rfl rfl (by decide) rfl rfl ?_
                refine G_goto (tgt := 321) hO dX3_valueOf_74 (by decide) ?_
                refine G_iinc (v := (l5 + 1)) (lv2 := [some (.ref (gad Γ t)), some (.int p1), some (.ref (gad Γ a2)), some (.ref (gad Γ a3)), some (.int (l4 + 1)), some (.int (l5 + 1)), some (.int (w (t + 1) (l5).toNatClampNeg)), none, none]) hO dX3_valueOf_321 rfl rfl (by decide) rfl rfl ?_
                refine G_goto (tgt := 15) hO dX3_valueOf_324 (by decide) ?_
                exact GG.sub (lv2 := [some (.ref (gad Γ t)), some (.int p1), some (.ref (gad Γ a2)), some (.ref (gad Γ a3)), some (.int (l4 + 1)), some (.int (l5 + 1)), none, none, none]) ⟨rfl, ⟨rfl, ⟨rfl, ⟨rfl, ⟨rfl, ⟨rfl, trivial⟩⟩⟩⟩⟩⟩ h)
    (by
        intro l4 l5 l6 w h
        refine G_iload hO dX3_valueOf_77 rfl ?_
        refine G_bipush (v := -8) hO dX3_valueOf_79 rfl ?_
        refine G_icmp_lt (tgt := 130) hO dX3_valueOf_81 (by decide) (fun c11 => ?_) (fun c11 => ?_)
        · have h := h.1 c11
          exact GG.sub (lv2 := [some (.ref (gad Γ t)), some (.int p1), some (.ref (gad Γ a2)), some (.ref (gad Γ a3)), some (.int l4), some (.int l5), some (.int l6), none, none]) ⟨rfl, ⟨rfl, ⟨rfl, ⟨rfl, ⟨rfl, ⟨rfl, ⟨rfl, trivial⟩⟩⟩⟩⟩⟩⟩ h
        · have h := h.2 c11
          refine G_iload hO dX3_valueOf_84 rfl ?_
          refine G_iconst (v := 1) hO dX3_valueOf_86 rfl ?_
          refine G_icmp_lt (tgt := 130) hO dX3_valueOf_87 (by decide) (fun c12 => ?_) (fun c12 => ?_)
          · have h := h.1 c12
            exact GG.sub (lv2 := [some (.ref (gad Γ t)), some (.int p1), some (.ref (gad Γ a2)), some (.ref (gad Γ a3)), some (.int l4), some (.int l5), some (.int l6), none, none]) ⟨rfl, ⟨rfl, ⟨rfl, ⟨rfl, ⟨rfl, ⟨rfl, ⟨rfl, trivial⟩⟩⟩⟩⟩⟩⟩ h
          · have h := h.2 c12
            refine G_aload_n hO dX3_valueOf_90 rfl rfl ?_
            refine G_iload hO dX3_valueOf_91 rfl ?_
            refine G_iconst (v := 1) hO dX3_valueOf_93 rfl ?_
            refine G_isub hO dX3_valueOf_94 ?_
            obtain ⟨c13, h⟩ := h
            refine G_iaload hO dX3_valueOf_95 ha3 c13 ?_
            refine G_istore (lv2 := [some (.ref (gad Γ t)), some (.int p1), some (.ref (gad Γ a2)), some (.ref (gad Γ a3)), some (.int l4), some (.int l5), some (.int l6), some (.int (w a3 ((l4 - (1 : Int32))).toNatClampNeg)), none]) hO dX3_valueOf_96 (by decide) rfl rfl ?_
            refine G_aload_n hO dX3_valueOf_98 rfl rfl ?_
            refine G_iload hO dX3_valueOf_99 rfl ?_
            refine G_iconst (v := 1) hO dX3_valueOf_101 rfl ?_
            refine G_isub hO dX3_valueOf_102 ?_
            refine G_iload hO dX3_valueOf_103 rfl ?_
            refine G_bipush (v := -8) hO dX3_valueOf_105 rfl ?_
            refine GG.atpc (pc2 := 107) rfl ?_
            refine G_icmp_ne (tgt := 116) hO dX3_valueOf_107 (by decide) (fun c14 => ?_) (fun c14 => ?_)
            · have h := h.1 c14
              refine G_iload hO dX3_valueOf_116 rfl ?_
              refine G_if_ne (tgt := 125) hO dX3_valueOf_118 (by decide) (fun c15 => ?_) (fun c15 => ?_)
              · have h := h.1 c15
                refine G_iconst (v := 0) hO dX3_valueOf_125 rfl ?_
                obtain ⟨c16, h⟩ := h
                refine G_iastore hO dX3_valueOf_126 ha3 c16 ?_
                refine G_goto (tgt := 321) hO dX3_valueOf_127 (by decide) ?_
                refine G_iinc (v := (l5 + 1)) (lv2 := [some (.ref (gad Γ t)), some (.int p1), some (.ref (gad Γ a2)), some (.ref (gad Γ a3)), some (.int l4), some (.int (l5 + 1)), some (.int l6), some (.int (w a3 ((l4 - (1 : Int32))).toNatClampNeg)), none]) hO dX3_valueOf_321 rfl rfl (by decide) rfl rfl ?_
                refine G_goto (tgt := 15) hO dX3_valueOf_324 (by decide) ?_
                exact GG.sub (lv2 := [some (.ref (gad Γ t)), some (.int p1), some (.ref (gad Γ a2)), some (.ref (gad Γ a3)), some (.int l4), some (.int (l5 + 1)), none, none, none]) ⟨rfl, ⟨rfl, ⟨rfl, ⟨rfl, ⟨rfl, ⟨rfl, trivial⟩⟩⟩⟩⟩⟩ h
              · have h := h.2 c15
                refine G_iconst (v := 1) hO dX3_valueOf_121 rfl ?_
                refine G_goto (tgt := 126) hO dX3_valueOf_122 (by decide) ?_
                obtain ⟨c17, h⟩ := h
                refine G_iastore hO dX3_valueOf_126 ha3 c17 ?_
                refine G_goto (tgt := 321) hO dX3_valueOf_127 (by decide) ?_
                refine G_iinc (v := (l5 + 1)) (lv2 := [some (.ref (gad Γ t)), some (.int p1), some (.ref (gad Γ a2)), some (.ref (gad Γ a3)), some (.int l4), some (.int (l5 + 1)), some (.int l6), some (.int (w a3 ((l4 - (1 : Int32))).toNatClampNeg)), none]) hO dX3_valueOf_321 rfl rfl (by decide) rfl rfl ?_
                refine G_goto (tgt := 15) hO dX3_valueOf_324 (by decide) ?_
                exact GG.sub (lv2 := [some (.ref (gad Γ t)), some (.int p1), some (.ref (gad Γ a2)), some (.ref (gad Γ a3)), some (.int l4), some (.int (l5 + 1)), none, none, none]) ⟨rfl, ⟨rfl, ⟨rfl, ⟨rfl, ⟨rfl, ⟨rfl, trivial⟩⟩⟩⟩⟩⟩ h
            · have h := h.2 c14
              refine G_iload hO dX3_valueOf_110 rfl ?_
              refine G_ineg hO dX3_valueOf_112 ?_
              refine G_goto (tgt := 126) hO dX3_valueOf_113 (by decide) ?_
              obtain ⟨c18, h⟩ := h
              refine G_iastore hO dX3_valueOf_126 ha3 c18 ?_
              refine G_goto (tgt := 321) hO dX3_valueOf_127 (by decide) ?_
              refine G_iinc (v := (l5 + 1)) (lv2 := [some (.ref (gad Γ t)), some (.int p1), some (.ref (gad Γ a2)), some (.ref (gad Γ a3)), some (.int l4), some (.int (l5 + 1)), some (.int l6), some (.int (w a3 ((l4 - (1 : Int32))).toNatClampNeg)), none]) hO dX3_valueOf_321 rfl rfl (by decide) rfl rfl ?_
              refine G_goto (tgt := 15) hO dX3_valueOf_324 (by decide) ?_
              exact GG.sub (lv2 := [some (.ref (gad Γ t)), some (.int p1), some (.ref (gad Γ a2)), some (.ref (gad Γ a3)), some (.int l4), some (.int (l5 + 1)), none, none, none]) ⟨rfl, ⟨rfl, ⟨rfl, ⟨rfl, ⟨rfl, ⟨rfl, trivial⟩⟩⟩⟩⟩⟩ h)
    (by
        intro l4 l5 l6 w h
        refine G_iload hO dX3_valueOf_130 rfl ?_
        refine G_iconst (v := 2) hO dX3_valueOf_132 rfl ?_
        refine G_icmp_lt (tgt := 321) hO dX3_valueOf_133 (by decide) (fun c19 => ?_) (fun c19 => ?_)
        · have h := h.1 c19
          refine G_iinc (v := (l5 + 1)) (lv2 := [some (.ref (gad Γ t)), some (.int p1), some (.ref (gad Γ a2)), some (.ref (gad Γ a3)), some (.int l4), some (.int (l5 + 1)), some (.int l6), none, none]) hO dX3_valueOf_321 rfl rfl (by decide) rfl rfl ?_
          refine G_goto (tgt := 15) hO dX3_valueOf_324 (by decide) ?_
          exact GG.sub (lv2 := [some (.ref (gad Γ t)), some (.int p1), some (.ref (gad Γ a2)), some (.ref (gad Γ a3)), some (.int l4), some (.int (l5 + 1)), none, none, none]) ⟨rfl, ⟨rfl, ⟨rfl, ⟨rfl, ⟨rfl, ⟨rfl, trivial⟩⟩⟩⟩⟩⟩ h
        · have h := h.2 c19
          refine G_iinc (v := (l4 + (-1))) (lv2 := [some (.ref (gad Γ t)), some (.int p1), some (.ref (gad Γ a2)), some (.ref (gad Γ a3)), some (.int (l4 + (-1))), some (.int l5), some (.int l6), none, none]) hO dX3_valueOf_136 rfl rfl (by decide) rfl rfl ?_
          refine G_aload_n hO dX3_valueOf_139 rfl rfl ?_
          refine G_iload hO dX3_valueOf_140 rfl ?_
          refine G_iconst (v := 1) hO dX3_valueOf_142 rfl ?_
          refine G_isub hO dX3_valueOf_143 ?_
          obtain ⟨c20, h⟩ := h
          refine G_iaload hO dX3_valueOf_144 ha3 c20 ?_
          refine G_istore (lv2 := [some (.ref (gad Γ t)), some (.int p1), some (.ref (gad Γ a2)), some (.ref (gad Γ a3)), some (.int (l4 + (-1))), some (.int l5), some (.int l6), some (.int (w a3 (((l4 + (-1)) - (1 : Int32))).toNatClampNeg)), none]) hO dX3_valueOf_145 (by decide) rfl rfl ?_
          refine G_aload_n hO dX3_valueOf_147 rfl rfl ?_
          refine G_iload hO dX3_valueOf_148 rfl ?_
          obtain ⟨c21, h⟩ := h
          refine G_iaload hO dX3_valueOf_150 ha3 c21 ?_
          refine G_istore (lv2 := [some (.ref (gad Γ t)), some (.int p1), some (.ref (gad Γ a2)), some (.ref (gad Γ a3)), some (.int (l4 + (-1))), some (.int l5), some (.int l6), some (.int (w a3 (((l4 + (-1)) - (1 : Int32))).toNatClampNeg)), some (.int (w a3 ((l4 + (-1))).toNatClampNeg))]) hO dX3_valueOf_151 (by decide) rfl rfl ?_
          refine G_iload hO dX3_valueOf_153 rfl ?_
          refine GG.atpc (pc2 := 155) rfl ?_
          by_cases em14 : l6 = (-14 : Int32)
          · have h := h.2.2.2.2.2.1 em14
            refine G_tabIn (tgt := 296) (j := 0) hO dX3_valueOf_155 (by decide) rfl (sweq em14 (by decide)) (by decide) ?_
            refine G_aload_n hO dX3_valueOf_296 rfl rfl ?_
            refine G_iload hO dX3_valueOf_297 rfl ?_
            refine G_iconst (v := 1) hO dX3_valueOf_299 rfl ?_
            refine G_isub hO dX3_valueOf_300 ?_
            refine G_iload hO dX3_valueOf_301 rfl ?_
            refine G_iload hO dX3_valueOf_303 rfl ?_
            refine G_isub hO dX3_valueOf_305 ?_
            obtain ⟨c39, h⟩ := h
            refine G_iastore hO dX3_valueOf_306 ha3 c39 ?_
            refine G_goto (tgt := 321) hO dX3_valueOf_307 (by decide) ?_
            refine G_iinc (v := (l5 + 1)) (lv2 := [some (.ref (gad Γ t)), some (.int p1), some (.ref (gad Γ a2)), some (.ref (gad Γ a3)), some (.int (l4 + (-1))), some (.int (l5 + 1)), some (.int l6), some (.int (w a3 (((l4 + (-1)) - (1 : Int32))).toNatClampNeg)), some (.int (w a3 ((l4 + (-1))).toNatClampNeg))]) hO dX3_valueOf_321 rfl rfl (by decide) rfl rfl ?_
            refine G_goto (tgt := 15) hO dX3_valueOf_324 (by decide) ?_
            exact GG.sub (lv2 := [some (.ref (gad Γ t)), some (.int p1), some (.ref (gad Γ a2)), some (.ref (gad Γ a3)), some (.int (l4 + (-1))), some (.int (l5 + 1)), none, none, none]) ⟨rfl, ⟨rfl, ⟨rfl, ⟨rfl, ⟨rfl, ⟨rfl, trivial⟩⟩⟩⟩⟩⟩ h
          · by_cases em13 : l6 = (-13 : Int32)
            · have h := h.2.2.2.2.1 em13
              refine G_tabIn (tgt := 282) (j := 1) hO dX3_valueOf_155 (by decide) rfl (sweq em13 (by decide)) (by decide) ?_
              refine G_aload_n hO dX3_valueOf_282 rfl rfl ?_
              refine G_iload hO dX3_valueOf_283 rfl ?_
              refine G_iconst (v := 1) hO dX3_valueOf_285 rfl ?_
              refine G_isub hO dX3_valueOf_286 ?_
              refine G_iload hO dX3_valueOf_287 rfl ?_
              refine G_iload hO dX3_valueOf_289 rfl ?_
              refine G_iadd hO dX3_valueOf_291 ?_
              obtain ⟨c38, h⟩ := h
              refine G_iastore hO dX3_valueOf_292 ha3 c38 ?_
              refine G_goto (tgt := 321) hO dX3_valueOf_293 (by decide) ?_
              refine G_iinc (v := (l5 + 1)) (lv2 := [some (.ref (gad Γ t)), some (.int p1), some (.ref (gad Γ a2)), some (.ref (gad Γ a3)), some (.int (l4 + (-1))), some (.int (l5 + 1)), some (.int l6), some (.int (w a3 (((l4 + (-1)) - (1 : Int32))).toNatClampNeg)), some (.int (w a3 ((l4 + (-1))).toNatClampNeg))]) hO dX3_valueOf_321 rfl rfl (by decide) rfl rfl ?_
              refine G_goto (tgt := 15) hO dX3_valueOf_324 (by decide) ?_
              exact GG.sub (lv2 := [some (.ref (gad Γ t)), some (.int p1), some (.ref (gad Γ a2)), some (.ref (gad Γ a3)), some (.int (l4 + (-1))), some (.int (l5 + 1)), none, none, none]) ⟨rfl, ⟨rfl, ⟨rfl, ⟨rfl, ⟨rfl, ⟨rfl, trivial⟩⟩⟩⟩⟩⟩ h
            · by_cases em12 : l6 = (-12 : Int32)
              · have h := h.2.2.2.1 em12
                refine G_tabIn (tgt := 261) (j := 2) hO dX3_valueOf_155 (by decide) rfl (sweq em12 (by decide)) (by decide) ?_
                refine G_aload_n hO dX3_valueOf_261 rfl rfl ?_
                refine G_iload hO dX3_valueOf_262 rfl ?_
                refine G_iconst (v := 1) hO dX3_valueOf_264 rfl ?_
                refine G_isub hO dX3_valueOf_265 ?_
                refine G_iload hO dX3_valueOf_266 rfl ?_
                refine G_iload hO dX3_valueOf_268 rfl ?_
                refine G_icmp_ne (tgt := 277) hO dX3_valueOf_270 (by decide) (fun c35 => ?_) (fun c35 => ?_)
                · have h := h.1 c35
                  refine G_iconst (v := 0) hO dX3_valueOf_277 rfl ?_
                  obtain ⟨c36, h⟩ := h
                  refine G_iastore hO dX3_valueOf_278 ha3 c36 ?_
                  refine G_goto (tgt := 321) hO dX3_valueOf_279 (by decide) ?_
                  refine G_iinc (v := (l5 + 1)) (lv2 := [some (.ref (gad Γ t)), some (.int p1), some (.ref (gad Γ a2)), some (.ref (gad Γ a3)), some (.int (l4 + (-1))), some (.int (l5 + 1)), some (.int l6), some (.int (w a3 (((l4 + (-1)) - (1 : Int32))).toNatClampNeg)), some (.int (w a3 ((l4 + (-1))).toNatClampNeg))]) hO dX3_valueOf_321 rfl rfl (by decide) rfl rfl ?_
                  refine G_goto (tgt := 15) hO dX3_valueOf_324 (by decide) ?_
                  exact GG.sub (lv2 := [some (.ref (gad Γ t)), some (.int p1), some (.ref (gad Γ a2)), some (.ref (gad Γ a3)), some (.int (l4 + (-1))), some (.int (l5 + 1)), none, none, none]) ⟨rfl, ⟨rfl, ⟨rfl, ⟨rfl, ⟨rfl, ⟨rfl, trivial⟩⟩⟩⟩⟩⟩ h
                · have h := h.2 c35
                  refine G_iconst (v := 1) hO dX3_valueOf_273 rfl ?_
                  refine G_goto (tgt := 278) hO dX3_valueOf_274 (by decide) ?_
                  obtain ⟨c37, h⟩ := h
                  refine G_iastore hO dX3_valueOf_278 ha3 c37 ?_
                  refine G_goto (tgt := 321) hO dX3_valueOf_279 (by decide) ?_
                  refine G_iinc (v := (l5 + 1)) (lv2 := [some (.ref (gad Γ t)), some (.int p1), some (.ref (gad Γ a2)), some (.ref (gad Γ a3)), some (.int (l4 + (-1))), some (.int (l5 + 1)), some (.int l6), some (.int (w a3 (((l4 + (-1)) - (1 : Int32))).toNatClampNeg)), some (.int (w a3 ((l4 + (-1))).toNatClampNeg))]) hO dX3_valueOf_321 rfl rfl (by decide) rfl rfl ?_
                  refine G_goto (tgt := 15) hO dX3_valueOf_324 (by decide) ?_
                  exact GG.sub (lv2 := [some (.ref (gad Γ t)), some (.int p1), some (.ref (gad Γ a2)), some (.ref (gad Γ a3)), some (.int (l4 + (-1))), some (.int (l5 + 1)), none, none, none]) ⟨rfl, ⟨rfl, ⟨rfl, ⟨rfl, ⟨rfl, ⟨rfl, trivial⟩⟩⟩⟩⟩⟩ h
              · by_cases em11 : l6 = (-11 : Int32)
                · have h := h.2.2.1 em11
                  refine G_tabIn (tgt := 240) (j := 3) hO dX3_valueOf_155 (by decide) rfl (sweq em11 (by decide)) (by decide) ?_
                  refine G_aload_n hO dX3_valueOf_240 rfl rfl ?_
                  refine G_iload hO dX3_valueOf_241 rfl ?_
                  refine G_iconst (v := 1) hO dX3_valueOf_243 rfl ?_
                  refine G_isub hO dX3_valueOf_244 ?_
                  refine G_iload hO dX3_valueOf_245 rfl ?_
                  refine G_iload hO dX3_valueOf_247 rfl ?_
                  refine G_icmp_ge (tgt := 256) hO dX3_valueOf_249 (by decide) (fun c32 => ?_) (fun c32 => ?_)
                  · have h := h.1 c32
                    refine G_iconst (v := 0) hO dX3_valueOf_256 rfl ?_
                    obtain ⟨c33, h⟩ := h
                    refine G_iastore hO dX3_valueOf_257 ha3 c33 ?_
                    refine G_goto (tgt := 321) hO dX3_valueOf_258 (by decide) ?_
                    refine G_iinc (v := (l5 + 1)) (lv2 := [some (.ref (gad Γ t)), some (.int p1), some (.ref (gad Γ a2)), some (.ref (gad Γ a3)), some (.int (l4 + (-1))), some (.int (l5 + 1)), some (.int l6), some (.int (w a3 (((l4 + (-1)) - (1 : Int32))).toNatClampNeg)), some (.int (w a3 ((l4 + (-1))).toNatClampNeg))]) hO dX3_valueOf_321 rfl rfl (by decide) rfl rfl ?_
                    refine G_goto (tgt := 15) hO dX3_valueOf_324 (by decide) ?_
                    exact GG.sub (lv2 := [some (.ref (gad Γ t)), some (.int p1), some (.ref (gad Γ a2)), some (.ref (gad Γ a3)), some (.int (l4 + (-1))), some (.int (l5 + 1)), none, none, none]) ⟨rfl, ⟨rfl, ⟨rfl, ⟨rfl, ⟨rfl, ⟨rfl, trivial⟩⟩⟩⟩⟩⟩ h
                  · have h := h.2 c32
                    refine G_iconst (v := 1) hO dX3_valueOf_252 rfl ?_
                    refine G_goto (tgt := 257) hO dX3_valueOf_253 (by decide) ?_
                    obtain ⟨c34, h⟩ := h
                    refine G_iastore hO dX3_valueOf_257 ha3 c34 ?_
                    refine G_goto (tgt := 321) hO dX3_valueOf_258 (by decide) ?_
                    refine G_iinc (v := (l5 + 1)) (lv2 := [some (.ref (gad Γ t)), some (.int p1), some (.ref (gad Γ a2)), some (.ref (gad Γ a3)), some (.int (l4 + (-1))), some (.int (l5 + 1)), some (.int l6), some (.int (w a3 (((l4 + (-1)) - (1 : Int32))).toNatClampNeg)), some (.int (w a3 ((l4 + (-1))).toNatClampNeg))]) hO dX3_valueOf_321 rfl rfl (by decide) rfl rfl ?_
                    refine G_goto (tgt := 15) hO dX3_valueOf_324 (by decide) ?_
                    exact GG.sub (lv2 := [some (.ref (gad Γ t)), some (.int p1), some (.ref (gad Γ a2)), some (.ref (gad Γ a3)), some (.int (l4 + (-1))), some (.int (l5 + 1)), none, none, none]) ⟨rfl, ⟨rfl, ⟨rfl, ⟨rfl, ⟨rfl, ⟨rfl, trivial⟩⟩⟩⟩⟩⟩ h
                · by_cases em10 : l6 = (-10 : Int32)
                  · have h := h.2.1 em10
                    refine G_tabIn (tgt := 216) (j := 4) hO dX3_valueOf_155 (by decide) rfl (sweq em10 (by decide)) (by decide) ?_
                    refine G_aload_n hO dX3_valueOf_216 rfl rfl ?_
                    refine G_iload hO dX3_valueOf_217 rfl ?_
                    refine G_iconst (v := 1) hO dX3_valueOf_219 rfl ?_
                    refine G_isub hO dX3_valueOf_220 ?_
                    refine G_iload hO dX3_valueOf_221 rfl ?_
                    refine G_if_eq (tgt := 235) hO dX3_valueOf_223 (by decide) (fun c27 => ?_) (fun c27 => ?_)
                    · have h := h.1 c27
                      refine G_iconst (v := 0) hO dX3_valueOf_235 rfl ?_
                      obtain ⟨c28, h⟩ := h
                      refine G_iastore hO dX3_valueOf_236 ha3 c28 ?_
                      refine G_goto (tgt := 321) hO dX3_valueOf_237 (by decide) ?_
                      refine G_iinc (v := (l5 + 1)) (lv2 := [some (.ref (gad Γ t)), some (.int p1), some (.ref (gad Γ a2)), some (.ref (gad Γ a3)), some (.int (l4 + (-1))), some (.int (l5 + 1)), some (.int l6), some (.int (w a3 (((l4 + (-1)) - (1 : Int32))).toNatClampNeg)), some (.int (w a3 ((l4 + (-1))).toNatClampNeg))]) hO dX3_valueOf_321 rfl rfl (by decide) rfl rfl ?_
                      refine G_goto (tgt := 15) hO dX3_valueOf_324 (by decide) ?_
                      exact GG.sub (lv2 := [some (.ref (gad Γ t)), some (.int p1), some (.ref (gad Γ a2)), some (.ref (gad Γ a3)), some (.int (l4 + (-1))), some (.int (l5 + 1)), none, none, none]) ⟨rfl, ⟨rfl, ⟨rfl, ⟨rfl, ⟨rfl, ⟨rfl, trivial⟩⟩⟩⟩⟩⟩ h
                    · have h := h.2 c27
                      refine G_iload hO dX3_valueOf_226 rfl ?_
                      refine G_if_eq (tgt := 235) hO dX3_valueOf_228 (by decide) (fun c29 => ?_) (fun c29 => ?_)
                      · have h := h.1 c29
                        refine G_iconst (v := 0) hO dX3_valueOf_235 rfl ?_
                        obtain ⟨c30, h⟩ := h
                        refine G_iastore hO dX3_valueOf_236 ha3 c30 ?_
                        refine G_goto (tgt := 321) hO dX3_valueOf_237 (by decide) ?_
                        refine G_iinc (v := (l5 + 1)) (lv2 := [some (.ref (gad Γ t)), some (.int p1), some (.ref (gad Γ a2)), some (.ref (gad Γ a3)), some (.int (l4 + (-1))), some (.int (l5 + 1)), some (.int l6), some (.int (w a3 (((l4 + (-1)) - (1 : Int32))).toNatClampNeg)), some (.int (w a3 ((l4 + (-1))).toNatClampNeg))]) hO dX3_valueOf_321 rfl rfl (by decide) rfl rfl ?_
                        refine G_goto (tgt := 15) hO dX3_valueOf_324 (by decide) ?_
                        exact GG.sub (lv2 := [some (.ref (gad Γ t)), some (.int p1), some (.ref (gad Γ a2)), some (.ref (gad Γ a3)), some (.int (l4 + (-1))), some (.int (l5 + 1)), none, none, none]) ⟨rfl, ⟨rfl, ⟨rfl, ⟨rfl, ⟨rfl, ⟨rfl, trivial⟩⟩⟩⟩⟩⟩ h
                      · have h := h.2 c29
                        refine G_iconst (v := 1) hO dX3_valueOf_231 rfl ?_
                        refine G_goto (tgt := 236) hO dX3_valueOf_232 (by decide) ?_
                        obtain ⟨c31, h⟩ := h
                        refine G_iastore hO dX3_valueOf_236 ha3 c31 ?_
                        refine G_goto (tgt := 321) hO dX3_valueOf_237 (by decide) ?_
                        refine G_iinc (v := (l5 + 1)) (lv2 := [some (.ref (gad Γ t)), some (.int p1), some (.ref (gad Γ a2)), some (.ref (gad Γ a3)), some (.int (l4 + (-1))), some (.int (l5 + 1)), some (.int l6), some (.int (w a3 (((l4 + (-1)) - (1 : Int32))).toNatClampNeg)), some (.int (w a3 ((l4 + (-1))).toNatClampNeg))]) hO dX3_valueOf_321 rfl rfl (by decide) rfl rfl ?_
                        refine G_goto (tgt := 15) hO dX3_valueOf_324 (by decide) ?_
                        exact GG.sub (lv2 := [some (.ref (gad Γ t)), some (.int p1), some (.ref (gad Γ a2)), some (.ref (gad Γ a3)), some (.int (l4 + (-1))), some (.int (l5 + 1)), none, none, none]) ⟨rfl, ⟨rfl, ⟨rfl, ⟨rfl, ⟨rfl, ⟨rfl, trivial⟩⟩⟩⟩⟩⟩ h
                  · by_cases em9 : l6 = (-9 : Int32)
                    · have h := h.1 em9
                      refine G_tabIn (tgt := 192) (j := 5) hO dX3_valueOf_155 (by decide) rfl (sweq em9 (by decide)) (by decide) ?_
                      refine G_aload_n hO dX3_valueOf_192 rfl rfl ?_
                      refine G_iload hO dX3_valueOf_193 rfl ?_
                      refine G_iconst (v := 1) hO dX3_valueOf_195 rfl ?_
                      refine G_isub hO dX3_valueOf_196 ?_
                      refine G_iload hO dX3_valueOf_197 rfl ?_
                      refine G_if_ne (tgt := 207) hO dX3_valueOf_199 (by decide) (fun c22 => ?_) (fun c22 => ?_)
                      · have h := h.1 c22
                        refine G_iconst (v := 1) hO dX3_valueOf_207 rfl ?_
                        refine G_goto (tgt := 212) hO dX3_valueOf_208 (by decide) ?_
                        obtain ⟨c23, h⟩ := h
                        refine G_iastore hO dX3_valueOf_212 ha3 c23 ?_
                        refine G_goto (tgt := 321) hO dX3_valueOf_213 (by decide) ?_
                        refine G_iinc (v := (l5 + 1)) (lv2 := [some (.ref (gad Γ t)), some (.int p1), some (.ref (gad Γ a2)), some (.ref (gad Γ a3)), some (.int (l4 + (-1))), some (.int (l5 + 1)), some (.int l6), some (.int (w a3 (((l4 + (-1)) - (1 : Int32))).toNatClampNeg)), some (.int (w a3 ((l4 + (-1))).toNatClampNeg))]) hO dX3_valueOf_321 rfl rfl (by decide) rfl rfl ?_
                        refine G_goto (tgt := 15) hO dX3_valueOf_324 (by decide) ?_
                        exact GG.sub (lv2 := [some (.ref (gad Γ t)), some (.int p1), some (.ref (gad Γ a2)), some (.ref (gad Γ a3)), some (.int (l4 + (-1))), some (.int (l5 + 1)), none, none, none]) ⟨rfl, ⟨rfl, ⟨rfl, ⟨rfl, ⟨rfl, ⟨rfl, trivial⟩⟩⟩⟩⟩⟩ h
                      · have h := h.2 c22
                        refine G_iload hO dX3_valueOf_202 rfl ?_
                        refine G_if_eq (tgt := 211) hO dX3_valueOf_204 (by decide) (fun c24 => ?_) (fun c24 => ?_)
                        · have h := h.1 c24
                          refine G_iconst (v := 0) hO dX3_valueOf_211 rfl ?_
                          obtain ⟨c25, h⟩ := h
                          refine G_iastore hO dX3_valueOf_212 ha3 c25 ?_
                          refine G_goto (tgt := 321) hO dX3_valueOf_213 (by decide) ?_
                          refine G_iinc (v := (l5 + 1)) (lv2 := [some (.ref (gad Γ t)), some (.int p1), some (.ref (gad Γ a2)), some (.ref (gad Γ a3)), some (.int (l4 + (-1))), some (.int (l5 + 1)), some (.int l6), some (.int (w a3 (((l4 + (-1)) - (1 : Int32))).toNatClampNeg)), some (.int (w a3 ((l4 + (-1))).toNatClampNeg))]) hO dX3_valueOf_321 rfl rfl (by decide) rfl rfl ?_
                          refine G_goto (tgt := 15) hO dX3_valueOf_324 (by decide) ?_
                          exact GG.sub (lv2 := [some (.ref (gad Γ t)), some (.int p1), some (.ref (gad Γ a2)), some (.ref (gad Γ a3)), some (.int (l4 + (-1))), some (.int (l5 + 1)), none, none, none]) ⟨rfl, ⟨rfl, ⟨rfl, ⟨rfl, ⟨rfl, ⟨rfl, trivial⟩⟩⟩⟩⟩⟩ h
                        · have h := h.2 c24
                          refine G_iconst (v := 1) hO dX3_valueOf_207 rfl ?_
                          refine G_goto (tgt := 212) hO dX3_valueOf_208 (by decide) ?_
                          obtain ⟨c26, h⟩ := h
                          refine G_iastore hO dX3_valueOf_212 ha3 c26 ?_
                          refine G_goto (tgt := 321) hO dX3_valueOf_213 (by decide) ?_
                          refine G_iinc (v := (l5 + 1)) (lv2 := [some (.ref (gad Γ t)), some (.int p1), some (.ref (gad Γ a2)), some (.ref (gad Γ a3)), some (.int (l4 + (-1))), some (.int (l5 + 1)), some (.int l6), some (.int (w a3 (((l4 + (-1)) - (1 : Int32))).toNatClampNeg)), some (.int (w a3 ((l4 + (-1))).toNatClampNeg))]) hO dX3_valueOf_321 rfl rfl (by decide) rfl rfl ?_
                          refine G_goto (tgt := 15) hO dX3_valueOf_324 (by decide) ?_
                          exact GG.sub (lv2 := [some (.ref (gad Γ t)), some (.int p1), some (.ref (gad Γ a2)), some (.ref (gad Γ a3)), some (.int (l4 + (-1))), some (.int (l5 + 1)), none, none, none]) ⟨rfl, ⟨rfl, ⟨rfl, ⟨rfl, ⟨rfl, ⟨rfl, trivial⟩⟩⟩⟩⟩⟩ h
                    · have h := h.2.2.2.2.2.2 ⟨em14, em13, em12, em11, em10, em9⟩
                      refine G_tabOut (tgt := 310) hO dX3_valueOf_155 (by decide) (by decide) (fun j hj => ?_) ?_
                      · rcases (show j = 0 ∨ j = 1 ∨ j = 2 ∨ j = 3 ∨ j = 4 ∨ j = 5 from by have : j < 6 := hj; omega) with rfl | rfl | rfl | rfl | rfl | rfl
                        · exact swne em14 (by decide)
                        · exact swne em13 (by decide)
                        · exact swne em12 (by decide)
                        · exact swne em11 (by decide)
                        · exact swne em10 (by decide)
                        · exact swne em9 (by decide)
                      · refine G_aload_n hO dX3_valueOf_310 rfl rfl ?_
                        refine G_iload hO dX3_valueOf_311 rfl ?_
                        refine G_iconst (v := 1) hO dX3_valueOf_313 rfl ?_
                        refine G_isub hO dX3_valueOf_314 ?_
                        refine G_iload hO dX3_valueOf_315 rfl ?_
                        refine G_iload hO dX3_valueOf_317 rfl ?_
                        refine G_imul hO dX3_valueOf_319 ?_
                        obtain ⟨c40, h⟩ := h
                        refine G_iastore hO dX3_valueOf_320 ha3 c40 ?_
                        refine G_iinc (v := (l5 + 1)) (lv2 := [some (.ref (gad Γ t)), some (.int p1), some (.ref (gad Γ a2)), some (.ref (gad Γ a3)), some (.int (l4 + (-1))), some (.int (l5 + 1)), some (.int l6), some (.int (w a3 (((l4 + (-1)) - (1 : Int32))).toNatClampNeg)), some (.int (w a3 ((l4 + (-1))).toNatClampNeg))]) hO dX3_valueOf_321 rfl rfl (by decide) rfl rfl ?_
                        refine G_goto (tgt := 15) hO dX3_valueOf_324 (by decide) ?_
                        exact GG.sub (lv2 := [some (.ref (gad Γ t)), some (.int p1), some (.ref (gad Γ a2)), some (.ref (gad Γ a3)), some (.int (l4 + (-1))), some (.int (l5 + 1)), none, none, none]) ⟨rfl, ⟨rfl, ⟨rfl, ⟨rfl, ⟨rfl, ⟨rfl, trivial⟩⟩⟩⟩⟩⟩ h)
  refine G_iconst (v := 0) hO dX3_valueOf_0 rfl ?_
  refine G_istore (lv2 := [some (.ref (gad Γ t)), some (.int p1), some (.ref (gad Γ a2)), some (.ref (gad Γ a3)), some (.int (0 : Int32)), none, none, none, none]) hO dX3_valueOf_1 (by decide) rfl rfl ?_
  refine G_aload_n hO dX3_valueOf_3 rfl rfl ?_
  refine G_iconst (v := 0) hO dX3_valueOf_4 rfl ?_
  refine G_iconst (v := 0) hO dX3_valueOf_5 rfl ?_
  refine G_iastore hO dX3_valueOf_6 ha3 (by unfold vp_in; decide) ?_
  refine G_aload_n hO dX3_valueOf_7 rfl rfl ?_
  refine gr_X3_15 (c := (t + 2)) hO dX3_valueOf_8 hT.1 rfl ?_
  refine G_iload_n hO dX3_valueOf_11 rfl rfl ?_
  obtain ⟨c1, h⟩ := h
  refine G_iaload hO dX3_valueOf_12 hT.2.2 c1 ?_
  refine G_istore (lv2 := [some (.ref (gad Γ t)), some (.int p1), some (.ref (gad Γ a2)), some (.ref (gad Γ a3)), some (.int (0 : Int32)), some (.int ((wset w a3 0 (0 : Int32)) (t + 2) (p1).toNatClampNeg)), none, none, none]) hO dX3_valueOf_13 (by decide) rfl rfl ?_
  exact GG.sub (lv2 := [some (.ref (gad Γ t)), some (.int p1), some (.ref (gad Γ a2)), some (.ref (gad Γ a3)), some (.int (0 : Int32)), some (.int ((wset w a3 0 (0 : Int32)) (t + 2) (p1).toNatClampNeg)), none, none, none]) ⟨rfl, ⟨rfl, ⟨rfl, ⟨rfl, ⟨rfl, ⟨rfl, trivial⟩⟩⟩⟩⟩⟩ h
def wp_X2_isMissing (Γ : Gx) (d : Nat) (t : Nat) (w : Wd) (Q : Int32 → Wd → Prop) : Prop :=
  ((¬ (w t 1) = (-1 : Int32) → Q (0 : Int32) w) ∧ ((w t 1) = (-1 : Int32) → Q (1 : Int32) w))
set_option maxRecDepth 20000 in
theorem con_X2_isMissing {Γ : Gx} {d : Nat} (hG : GC Γ) {t : Nat} (hT : ShS Γ t) {w : Wd} {Q : Int32 → Wd → Prop} (h : wp_X2_isMissing Γ d t w Q) : CI Γ (d + 1) M_X2_isMissing [.ref (gad Γ t)] w Q := by
  have hC := hG.2.1
  refine Con.of RX2 cX2_isMissing 1 (some .boolean) [some (.ref (gad Γ t))] rfl rfl (by decide +kernel) hG.1 (catR cat0) (Nat.le_of_ble_eq_true rfl) rfl ?_
  intro X hO
  refine G_aload_n hO dX2_isMissing_0 rfl rfl ?_
  refine gi_X2_15 hO dX2_isMissing_1 hT.1 rfl ?_
  refine G_iconst (v := -1) hO dX2_isMissing_4 rfl ?_
  refine G_icmp_ne (tgt := 12) hO dX2_isMissing_5 (by decide) (fun c1 => ?_) (fun c1 => ?_)
  · have h := h.1 c1
    refine G_iconst (v := 0) hO dX2_isMissing_12 rfl ?_
    exact G_iret hO dX2_isMissing_13 rfl rfl (QI.i h)
  · have h := h.2 c1
    refine G_iconst (v := 1) hO dX2_isMissing_8 rfl ?_
    refine G_goto (tgt := 13) hO dX2_isMissing_9 (by decide) ?_
    exact G_iret hO dX2_isMissing_13 rfl rfl (QI.i h)
def wp_X2_clear (Γ : Gx) (d : Nat) (t : Nat) (p1 : Int32) (p2 : Int32) (w : Wd) (Q : Wd → Prop) : Prop :=
  ∀ (P_12 : Int32 → Wd → Prop),
  (∀ (l3 : Int32) (w : Wd), (((40 : Int32) ≤ l3 → Q w) ∧ (¬ (40 : Int32) ≤ l3 → (vp_in l3 40 ∧ P_12 (l3 + 1) (wset w (t + 1) (l3).toNatClampNeg (0 : Int32))))) → P_12 l3 w) →
  P_12 (0 : Int32) (wset (wset w t 1 p1) t 2 p2)
set_option maxRecDepth 20000 in
theorem con_X2_clear {Γ : Gx} {d : Nat} (hG : GC Γ) {t : Nat} {p1 : Int32} {p2 : Int32} (hT : ShS Γ t) {w : Wd} {Q : Wd → Prop} (h : wp_X2_clear Γ d t p1 p2 w Q) : CV Γ (d + 1) M_X2_clear [.ref (gad Γ t), .int p1, .int p2] w Q := by
  have hC := hG.2.1
  refine Con.of RX2 cX2_clear 4 none [some (.ref (gad Γ t)), some (.int p1), some (.int p2), none] rfl rfl (by decide +kernel) hG.1 (catR (catI (catI cat0))) (Nat.le_of_ble_eq_true rfl) rfl ?_
  intro X hO
  have h := h
    (fun (l3 : Int32) (w : Wd) => GG Γ X (d + 1) 4 (QV Q) 12 [some (.ref (gad Γ t)), none, none, some (.int l3)] [] w)
    (by
        intro l3 w h
        refine G_iload_n hO dX2_clear_12 rfl rfl ?_
        refine G_bipush (v := 40) hO dX2_clear_13 rfl ?_
        refine G_icmp_ge (tgt := 31) hO dX2_clear_15 (by decide) (fun c1 => ?_) (fun c1 => ?_)
        · have h := h.1 c1
          exact G_vret hO dX2_clear_31 rfl (QV.i h)
        · have h := h.2 c1
          refine G_aload_n hO dX2_clear_18 rfl rfl ?_
          refine gr_X2_9 (c := (t + 1)) hO dX2_clear_19 hT.1 rfl ?_
          refine G_iload_n hO dX2_clear_22 rfl rfl ?_
          refine G_iconst (v := 0) hO dX2_clear_23 rfl ?_
          obtain ⟨c2, h⟩ := h
          refine G_iastore hO dX2_clear_24 hT.2 c2 ?_
          refine G_iinc (v := (l3 + 1)) (lv2 := [some (.ref (gad Γ t)), none, none, some (.int (l3 + 1))]) hO dX2_clear_25 rfl rfl (by decide) rfl rfl ?_
          refine G_goto (tgt := 12) hO dX2_clear_28 (by decide) ?_
          exact GG.sub (lv2 := [some (.ref (gad Γ t)), none, none, some (.int (l3 + 1))]) ⟨rfl, ⟨rfl, trivial⟩⟩ h)
  refine G_aload_n hO dX2_clear_0 rfl rfl ?_
  refine G_iload_n hO dX2_clear_1 rfl rfl ?_
  refine pi_X2_15 hO dX2_clear_2 hT.1 rfl ?_
  refine G_aload_n hO dX2_clear_5 rfl rfl ?_
  refine G_iload_n hO dX2_clear_6 rfl rfl ?_
  refine pi_X2_19 hO dX2_clear_7 hT.1 rfl ?_
  refine G_iconst (v := 0) hO dX2_clear_10 rfl ?_
  refine G_istore_n (lv2 := [some (.ref (gad Γ t)), some (.int p1), some (.int p2), some (.int (0 : Int32))]) hO dX2_clear_11 rfl (by decide) rfl rfl ?_
  exact GG.sub (lv2 := [some (.ref (gad Γ t)), none, none, some (.int (0 : Int32))]) ⟨rfl, ⟨rfl, trivial⟩⟩ h
def wp_X2_hasItem (Γ : Gx) (d : Nat) (t : Nat) (p1 : Int32) (w : Wd) (Q : Int32 → Wd → Prop) : Prop :=
  ((p1 < 0 → Q (0 : Int32) w) ∧ (¬ p1 < 0 → (((w t 2) ≤ p1 → Q (0 : Int32) w) ∧ (¬ (w t 2) ≤ p1 → Q (1 : Int32) w))))
set_option maxRecDepth 20000 in
theorem con_X2_hasItem {Γ : Gx} {d : Nat} (hG : GC Γ) {t : Nat} {p1 : Int32} (hT : ShS Γ t) {w : Wd} {Q : Int32 → Wd → Prop} (h : wp_X2_hasItem Γ d t p1 w Q) : CI Γ (d + 1) M_X2_hasItem [.ref (gad Γ t), .int p1] w Q := by
  have hC := hG.2.1
  refine Con.of RX2 cX2_hasItem 2 (some .boolean) [some (.ref (gad Γ t)), some (.int p1)] rfl rfl (by decide +kernel) hG.1 (catR (catI cat0)) (Nat.le_of_ble_eq_true rfl) rfl ?_
  intro X hO
  refine G_iload_n hO dX2_hasItem_0 rfl rfl ?_
  refine G_if_lt (tgt := 16) hO dX2_hasItem_1 (by decide) (fun c1 => ?_) (fun c1 => ?_)
  · have h := h.1 c1
    refine G_iconst (v := 0) hO dX2_hasItem_16 rfl ?_
    exact G_iret hO dX2_hasItem_17 rfl rfl (QI.i h)
  · have h := h.2 c1
    refine G_iload_n hO dX2_hasItem_4 rfl rfl ?_
    refine G_aload_n hO dX2_hasItem_5 rfl rfl ?_
    refine gi_X2_19 hO dX2_hasItem_6 hT.1 rfl ?_
    refine G_icmp_ge (tgt := 16) hO dX2_hasItem_9 (by decide) (fun c2 => ?_) (fun c2 => ?_)
    · have h := h.1 c2
      refine G_iconst (v := 0) hO dX2_hasItem_16 rfl ?_
      exact G_iret hO dX2_hasItem_17 rfl rfl (QI.i h)
    · have h := h.2 c2
      refine G_iconst (v := 1) hO dX2_hasItem_12 rfl ?_
      refine G_goto (tgt := 17) hO dX2_hasItem_13 (by decide) ?_
      exact G_iret hO dX2_hasItem_17 rfl rfl (QI.i h)
def wp_X2_hasPiece (Γ : Gx) (d : Nat) (t : Nat) (p1 : Int32) (p2 : Int32) (w : Wd) (Q : Int32 → Wd → Prop) : Prop :=
  ((p1 < 0 → Q (0 : Int32) w) ∧ (¬ p1 < 0 → ((p2 < 0 → Q (0 : Int32) w) ∧ (¬ p2 < 0 → ((((w t 2) - p2) < p1 → Q (0 : Int32) w) ∧ (¬ ((w t 2) - p2) < p1 → Q (1 : Int32) w))))))
set_option maxRecDepth 20000 in
theorem con_X2_hasPiece {Γ : Gx} {d : Nat} (hG : GC Γ) {t : Nat} {p1 : Int32} {p2 : Int32} (hT : ShS Γ t) {w : Wd} {Q : Int32 → Wd → Prop} (h : wp_X2_hasPiece Γ d t p1 p2 w Q) : CI Γ (d + 1) M_X2_hasPiece [.ref (gad Γ t), .int p1, .int p2] w Q := by
  have hC := hG.2.1
  refine Con.of RX2 cX2_hasPiece 3 (some .boolean) [some (.ref (gad Γ t)), some (.int p1), some (.int p2)] rfl rfl (by decide +kernel) hG.1 (catR (catI (catI cat0))) (Nat.le_of_ble_eq_true rfl) rfl ?_
  intro X hO
  refine G_iload_n hO dX2_hasPiece_0 rfl rfl ?_
  refine G_if_lt (tgt := 22) hO dX2_hasPiece_1 (by decide) (fun c1 => ?_) (fun c1 => ?_)
  · have h := h.1 c1
    refine G_iconst (v := 0) hO dX2_hasPiece_22 rfl ?_
    exact G_iret hO dX2_hasPiece_23 rfl rfl (QI.i h)
  · have h := h.2 c1
    refine G_iload_n hO dX2_hasPiece_4 rfl rfl ?_
    refine G_if_lt (tgt := 22) hO dX2_hasPiece_5 (by decide) (fun c2 => ?_) (fun c2 => ?_)
    · have h := h.1 c2
      refine G_iconst (v := 0) hO dX2_hasPiece_22 rfl ?_
      exact G_iret hO dX2_hasPiece_23 rfl rfl (QI.i h)
    · have h := h.2 c2
      refine G_iload_n hO dX2_hasPiece_8 rfl rfl ?_
      refine G_aload_n hO dX2_hasPiece_9 rfl rfl ?_
      refine gi_X2_19 hO dX2_hasPiece_10 hT.1 rfl ?_
      refine G_iload_n hO dX2_hasPiece_13 rfl rfl ?_
      refine G_isub hO dX2_hasPiece_14 ?_
      refine G_icmp_gt (tgt := 22) hO dX2_hasPiece_15 (by decide) (fun c3 => ?_) (fun c3 => ?_)
      · have h := h.1 c3
        refine G_iconst (v := 0) hO dX2_hasPiece_22 rfl ?_
        exact G_iret hO dX2_hasPiece_23 rfl rfl (QI.i h)
      · have h := h.2 c3
        refine G_iconst (v := 1) hO dX2_hasPiece_18 rfl ?_
        refine G_goto (tgt := 23) hO dX2_hasPiece_19 (by decide) ?_
        exact G_iret hO dX2_hasPiece_23 rfl rfl (QI.i h)
def wp_X2_put (Γ : Gx) (d : Nat) (t : Nat) (p1 : Int32) (p2 : Int32) (w : Wd) (Q : Wd → Prop) : Prop :=
  ((((w t 1) = (0 : Int32)) → (vp_in p1 40 ∧ Q (wset w (t + 1) (p1).toNatClampNeg (p2.toInt8.toInt32)))) ∧ (((w t 1) = (1 : Int32)) → (vp_in p1 40 ∧ Q (wset w (t + 1) (p1).toNatClampNeg (p2.toInt16.toInt32)))) ∧ ((¬ (w t 1) = (0 : Int32) ∧ ¬ (w t 1) = (1 : Int32)) → (vp_in p1 40 ∧ Q (wset w (t + 1) (p1).toNatClampNeg p2))))
set_option maxRecDepth 20000 in
theorem con_X2_put {Γ : Gx} {d : Nat} (hG : GC Γ) {t : Nat} {p1 : Int32} {p2 : Int32} (hT : ShS Γ t) {w : Wd} {Q : Wd → Prop} (h : wp_X2_put Γ d t p1 p2 w Q) : CV Γ (d + 1) M_X2_put [.ref (gad Γ t), .int p1, .int p2] w Q := by
  have hC := hG.2.1
  refine Con.of RX2 cX2_put 3 none [some (.ref (gad Γ t)), some (.int p1), some (.int p2)] rfl rfl (by decide +kernel) hG.1 (catR (catI (catI cat0))) (Nat.le_of_ble_eq_true rfl) rfl ?_
  intro X hO
  refine G_aload_n hO dX2_put_0 rfl rfl ?_
  refine gi_X2_15 hO dX2_put_1 hT.1 rfl ?_
  by_cases e0 : (w t 1) = (0 : Int32)
  · have h := h.1 e0
    refine G_lookIn (tgt := 32) (q := (0, 28)) hO dX2_put_4 (by decide) (sweq e0 (by decide)) rfl (by decide) ?_
    refine G_aload_n hO dX2_put_32 rfl rfl ?_
    refine gr_X2_9 (c := (t + 1)) hO dX2_put_33 hT.1 rfl ?_
    refine G_iload_n hO dX2_put_36 rfl rfl ?_
    refine G_iload_n hO dX2_put_37 rfl rfl ?_
    refine G_i2b hO dX2_put_38 ?_
    obtain ⟨c1, h⟩ := h
    refine G_iastore hO dX2_put_39 hT.2 c1 ?_
    refine G_goto (tgt := 61) hO dX2_put_40 (by decide) ?_
    exact G_vret hO dX2_put_61 rfl (QV.i h)
  · by_cases e1 : (w t 1) = (1 : Int32)
    · have h := h.2.1 e1
      refine G_lookIn (tgt := 43) (q := (1, 39)) hO dX2_put_4 (by decide) (sweq e1 (by decide)) rfl (by decide) ?_
      refine G_aload_n hO dX2_put_43 rfl rfl ?_
      refine gr_X2_9 (c := (t + 1)) hO dX2_put_44 hT.1 rfl ?_
      refine G_iload_n hO dX2_put_47 rfl rfl ?_
      refine G_iload_n hO dX2_put_48 rfl rfl ?_
      refine G_i2s hO dX2_put_49 ?_
      obtain ⟨c2, h⟩ := h
      refine G_iastore hO dX2_put_50 hT.2 c2 ?_
      refine G_goto (tgt := 61) hO dX2_put_51 (by decide) ?_
      exact G_vret hO dX2_put_61 rfl (QV.i h)
    · have h := h.2.2 ⟨e0, e1⟩
      refine G_lookOut (tgt := 54) hO dX2_put_4 (by decide) (by decide) (fun q hq => ?_) ?_
      · simp only [List.mem_cons, List.not_mem_nil, or_false] at hq
        rcases hq with rfl | rfl
        · exact swne e0 (by decide)
        · exact swne e1 (by decide)
      · refine G_aload_n hO dX2_put_54 rfl rfl ?_
        refine gr_X2_9 (c := (t + 1)) hO dX2_put_55 hT.1 rfl ?_
        refine G_iload_n hO dX2_put_58 rfl rfl ?_
        refine G_iload_n hO dX2_put_59 rfl rfl ?_
        obtain ⟨c3, h⟩ := h
        refine G_iastore hO dX2_put_60 hT.2 c3 ?_
        exact G_vret hO dX2_put_61 rfl (QV.i h)
end
