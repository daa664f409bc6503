section
-- ===== PART A: goes FIRST, ahead of the names: the tables' words, and 'selects' of the private methods out of them =====
/-- a private method of a class that the tables say can be made, by its rows of tables_1 -/
def lw_okq (q : MethodName × Nat) : Prop := (q.1.cls ≠ "java/lang/invoke/MethodHandle" ∧ q.1.cls ≠ "java/lang/invoke/VarHandle") ∧ Cond.instantiable q.1.cls q.2 ∈ tables_1 ∧ Cond.privateMethod q.1 ∈ tables_1 ∧ Cond.instanceMethod q.1 ∈ tables_1
theorem lw_p0 : lw_okq (⟨"SandwichesSpeak$Reader", "readToken", "()V"⟩, 9) := ⟨⟨by decide +kernel, by decide +kernel⟩, List.mem_of_getElem? (i := 28) (by decide +kernel), List.mem_of_getElem? (i := 212) (by decide +kernel), List.mem_of_getElem? (i := 213) (by decide +kernel)⟩
theorem lw_p1 : lw_okq (⟨"SandwichesSpeak$Reader", "readWord", "()V"⟩, 9) := ⟨⟨by decide +kernel, by decide +kernel⟩, List.mem_of_getElem? (i := 28) (by decide +kernel), List.mem_of_getElem? (i := 219) (by decide +kernel), List.mem_of_getElem? (i := 220) (by decide +kernel)⟩
theorem lw_p2 : lw_okq (⟨"SandwichesSpeak$Reader", "wordNumber", "()I"⟩, 9) := ⟨⟨by decide +kernel, by decide +kernel⟩, List.mem_of_getElem? (i := 28) (by decide +kernel), List.mem_of_getElem? (i := 223) (by decide +kernel), List.mem_of_getElem? (i := 224) (by decide +kernel)⟩
theorem lw_p3 : lw_okq (⟨"SandwichesSpeak$Reader", "readNumeral", "()V"⟩, 9) := ⟨⟨by decide +kernel, by decide +kernel⟩, List.mem_of_getElem? (i := 28) (by decide +kernel), List.mem_of_getElem? (i := 230) (by decide +kernel), List.mem_of_getElem? (i := 231) (by decide +kernel)⟩
theorem lw_p4 : lw_okq (⟨"SandwichesSpeak$Reader", "pass", "(I)V"⟩, 9) := ⟨⟨by decide +kernel, by decide +kernel⟩, List.mem_of_getElem? (i := 28) (by decide +kernel), List.mem_of_getElem? (i := 298) (by decide +kernel), List.mem_of_getElem? (i := 299) (by decide +kernel)⟩
theorem lw_p5 : lw_okq (⟨"SandwichesSpeak$Reader", "fail", "()V"⟩, 9) := ⟨⟨by decide +kernel, by decide +kernel⟩, List.mem_of_getElem? (i := 28) (by decide +kernel), List.mem_of_getElem? (i := 302) (by decide +kernel), List.mem_of_getElem? (i := 303) (by decide +kernel)⟩
theorem lw_p6 : lw_okq (⟨"SandwichesSpeak$Reader", "readOr", "()V"⟩, 9) := ⟨⟨by decide +kernel, by decide +kernel⟩, List.mem_of_getElem? (i := 28) (by decide +kernel), List.mem_of_getElem? (i := 306) (by decide +kernel), List.mem_of_getElem? (i := 307) (by decide +kernel)⟩
theorem lw_p7 : lw_okq (⟨"SandwichesSpeak$Reader", "readAnd", "()V"⟩, 9) := ⟨⟨by decide +kernel, by decide +kernel⟩, List.mem_of_getElem? (i := 28) (by decide +kernel), List.mem_of_getElem? (i := 310) (by decide +kernel), List.mem_of_getElem? (i := 311) (by decide +kernel)⟩
theorem lw_p8 : lw_okq (⟨"SandwichesSpeak$Reader", "readNot", "()V"⟩, 9) := ⟨⟨by decide +kernel, by decide +kernel⟩, List.mem_of_getElem? (i := 28) (by decide +kernel), List.mem_of_getElem? (i := 314) (by decide +kernel), List.mem_of_getElem? (i := 315) (by decide +kernel)⟩
theorem lw_p9 : lw_okq (⟨"SandwichesSpeak$Reader", "readCompared", "()V"⟩, 9) := ⟨⟨by decide +kernel, by decide +kernel⟩, List.mem_of_getElem? (i := 28) (by decide +kernel), List.mem_of_getElem? (i := 318) (by decide +kernel), List.mem_of_getElem? (i := 319) (by decide +kernel)⟩
theorem lw_p10 : lw_okq (⟨"SandwichesSpeak$Reader", "readSum", "()V"⟩, 9) := ⟨⟨by decide +kernel, by decide +kernel⟩, List.mem_of_getElem? (i := 28) (by decide +kernel), List.mem_of_getElem? (i := 322) (by decide +kernel), List.mem_of_getElem? (i := 323) (by decide +kernel)⟩
theorem lw_p11 : lw_okq (⟨"SandwichesSpeak$Reader", "readTerm", "()V"⟩, 9) := ⟨⟨by decide +kernel, by decide +kernel⟩, List.mem_of_getElem? (i := 28) (by decide +kernel), List.mem_of_getElem? (i := 326) (by decide +kernel), List.mem_of_getElem? (i := 327) (by decide +kernel)⟩
theorem lw_p12 : lw_okq (⟨"SandwichesSpeak$Reader", "readOne", "()V"⟩, 9) := ⟨⟨by decide +kernel, by decide +kernel⟩, List.mem_of_getElem? (i := 28) (by decide +kernel), List.mem_of_getElem? (i := 330) (by decide +kernel), List.mem_of_getElem? (i := 331) (by decide +kernel)⟩
theorem lw_p13 : lw_okq (⟨"SandwichesSpeak$Reader", "opens", "()Z"⟩, 9) := ⟨⟨by decide +kernel, by decide +kernel⟩, List.mem_of_getElem? (i := 28) (by decide +kernel), List.mem_of_getElem? (i := 338) (by decide +kernel), List.mem_of_getElem? (i := 339) (by decide +kernel)⟩
theorem lw_p14 : lw_okq (⟨"SandwichesSpeak", "isThere", "(II)Z"⟩, 9) := ⟨⟨by decide +kernel, by decide +kernel⟩, List.mem_of_getElem? (i := 16) (by decide +kernel), List.mem_of_getElem? (i := 376) (by decide +kernel), List.mem_of_getElem? (i := 377) (by decide +kernel)⟩
theorem lw_p15 : lw_okq (⟨"SandwichesSpeak", "isPerson", "(I)Z"⟩, 9) := ⟨⟨by decide +kernel, by decide +kernel⟩, List.mem_of_getElem? (i := 16) (by decide +kernel), List.mem_of_getElem? (i := 380) (by decide +kernel), List.mem_of_getElem? (i := 381) (by decide +kernel)⟩
def lw_privs_1 : List (MethodName × Nat) := [(⟨"SandwichesSpeak$Reader", "readToken", "()V"⟩, 9), (⟨"SandwichesSpeak$Reader", "readWord", "()V"⟩, 9), (⟨"SandwichesSpeak$Reader", "wordNumber", "()I"⟩, 9), (⟨"SandwichesSpeak$Reader", "readNumeral", "()V"⟩, 9), (⟨"SandwichesSpeak$Reader", "pass", "(I)V"⟩, 9), (⟨"SandwichesSpeak$Reader", "fail", "()V"⟩, 9), (⟨"SandwichesSpeak$Reader", "readOr", "()V"⟩, 9), (⟨"SandwichesSpeak$Reader", "readAnd", "()V"⟩, 9), (⟨"SandwichesSpeak$Reader", "readNot", "()V"⟩, 9), (⟨"SandwichesSpeak$Reader", "readCompared", "()V"⟩, 9), (⟨"SandwichesSpeak$Reader", "readSum", "()V"⟩, 9), (⟨"SandwichesSpeak$Reader", "readTerm", "()V"⟩, 9), (⟨"SandwichesSpeak$Reader", "readOne", "()V"⟩, 9), (⟨"SandwichesSpeak$Reader", "opens", "()Z"⟩, 9), (⟨"SandwichesSpeak", "isThere", "(II)Z"⟩, 9), (⟨"SandwichesSpeak", "isPerson", "(I)Z"⟩, 9)]
theorem lw_r1 : ∀ q ∈ lw_privs_1, lw_okq q := List.forall_mem_cons.mpr ⟨lw_p0, List.forall_mem_cons.mpr ⟨lw_p1, List.forall_mem_cons.mpr ⟨lw_p2, List.forall_mem_cons.mpr ⟨lw_p3, List.forall_mem_cons.mpr ⟨lw_p4, List.forall_mem_cons.mpr ⟨lw_p5, List.forall_mem_cons.mpr ⟨lw_p6, List.forall_mem_cons.mpr ⟨lw_p7, List.forall_mem_cons.mpr ⟨lw_p8, List.forall_mem_cons.mpr ⟨lw_p9, List.forall_mem_cons.mpr ⟨lw_p10, List.forall_mem_cons.mpr ⟨lw_p11, List.forall_mem_cons.mpr ⟨lw_p12, List.forall_mem_cons.mpr ⟨lw_p13, List.forall_mem_cons.mpr ⟨lw_p14, List.forall_mem_cons.mpr ⟨lw_p15, fun _ h => absurd h List.not_mem_nil⟩⟩⟩⟩⟩⟩⟩⟩⟩⟩⟩⟩⟩⟩⟩⟩
theorem lw_p16 : lw_okq (⟨"SandwichesSpeak", "plainly", "(II)I"⟩, 9) := ⟨⟨by decide +kernel, by decide +kernel⟩, List.mem_of_getElem? (i := 16) (by decide +kernel), List.mem_of_getElem? (i := 387) (by decide +kernel), List.mem_of_getElem? (i := 388) (by decide +kernel)⟩
theorem lw_p17 : lw_okq (⟨"SandwichesSpeak$Family", "nameAll", "(IIIII)V"⟩, 12) := ⟨⟨by decide +kernel, by decide +kernel⟩, List.mem_of_getElem? (i := 99) (by decide +kernel), List.mem_of_getElem? (i := 415) (by decide +kernel), List.mem_of_getElem? (i := 416) (by decide +kernel)⟩
theorem lw_p18 : lw_okq (⟨"SandwichesSpeak$Family", "inlawSends", "(IZ)Z"⟩, 12) := ⟨⟨by decide +kernel, by decide +kernel⟩, List.mem_of_getElem? (i := 99) (by decide +kernel), List.mem_of_getElem? (i := 423) (by decide +kernel), List.mem_of_getElem? (i := 424) (by decide +kernel)⟩
theorem lw_p19 : lw_okq (⟨"SandwichesSpeak$Family", "cutsFor", "(III)Z"⟩, 12) := ⟨⟨by decide +kernel, by decide +kernel⟩, List.mem_of_getElem? (i := 99) (by decide +kernel), List.mem_of_getElem? (i := 427) (by decide +kernel), List.mem_of_getElem? (i := 428) (by decide +kernel)⟩
theorem lw_p20 : lw_okq (⟨"SandwichesSpeak$Family", "motherCuts", "(IIZ)Z"⟩, 12) := ⟨⟨by decide +kernel, by decide +kernel⟩, List.mem_of_getElem? (i := 99) (by decide +kernel), List.mem_of_getElem? (i := 431) (by decide +kernel), List.mem_of_getElem? (i := 432) (by decide +kernel)⟩
theorem lw_p21 : lw_okq (⟨"SandwichesSpeak", "areTwo", "(II)Z"⟩, 9) := ⟨⟨by decide +kernel, by decide +kernel⟩, List.mem_of_getElem? (i := 16) (by decide +kernel), List.mem_of_getElem? (i := 486) (by decide +kernel), List.mem_of_getElem? (i := 487) (by decide +kernel)⟩
theorem lw_p22 : lw_okq (⟨"SandwichesSpeak", "firstDead", "()I"⟩, 9) := ⟨⟨by decide +kernel, by decide +kernel⟩, List.mem_of_getElem? (i := 16) (by decide +kernel), List.mem_of_getElem? (i := 526) (by decide +kernel), List.mem_of_getElem? (i := 527) (by decide +kernel)⟩
theorem lw_p23 : lw_okq (⟨"SandwichesSpeak", "firstAgain", "(I)I"⟩, 9) := ⟨⟨by decide +kernel, by decide +kernel⟩, List.mem_of_getElem? (i := 16) (by decide +kernel), List.mem_of_getElem? (i := 530) (by decide +kernel), List.mem_of_getElem? (i := 531) (by decide +kernel)⟩
theorem lw_p24 : lw_okq (⟨"SandwichesSpeak", "gladAsItIs", "(I)I"⟩, 9) := ⟨⟨by decide +kernel, by decide +kernel⟩, List.mem_of_getElem? (i := 16) (by decide +kernel), List.mem_of_getElem? (i := 560) (by decide +kernel), List.mem_of_getElem? (i := 561) (by decide +kernel)⟩
theorem lw_p25 : lw_okq (⟨"SandwichesSpeak", "moodsSo", "(LSandwichesSpeak$Sheet;IZ)I"⟩, 9) := ⟨⟨by decide +kernel, by decide +kernel⟩, List.mem_of_getElem? (i := 16) (by decide +kernel), List.mem_of_getElem? (i := 588) (by decide +kernel), List.mem_of_getElem? (i := 589) (by decide +kernel)⟩
theorem lw_p26 : lw_okq (⟨"SandwichesSpeak", "bitsSo", "(LSandwichesSpeak$Sheet;II)I"⟩, 9) := ⟨⟨by decide +kernel, by decide +kernel⟩, List.mem_of_getElem? (i := 16) (by decide +kernel), List.mem_of_getElem? (i := 592) (by decide +kernel), List.mem_of_getElem? (i := 593) (by decide +kernel)⟩
theorem lw_p27 : lw_okq (⟨"SandwichesSpeakModel", "codes", "(I)V"⟩, 41) := ⟨⟨by decide +kernel, by decide +kernel⟩, List.mem_of_getElem? (i := 671) (by decide +kernel), List.mem_of_getElem? (i := 677) (by decide +kernel), List.mem_of_getElem? (i := 678) (by decide +kernel)⟩
theorem lw_p28 : lw_okq (⟨"SandwichesSpeakModel", "isOf", "(II)Z"⟩, 41) := ⟨⟨by decide +kernel, by decide +kernel⟩, List.mem_of_getElem? (i := 671) (by decide +kernel), List.mem_of_getElem? (i := 810) (by decide +kernel), List.mem_of_getElem? (i := 811) (by decide +kernel)⟩
theorem lw_p29 : lw_okq (⟨"SandwichesSpeakModel", "isOne", "(I)Z"⟩, 41) := ⟨⟨by decide +kernel, by decide +kernel⟩, List.mem_of_getElem? (i := 671) (by decide +kernel), List.mem_of_getElem? (i := 820) (by decide +kernel), List.mem_of_getElem? (i := 821) (by decide +kernel)⟩
theorem lw_p30 : lw_okq (⟨"SandwichesSpeakModel", "get", "(II)I"⟩, 41) := ⟨⟨by decide +kernel, by decide +kernel⟩, List.mem_of_getElem? (i := 671) (by decide +kernel), List.mem_of_getElem? (i := 827) (by decide +kernel), List.mem_of_getElem? (i := 828) (by decide +kernel)⟩
theorem lw_p31 : lw_okq (⟨"SandwichesSpeakModel", "sent", "(I)I"⟩, 41) := ⟨⟨by decide +kernel, by decide +kernel⟩, List.mem_of_getElem? (i := 671) (by decide +kernel), List.mem_of_getElem? (i := 839) (by decide +kernel), List.mem_of_getElem? (i := 840) (by decide +kernel)⟩
def lw_privs_2 : List (MethodName × Nat) := [(⟨"SandwichesSpeak", "plainly", "(II)I"⟩, 9), (⟨"SandwichesSpeak$Family", "nameAll", "(IIIII)V"⟩, 12), (⟨"SandwichesSpeak$Family", "inlawSends", "(IZ)Z"⟩, 12), (⟨"SandwichesSpeak$Family", "cutsFor", "(III)Z"⟩, 12), (⟨"SandwichesSpeak$Family", "motherCuts", "(IIZ)Z"⟩, 12), (⟨"SandwichesSpeak", "areTwo", "(II)Z"⟩, 9), (⟨"SandwichesSpeak", "firstDead", "()I"⟩, 9), (⟨"SandwichesSpeak", "firstAgain", "(I)I"⟩, 9), (⟨"SandwichesSpeak", "gladAsItIs", "(I)I"⟩, 9), (⟨"SandwichesSpeak", "moodsSo", "(LSandwichesSpeak$Sheet;IZ)I"⟩, 9), (⟨"SandwichesSpeak", "bitsSo", "(LSandwichesSpeak$Sheet;II)I"⟩, 9), (⟨"SandwichesSpeakModel", "codes", "(I)V"⟩, 41), (⟨"SandwichesSpeakModel", "isOf", "(II)Z"⟩, 41), (⟨"SandwichesSpeakModel", "isOne", "(I)Z"⟩, 41), (⟨"SandwichesSpeakModel", "get", "(II)I"⟩, 41), (⟨"SandwichesSpeakModel", "sent", "(I)I"⟩, 41)]
theorem lw_r2 : ∀ q ∈ lw_privs_2, lw_okq q := List.forall_mem_cons.mpr ⟨lw_p16, List.forall_mem_cons.mpr ⟨lw_p17, List.forall_mem_cons.mpr ⟨lw_p18, List.forall_mem_cons.mpr ⟨lw_p19, List.forall_mem_cons.mpr ⟨lw_p20, List.forall_mem_cons.mpr ⟨lw_p21, List.forall_mem_cons.mpr ⟨lw_p22, List.forall_mem_cons.mpr ⟨lw_p23, List.forall_mem_cons.mpr ⟨lw_p24, List.forall_mem_cons.mpr ⟨lw_p25, List.forall_mem_cons.mpr ⟨lw_p26, List.forall_mem_cons.mpr ⟨lw_p27, List.forall_mem_cons.mpr ⟨lw_p28, List.forall_mem_cons.mpr ⟨lw_p29, List.forall_mem_cons.mpr ⟨lw_p30, List.forall_mem_cons.mpr ⟨lw_p31, fun _ h => absurd h List.not_mem_nil⟩⟩⟩⟩⟩⟩⟩⟩⟩⟩⟩⟩⟩⟩⟩⟩
theorem lw_p32 : lw_okq (⟨"SandwichesSpeakModel", "made", "(II)I"⟩, 41) := ⟨⟨by decide +kernel, by decide +kernel⟩, List.mem_of_getElem? (i := 671) (by decide +kernel), List.mem_of_getElem? (i := 843) (by decide +kernel), List.mem_of_getElem? (i := 844) (by decide +kernel)⟩
theorem lw_p33 : lw_okq (⟨"SandwichesSpeakModel", "sends", "(II)Z"⟩, 41) := ⟨⟨by decide +kernel, by decide +kernel⟩, List.mem_of_getElem? (i := 671) (by decide +kernel), List.mem_of_getElem? (i := 847) (by decide +kernel), List.mem_of_getElem? (i := 848) (by decide +kernel)⟩
theorem lw_p34 : lw_okq (⟨"SandwichesSpeakModel", "tellsOf", "(IIIII)V"⟩, 41) := ⟨⟨by decide +kernel, by decide +kernel⟩, List.mem_of_getElem? (i := 671) (by decide +kernel), List.mem_of_getElem? (i := 851) (by decide +kernel), List.mem_of_getElem? (i := 852) (by decide +kernel)⟩
theorem lw_p35 : lw_okq (⟨"SandwichesSpeakModel", "ruled", "(I)I"⟩, 41) := ⟨⟨by decide +kernel, by decide +kernel⟩, List.mem_of_getElem? (i := 671) (by decide +kernel), List.mem_of_getElem? (i := 855) (by decide +kernel), List.mem_of_getElem? (i := 856) (by decide +kernel)⟩
theorem lw_p36 : lw_okq (⟨"SandwichesSpeakModel", "cuts", "(III)Z"⟩, 41) := ⟨⟨by decide +kernel, by decide +kernel⟩, List.mem_of_getElem? (i := 671) (by decide +kernel), List.mem_of_getElem? (i := 862) (by decide +kernel), List.mem_of_getElem? (i := 863) (by decide +kernel)⟩
theorem lw_p37 : lw_okq (⟨"SandwichesSpeakModel", "gotten", "(I)I"⟩, 41) := ⟨⟨by decide +kernel, by decide +kernel⟩, List.mem_of_getElem? (i := 671) (by decide +kernel), List.mem_of_getElem? (i := 866) (by decide +kernel), List.mem_of_getElem? (i := 867) (by decide +kernel)⟩
theorem lw_p38 : lw_okq (⟨"SandwichesSpeakModel", "felt", "(I)I"⟩, 41) := ⟨⟨by decide +kernel, by decide +kernel⟩, List.mem_of_getElem? (i := 671) (by decide +kernel), List.mem_of_getElem? (i := 873) (by decide +kernel), List.mem_of_getElem? (i := 874) (by decide +kernel)⟩
theorem lw_p39 : lw_okq (⟨"SandwichesSpeakModel", "feltBy", "(III)I"⟩, 41) := ⟨⟨by decide +kernel, by decide +kernel⟩, List.mem_of_getElem? (i := 671) (by decide +kernel), List.mem_of_getElem? (i := 877) (by decide +kernel), List.mem_of_getElem? (i := 878) (by decide +kernel)⟩
theorem lw_p40 : lw_okq (⟨"SandwichesSpeakModel", "feels", "(III)I"⟩, 41) := ⟨⟨by decide +kernel, by decide +kernel⟩, List.mem_of_getElem? (i := 671) (by decide +kernel), List.mem_of_getElem? (i := 881) (by decide +kernel), List.mem_of_getElem? (i := 882) (by decide +kernel)⟩
theorem lw_p41 : lw_okq (⟨"SandwichesSpeakModel", "next", "()V"⟩, 41) := ⟨⟨by decide +kernel, by decide +kernel⟩, List.mem_of_getElem? (i := 671) (by decide +kernel), List.mem_of_getElem? (i := 896) (by decide +kernel), List.mem_of_getElem? (i := 897) (by decide +kernel)⟩
theorem lw_p42 : lw_okq (⟨"SandwichesSpeakModel", "named", "()I"⟩, 41) := ⟨⟨by decide +kernel, by decide +kernel⟩, List.mem_of_getElem? (i := 671) (by decide +kernel), List.mem_of_getElem? (i := 903) (by decide +kernel), List.mem_of_getElem? (i := 904) (by decide +kernel)⟩
theorem lw_p43 : lw_okq (⟨"SandwichesSpeakModel", "isKey", "()Z"⟩, 41) := ⟨⟨by decide +kernel, by decide +kernel⟩, List.mem_of_getElem? (i := 671) (by decide +kernel), List.mem_of_getElem? (i := 907) (by decide +kernel), List.mem_of_getElem? (i := 908) (by decide +kernel)⟩
theorem lw_p44 : lw_okq (⟨"SandwichesSpeakModel", "part", "(II)Z"⟩, 41) := ⟨⟨by decide +kernel, by decide +kernel⟩, List.mem_of_getElem? (i := 671) (by decide +kernel), List.mem_of_getElem? (i := 918) (by decide +kernel), List.mem_of_getElem? (i := 919) (by decide +kernel)⟩
theorem lw_p45 : lw_okq (⟨"SandwichesSpeakModel", "takes", "(I)Z"⟩, 41) := ⟨⟨by decide +kernel, by decide +kernel⟩, List.mem_of_getElem? (i := 671) (by decide +kernel), List.mem_of_getElem? (i := 922) (by decide +kernel), List.mem_of_getElem? (i := 923) (by decide +kernel)⟩
theorem lw_p46 : lw_okq (⟨"SandwichesSpeakModel", "goesOn", "()Z"⟩, 41) := ⟨⟨by decide +kernel, by decide +kernel⟩, List.mem_of_getElem? (i := 671) (by decide +kernel), List.mem_of_getElem? (i := 926) (by decide +kernel), List.mem_of_getElem? (i := 927) (by decide +kernel)⟩
theorem lw_p47 : lw_okq (⟨"SandwichesSpeakModel", "one", "(Z)Z"⟩, 41) := ⟨⟨by decide +kernel, by decide +kernel⟩, List.mem_of_getElem? (i := 671) (by decide +kernel), List.mem_of_getElem? (i := 930) (by decide +kernel), List.mem_of_getElem? (i := 931) (by decide +kernel)⟩
def lw_privs_3 : List (MethodName × Nat) := [(⟨"SandwichesSpeakModel", "made", "(II)I"⟩, 41), (⟨"SandwichesSpeakModel", "sends", "(II)Z"⟩, 41), (⟨"SandwichesSpeakModel", "tellsOf", "(IIIII)V"⟩, 41), (⟨"SandwichesSpeakModel", "ruled", "(I)I"⟩, 41), (⟨"SandwichesSpeakModel", "cuts", "(III)Z"⟩, 41), (⟨"SandwichesSpeakModel", "gotten", "(I)I"⟩, 41), (⟨"SandwichesSpeakModel", "felt", "(I)I"⟩, 41), (⟨"SandwichesSpeakModel", "feltBy", "(III)I"⟩, 41), (⟨"SandwichesSpeakModel", "feels", "(III)I"⟩, 41), (⟨"SandwichesSpeakModel", "next", "()V"⟩, 41), (⟨"SandwichesSpeakModel", "named", "()I"⟩, 41), (⟨"SandwichesSpeakModel", "isKey", "()Z"⟩, 41), (⟨"SandwichesSpeakModel", "part", "(II)Z"⟩, 41), (⟨"SandwichesSpeakModel", "takes", "(I)Z"⟩, 41), (⟨"SandwichesSpeakModel", "goesOn", "()Z"⟩, 41), (⟨"SandwichesSpeakModel", "one", "(Z)Z"⟩, 41)]
theorem lw_r3 : ∀ q ∈ lw_privs_3, lw_okq q := List.forall_mem_cons.mpr ⟨lw_p32, List.forall_mem_cons.mpr ⟨lw_p33, List.forall_mem_cons.mpr ⟨lw_p34, List.forall_mem_cons.mpr ⟨lw_p35, List.forall_mem_cons.mpr ⟨lw_p36, List.forall_mem_cons.mpr ⟨lw_p37, List.forall_mem_cons.mpr ⟨lw_p38, List.forall_mem_cons.mpr ⟨lw_p39, List.forall_mem_cons.mpr ⟨lw_p40, List.forall_mem_cons.mpr ⟨lw_p41, List.forall_mem_cons.mpr ⟨lw_p42, List.forall_mem_cons.mpr ⟨lw_p43, List.forall_mem_cons.mpr ⟨lw_p44, List.forall_mem_cons.mpr ⟨lw_p45, List.forall_mem_cons.mpr ⟨lw_p46, List.forall_mem_cons.mpr ⟨lw_p47, fun _ h => absurd h List.not_mem_nil⟩⟩⟩⟩⟩⟩⟩⟩⟩⟩⟩⟩⟩⟩⟩⟩
theorem lw_p48 : lw_okq (⟨"SandwichesSpeakModel", "lays", "(I)V"⟩, 41) := ⟨⟨by decide +kernel, by decide +kernel⟩, List.mem_of_getElem? (i := 671) (by decide +kernel), List.mem_of_getElem? (i := 934) (by decide +kernel), List.mem_of_getElem? (i := 935) (by decide +kernel)⟩
theorem lw_p49 : lw_okq (⟨"SandwichesSpeakModel", "push", "(I)V"⟩, 41) := ⟨⟨by decide +kernel, by decide +kernel⟩, List.mem_of_getElem? (i := 671) (by decide +kernel), List.mem_of_getElem? (i := 941) (by decide +kernel), List.mem_of_getElem? (i := 942) (by decide +kernel)⟩
theorem lw_p50 : lw_okq (⟨"SandwichesSpeakModel", "closes", "()Z"⟩, 41) := ⟨⟨by decide +kernel, by decide +kernel⟩, List.mem_of_getElem? (i := 671) (by decide +kernel), List.mem_of_getElem? (i := 945) (by decide +kernel), List.mem_of_getElem? (i := 946) (by decide +kernel)⟩
theorem lw_p51 : lw_okq (⟨"SandwichesSpeakModel", "signed", "()I"⟩, 41) := ⟨⟨by decide +kernel, by decide +kernel⟩, List.mem_of_getElem? (i := 671) (by decide +kernel), List.mem_of_getElem? (i := 949) (by decide +kernel), List.mem_of_getElem? (i := 950) (by decide +kernel)⟩
theorem lw_p52 : lw_okq (⟨"SandwichesSpeakModel", "areTwo", "(II)Z"⟩, 41) := ⟨⟨by decide +kernel, by decide +kernel⟩, List.mem_of_getElem? (i := 671) (by decide +kernel), List.mem_of_getElem? (i := 963) (by decide +kernel), List.mem_of_getElem? (i := 964) (by decide +kernel)⟩
theorem lw_p53 : lw_okq (⟨"SandwichesSpeakModel", "passes", "()V"⟩, 41) := ⟨⟨by decide +kernel, by decide +kernel⟩, List.mem_of_getElem? (i := 671) (by decide +kernel), List.mem_of_getElem? (i := 971) (by decide +kernel), List.mem_of_getElem? (i := 972) (by decide +kernel)⟩
theorem lw_p54 : lw_okq (⟨"SandwichesSpeakModel", "glad", "()I"⟩, 41) := ⟨⟨by decide +kernel, by decide +kernel⟩, List.mem_of_getElem? (i := 671) (by decide +kernel), List.mem_of_getElem? (i := 975) (by decide +kernel), List.mem_of_getElem? (i := 976) (by decide +kernel)⟩
theorem lw_p55 : lw_okq (⟨"SandwichesSpeakModel", "runs", "(I)V"⟩, 41) := ⟨⟨by decide +kernel, by decide +kernel⟩, List.mem_of_getElem? (i := 671) (by decide +kernel), List.mem_of_getElem? (i := 983) (by decide +kernel), List.mem_of_getElem? (i := 984) (by decide +kernel)⟩
theorem lw_p56 : lw_okq (⟨"SandwichesSpeakModel", "keeps", "()V"⟩, 41) := ⟨⟨by decide +kernel, by decide +kernel⟩, List.mem_of_getElem? (i := 671) (by decide +kernel), List.mem_of_getElem? (i := 987) (by decide +kernel), List.mem_of_getElem? (i := 988) (by decide +kernel)⟩
theorem lw_p57 : lw_okq (⟨"SandwichesSpeakModel", "restores", "()V"⟩, 41) := ⟨⟨by decide +kernel, by decide +kernel⟩, List.mem_of_getElem? (i := 671) (by decide +kernel), List.mem_of_getElem? (i := 991) (by decide +kernel), List.mem_of_getElem? (i := 992) (by decide +kernel)⟩
theorem lw_p58 : lw_okq (⟨"SandwichesSpeakModel", "remembers", "()V"⟩, 41) := ⟨⟨by decide +kernel, by decide +kernel⟩, List.mem_of_getElem? (i := 671) (by decide +kernel), List.mem_of_getElem? (i := 999) (by decide +kernel), List.mem_of_getElem? (i := 1000) (by decide +kernel)⟩
theorem lw_p59 : lw_okq (⟨"SandwichesSpeakModel", "isAlike", "(II)Z"⟩, 41) := ⟨⟨by decide +kernel, by decide +kernel⟩, List.mem_of_getElem? (i := 671) (by decide +kernel), List.mem_of_getElem? (i := 1003) (by decide +kernel), List.mem_of_getElem? (i := 1004) (by decide +kernel)⟩
theorem lw_p60 : lw_okq (⟨"SandwichesSpeakModel", "lettuce", "(I)I"⟩, 41) := ⟨⟨by decide +kernel, by decide +kernel⟩, List.mem_of_getElem? (i := 671) (by decide +kernel), List.mem_of_getElem? (i := 1011) (by decide +kernel), List.mem_of_getElem? (i := 1012) (by decide +kernel)⟩
theorem lw_p61 : lw_okq (⟨"SandwichesSpeakModel", "left", "()I"⟩, 41) := ⟨⟨by decide +kernel, by decide +kernel⟩, List.mem_of_getElem? (i := 671) (by decide +kernel), List.mem_of_getElem? (i := 1015) (by decide +kernel), List.mem_of_getElem? (i := 1016) (by decide +kernel)⟩
theorem lw_p62 : lw_okq (⟨"SandwichesSpeakModel", "gladBehind", "(I)I"⟩, 41) := ⟨⟨by decide +kernel, by decide +kernel⟩, List.mem_of_getElem? (i := 671) (by decide +kernel), List.mem_of_getElem? (i := 1023) (by decide +kernel), List.mem_of_getElem? (i := 1024) (by decide +kernel)⟩
theorem lw_p63 : lw_okq (⟨"SandwichesSpeakModel", "wrong", "(II)I"⟩, 41) := ⟨⟨by decide +kernel, by decide +kernel⟩, List.mem_of_getElem? (i := 671) (by decide +kernel), List.mem_of_getElem? (i := 1046) (by decide +kernel), List.mem_of_getElem? (i := 1047) (by decide +kernel)⟩
def lw_privs_4 : List (MethodName × Nat) := [(⟨"SandwichesSpeakModel", "lays", "(I)V"⟩, 41), (⟨"SandwichesSpeakModel", "push", "(I)V"⟩, 41), (⟨"SandwichesSpeakModel", "closes", "()Z"⟩, 41), (⟨"SandwichesSpeakModel", "signed", "()I"⟩, 41), (⟨"SandwichesSpeakModel", "areTwo", "(II)Z"⟩, 41), (⟨"SandwichesSpeakModel", "passes", "()V"⟩, 41), (⟨"SandwichesSpeakModel", "glad", "()I"⟩, 41), (⟨"SandwichesSpeakModel", "runs", "(I)V"⟩, 41), (⟨"SandwichesSpeakModel", "keeps", "()V"⟩, 41), (⟨"SandwichesSpeakModel", "restores", "()V"⟩, 41), (⟨"SandwichesSpeakModel", "remembers", "()V"⟩, 41), (⟨"SandwichesSpeakModel", "isAlike", "(II)Z"⟩, 41), (⟨"SandwichesSpeakModel", "lettuce", "(I)I"⟩, 41), (⟨"SandwichesSpeakModel", "left", "()I"⟩, 41), (⟨"SandwichesSpeakModel", "gladBehind", "(I)I"⟩, 41), (⟨"SandwichesSpeakModel", "wrong", "(II)I"⟩, 41)]
theorem lw_r4 : ∀ q ∈ lw_privs_4, lw_okq q := List.forall_mem_cons.mpr ⟨lw_p48, List.forall_mem_cons.mpr ⟨lw_p49, List.forall_mem_cons.mpr ⟨lw_p50, List.forall_mem_cons.mpr ⟨lw_p51, List.forall_mem_cons.mpr ⟨lw_p52, List.forall_mem_cons.mpr ⟨lw_p53, List.forall_mem_cons.mpr ⟨lw_p54, List.forall_mem_cons.mpr ⟨lw_p55, List.forall_mem_cons.mpr ⟨lw_p56, List.forall_mem_cons.mpr ⟨lw_p57, List.forall_mem_cons.mpr ⟨lw_p58, List.forall_mem_cons.mpr ⟨lw_p59, List.forall_mem_cons.mpr ⟨lw_p60, List.forall_mem_cons.mpr ⟨lw_p61, List.forall_mem_cons.mpr ⟨lw_p62, List.forall_mem_cons.mpr ⟨lw_p63, fun _ h => absurd h List.not_mem_nil⟩⟩⟩⟩⟩⟩⟩⟩⟩⟩⟩⟩⟩⟩⟩⟩
theorem lw_p64 : lw_okq (⟨"SandwichesSpeakModel", "kindsSo", "(II)I"⟩, 41) := ⟨⟨by decide +kernel, by decide +kernel⟩, List.mem_of_getElem? (i := 671) (by decide +kernel), List.mem_of_getElem? (i := 1050) (by decide +kernel), List.mem_of_getElem? (i := 1051) (by decide +kernel)⟩
theorem lw_p65 : lw_okq (⟨"SandwichesSpeakModel", "numbersSo", "(II)I"⟩, 41) := ⟨⟨by decide +kernel, by decide +kernel⟩, List.mem_of_getElem? (i := 671) (by decide +kernel), List.mem_of_getElem? (i := 1054) (by decide +kernel), List.mem_of_getElem? (i := 1055) (by decide +kernel)⟩
theorem lw_p66 : lw_okq (⟨"SandwichesSpeakModel", "moodsSo", "(III)I"⟩, 41) := ⟨⟨by decide +kernel, by decide +kernel⟩, List.mem_of_getElem? (i := 671) (by decide +kernel), List.mem_of_getElem? (i := 1058) (by decide +kernel), List.mem_of_getElem? (i := 1059) (by decide +kernel)⟩
theorem lw_p67 : lw_okq (⟨"SandwichesSpeakModel", "textsSo", "(II)I"⟩, 41) := ⟨⟨by decide +kernel, by decide +kernel⟩, List.mem_of_getElem? (i := 671) (by decide +kernel), List.mem_of_getElem? (i := 1062) (by decide +kernel), List.mem_of_getElem? (i := 1063) (by decide +kernel)⟩
theorem lw_p68 : lw_okq (⟨"SandwichesSpeakModel", "byLot", "(I)I"⟩, 41) := ⟨⟨by decide +kernel, by decide +kernel⟩, List.mem_of_getElem? (i := 671) (by decide +kernel), List.mem_of_getElem? (i := 1078) (by decide +kernel), List.mem_of_getElem? (i := 1079) (by decide +kernel)⟩
def lw_privs_5 : List (MethodName × Nat) := [(⟨"SandwichesSpeakModel", "kindsSo", "(II)I"⟩, 41), (⟨"SandwichesSpeakModel", "numbersSo", "(II)I"⟩, 41), (⟨"SandwichesSpeakModel", "moodsSo", "(III)I"⟩, 41), (⟨"SandwichesSpeakModel", "textsSo", "(II)I"⟩, 41), (⟨"SandwichesSpeakModel", "byLot", "(I)I"⟩, 41)]
theorem lw_r5 : ∀ q ∈ lw_privs_5, lw_okq q := List.forall_mem_cons.mpr ⟨lw_p64, List.forall_mem_cons.mpr ⟨lw_p65, List.forall_mem_cons.mpr ⟨lw_p66, List.forall_mem_cons.mpr ⟨lw_p67, List.forall_mem_cons.mpr ⟨lw_p68, fun _ h => absurd h List.not_mem_nil⟩⟩⟩⟩⟩
def lw_privs : List (MethodName × Nat) := lw_privs_1 ++ (lw_privs_2 ++ (lw_privs_3 ++ (lw_privs_4 ++ (lw_privs_5))))
def lw_tbl : List Cond := k2_sels lw_privs ++ tables_1
theorem lw_privs_ok : ∀ q ∈ lw_privs, lw_okq q := by
  show ∀ q ∈ lw_privs_1 ++ (lw_privs_2 ++ (lw_privs_3 ++ (lw_privs_4 ++ (lw_privs_5)))), lw_okq q
  exact List.forall_mem_append.mpr ⟨lw_r1, List.forall_mem_append.mpr ⟨lw_r2, List.forall_mem_append.mpr ⟨lw_r3, List.forall_mem_append.mpr ⟨lw_r4, lw_r5⟩⟩⟩⟩
def RX0 : String := "SandwichesSpeak$Family"
def TX0 : u_T := fun k => match k with
  | 0 => ("SandwichesSpeak$Family", "kinds", "[I", true)
  | 1 => ("SandwichesSpeak$Family", "numbers", "[I", true)
  | 2 => ("SandwichesSpeak$Family", "moods", "[I", true)
  | 3 => ("SandwichesSpeak$Family", "felt", "[I", true)
  | 4 => ("SandwichesSpeak$Family", "size", "I", false)
  | 5 => ("SandwichesSpeak$Family", "used", "I", false)
  | 6 => ("SandwichesSpeak$Family", "sunday", "I", false)
  | 7 => ("SandwichesSpeak$Family", "rule", "I", false)
  | 8 => ("SandwichesSpeak$Family", "leftOut", "I", false)
  | 9 => ("SandwichesSpeak$Family", "texts", "[LSandwichesSpeak$Text;", true)
  | 10 => ("SandwichesSpeak$Family", "names", "[I", true)
  | _ => ("SandwichesSpeak$Family", "stack", "[I", true)
def tyX0 : Nat → FieldType := fun k => match k with
  | 0 => .array .int
  | 1 => .array .int
  | 2 => .array .int
  | 3 => .array .int
  | 4 => .int
  | 5 => .int
  | 6 => .int
  | 7 => .int
  | 8 => .int
  | 9 => .array (.object "SandwichesSpeak$Text")
  | 10 => .array .int
  | _ => .array .int
theorem nmX0 : ∀ a, a < 12 → ∀ b, b < 12 → a ≠ b → (TX0 a).2.1 ≠ (TX0 b).2.1 := by decide +kernel
theorem tyX0_ok : ∀ k, k < 12 → parseFieldDescriptor (TX0 k).2.2.1 = some (tyX0 k) := by decide +kernel
abbrev cX0_init : ByteArray := prog_2_method_1_code
def yX0_init : MethodName := ⟨RX0, "<init>", "([LSandwichesSpeak$Text;)V"⟩
abbrev cX0_becomeLike : ByteArray := prog_2_method_2_code
def yX0_becomeLike : MethodName := ⟨RX0, "becomeLike", "(LSandwichesSpeak$Family;)V"⟩
abbrev cX0_takeIn : ByteArray := prog_2_method_3_code
def yX0_takeIn : MethodName := ⟨RX0, "takeIn", "(II)I"⟩
abbrev cX0_glad : ByteArray := prog_2_method_4_code
def yX0_glad : MethodName := ⟨RX0, "glad", "()I"⟩
abbrev cX0_allMoods : ByteArray := prog_2_method_5_code
def yX0_allMoods : MethodName := ⟨RX0, "allMoods", "()I"⟩
abbrev cX0_drawMoods : ByteArray := prog_2_method_6_code
def yX0_drawMoods : MethodName := ⟨RX0, "drawMoods", "(I)V"⟩
abbrev cX0_sendsTo : ByteArray := prog_2_method_7_code
def yX0_sendsTo : MethodName := ⟨RX0, "sendsTo", "(II)Z"⟩
abbrev cX0_inlawSends : ByteArray := prog_2_method_8_code
def yX0_inlawSends : MethodName := ⟨RX0, "inlawSends", "(IZ)Z"⟩
abbrev cX0_layersOf : ByteArray := prog_2_method_9_code
def yX0_layersOf : MethodName := ⟨RX0, "layersOf", "(II)I"⟩
abbrev cX0_cutsFor : ByteArray := prog_2_method_10_code
def yX0_cutsFor : MethodName := ⟨RX0, "cutsFor", "(III)Z"⟩
abbrev cX0_motherCuts : ByteArray := prog_2_method_11_code
def yX0_motherCuts : MethodName := ⟨RX0, "motherCuts", "(IIZ)Z"⟩
abbrev cX0_inlawCuts : ByteArray := prog_2_method_12_code
def yX0_inlawCuts : MethodName := ⟨RX0, "inlawCuts", "(IZ)Z"⟩
abbrev cX0_feelsBy : ByteArray := prog_2_method_13_code
def yX0_feelsBy : MethodName := ⟨RX0, "feelsBy", "(III)I"⟩
abbrev cX0_nameAll : ByteArray := prog_2_method_14_code
def yX0_nameAll : MethodName := ⟨RX0, "nameAll", "(IIIII)V"⟩
abbrev cX0_feltFrom : ByteArray := prog_2_method_15_code
def yX0_feltFrom : MethodName := ⟨RX0, "feltFrom", "(II)I"⟩
abbrev cX0_passSunday : ByteArray := prog_2_method_16_code
def yX0_passSunday : MethodName := ⟨RX0, "passSunday", "()Z"⟩
abbrev cX0_gladBehind : ByteArray := prog_2_method_17_code
def yX0_gladBehind : MethodName := ⟨RX0, "gladBehind", "(I)I"⟩
abbrev cX0_emptyBehind : ByteArray := prog_2_method_18_code
def yX0_emptyBehind : MethodName := ⟨RX0, "emptyBehind", "(I)I"⟩
abbrev cX0_firstOtherwise : ByteArray := prog_2_method_19_code
def yX0_firstOtherwise : MethodName := ⟨RX0, "firstOtherwise", "(LSandwichesSpeak$Sheet;I)I"⟩
abbrev cX0_filledFrom : ByteArray := prog_2_method_20_code
def yX0_filledFrom : MethodName := ⟨RX0, "filledFrom", "(I)I"⟩
abbrev cX0_layersTo : ByteArray := prog_2_method_21_code
def yX0_layersTo : MethodName := ⟨RX0, "layersTo", "(I)I"⟩
abbrev cX0_lettuceCount : ByteArray := prog_2_method_22_code
def yX0_lettuceCount : MethodName := ⟨RX0, "lettuceCount", "()I"⟩
abbrev cX0_lettuceFirst : ByteArray := prog_2_method_23_code
def yX0_lettuceFirst : MethodName := ⟨RX0, "lettuceFirst", "()I"⟩
abbrev cX0_leftAlone : ByteArray := prog_2_method_24_code
def yX0_leftAlone : MethodName := ⟨RX0, "leftAlone", "()I"⟩
def RX1 : String := "SandwichesSpeak$Reader"
def TX1 : u_T := fun k => match k with
  | 0 => ("SandwichesSpeak$Reader", "size", "I", false)
  | 1 => ("SandwichesSpeak$Reader", "tape", "[I", true)
  | 2 => ("SandwichesSpeak$Reader", "into", "LSandwichesSpeak$Text;", false)
  | 3 => ("SandwichesSpeak$Reader", "place", "I", false)
  | 4 => ("SandwichesSpeak$Reader", "start", "I", false)
  | 5 => ("SandwichesSpeak$Reader", "token", "I", false)
  | 6 => ("SandwichesSpeak$Reader", "value", "I", false)
  | 7 => ("SandwichesSpeak$Reader", "open", "I", false)
  | _ => ("SandwichesSpeak$Reader", "fault", "I", false)
def tyX1 : Nat → FieldType := fun k => match k with
  | 0 => .int
  | 1 => .array .int
  | 2 => .object "SandwichesSpeak$Text"
  | 3 => .int
  | 4 => .int
  | 5 => .int
  | 6 => .int
  | 7 => .int
  | _ => .int
theorem nmX1 : ∀ a, a < 9 → ∀ b, b < 9 → a ≠ b → (TX1 a).2.1 ≠ (TX1 b).2.1 := by decide +kernel
theorem tyX1_ok : ∀ k, k < 9 → parseFieldDescriptor (TX1 k).2.2.1 = some (tyX1 k) := by decide +kernel
abbrev cX1_init : ByteArray := prog_3_method_1_code
def yX1_init : MethodName := ⟨RX1, "<init>", "()V"⟩
abbrev cX1_takeByte : ByteArray := prog_3_method_2_code
def yX1_takeByte : MethodName := ⟨RX1, "takeByte", "(I)Z"⟩
abbrev cX1_readInto : ByteArray := prog_3_method_3_code
def yX1_readInto : MethodName := ⟨RX1, "readInto", "(LSandwichesSpeak$Text;)I"⟩
abbrev cX1_pass : ByteArray := prog_3_method_4_code
def yX1_pass : MethodName := ⟨RX1, "pass", "(I)V"⟩
abbrev cX1_fail : ByteArray := prog_3_method_5_code
def yX1_fail : MethodName := ⟨RX1, "fail", "()V"⟩
abbrev cX1_readOr : ByteArray := prog_3_method_6_code
def yX1_readOr : MethodName := ⟨RX1, "readOr", "()V"⟩
abbrev cX1_readAnd : ByteArray := prog_3_method_7_code
def yX1_readAnd : MethodName := ⟨RX1, "readAnd", "()V"⟩
abbrev cX1_readNot : ByteArray := prog_3_method_8_code
def yX1_readNot : MethodName := ⟨RX1, "readNot", "()V"⟩
abbrev cX1_readCompared : ByteArray := prog_3_method_9_code
def yX1_readCompared : MethodName := ⟨RX1, "readCompared", "()V"⟩
abbrev cX1_readSum : ByteArray := prog_3_method_10_code
def yX1_readSum : MethodName := ⟨RX1, "readSum", "()V"⟩
abbrev cX1_readTerm : ByteArray := prog_3_method_11_code
def yX1_readTerm : MethodName := ⟨RX1, "readTerm", "()V"⟩
abbrev cX1_readOne : ByteArray := prog_3_method_12_code
def yX1_readOne : MethodName := ⟨RX1, "readOne", "()V"⟩
abbrev cX1_opens : ByteArray := prog_3_method_13_code
def yX1_opens : MethodName := ⟨RX1, "opens", "()Z"⟩
abbrev cX1_readToken : ByteArray := prog_3_method_14_code
def yX1_readToken : MethodName := ⟨RX1, "readToken", "()V"⟩
abbrev cX1_readNumeral : ByteArray := prog_3_method_15_code
def yX1_readNumeral : MethodName := ⟨RX1, "readNumeral", "()V"⟩
abbrev cX1_readWord : ByteArray := prog_3_method_16_code
def yX1_readWord : MethodName := ⟨RX1, "readWord", "()V"⟩
abbrev cX1_wordNumber : ByteArray := prog_3_method_17_code
def yX1_wordNumber : MethodName := ⟨RX1, "wordNumber", "()I"⟩
def RX2 : String := "SandwichesSpeak$Sheet"
def TX2 : u_T := fun k => match k with
  | 0 => ("SandwichesSpeak$Sheet", "items", "[I", true)
  | 1 => ("SandwichesSpeak$Sheet", "sort", "I", false)
  | _ => ("SandwichesSpeak$Sheet", "size", "I", false)
def tyX2 : Nat → FieldType := fun k => match k with
  | 0 => .array .int
  | 1 => .int
  | _ => .int
theorem nmX2 : ∀ a, a < 3 → ∀ b, b < 3 → a ≠ b → (TX2 a).2.1 ≠ (TX2 b).2.1 := by decide +kernel
theorem tyX2_ok : ∀ k, k < 3 → parseFieldDescriptor (TX2 k).2.2.1 = some (tyX2 k) := by decide +kernel
abbrev cX2_init : ByteArray := prog_4_method_1_code
def yX2_init : MethodName := ⟨RX2, "<init>", "()V"⟩
abbrev cX2_isMissing : ByteArray := prog_4_method_2_code
def yX2_isMissing : MethodName := ⟨RX2, "isMissing", "()Z"⟩
abbrev cX2_clear : ByteArray := prog_4_method_3_code
def yX2_clear : MethodName := ⟨RX2, "clear", "(II)V"⟩
abbrev cX2_hasItem : ByteArray := prog_4_method_4_code
def yX2_hasItem : MethodName := ⟨RX2, "hasItem", "(I)Z"⟩
abbrev cX2_hasPiece : ByteArray := prog_4_method_5_code
def yX2_hasPiece : MethodName := ⟨RX2, "hasPiece", "(II)Z"⟩
abbrev cX2_put : ByteArray := prog_4_method_6_code
def yX2_put : MethodName := ⟨RX2, "put", "(II)V"⟩
def RX3 : String := "SandwichesSpeak$Text"
def TX3 : u_T := fun k => match k with
  | 0 => ("SandwichesSpeak$Text", "steps", "[I", true)
  | 1 => ("SandwichesSpeak$Text", "begins", "[I", true)
  | _ => ("SandwichesSpeak$Text", "size", "I", false)
def tyX3 : Nat → FieldType := fun k => match k with
  | 0 => .array .int
  | 1 => .array .int
  | _ => .int
theorem nmX3 : ∀ a, a < 3 → ∀ b, b < 3 → a ≠ b → (TX3 a).2.1 ≠ (TX3 b).2.1 := by decide +kernel
theorem tyX3_ok : ∀ k, k < 3 → parseFieldDescriptor (TX3 k).2.2.1 = some (tyX3 k) := by decide +kernel
abbrev cX3_init : ByteArray := prog_5_method_1_code
def yX3_init : MethodName := ⟨RX3, "<init>", "()V"⟩
abbrev cX3_empty : ByteArray := prog_5_method_2_code
def yX3_empty : MethodName := ⟨RX3, "empty", "()V"⟩
abbrev cX3_beginPart : ByteArray := prog_5_method_3_code
def yX3_beginPart : MethodName := ⟨RX3, "beginPart", "(I)V"⟩
abbrev cX3_takeStep : ByteArray := prog_5_method_4_code
def yX3_takeStep : MethodName := ⟨RX3, "takeStep", "(I)V"⟩
abbrev cX3_valueOf : ByteArray := prog_5_method_5_code
def yX3_valueOf : MethodName := ⟨RX3, "valueOf", "(I[I[I)I"⟩
def RX4 : String := "SandwichesSpeak"
def TX4 : u_T := fun k => match k with
  | 0 => ("SandwichesSpeak", "texts", "[LSandwichesSpeak$Text;", true)
  | 1 => ("SandwichesSpeak", "sheets", "[LSandwichesSpeak$Sheet;", true)
  | 2 => ("SandwichesSpeak", "reader", "LSandwichesSpeak$Reader;", true)
  | 3 => ("SandwichesSpeak", "family", "LSandwichesSpeak$Family;", true)
  | 4 => ("SandwichesSpeak", "thought", "LSandwichesSpeak$Family;", true)
  | 5 => ("SandwichesSpeak", "kept", "LSandwichesSpeak$Family;", true)
  | 6 => ("SandwichesSpeak", "past", "[I", true)
  | 7 => ("SandwichesSpeak", "textCount", "I", false)
  | _ => ("SandwichesSpeak", "isKept", "Z", false)
def tyX4 : Nat → FieldType := fun k => match k with
  | 0 => .array (.object "SandwichesSpeak$Text")
  | 1 => .array (.object "SandwichesSpeak$Sheet")
  | 2 => .object "SandwichesSpeak$Reader"
  | 3 => .object "SandwichesSpeak$Family"
  | 4 => .object "SandwichesSpeak$Family"
  | 5 => .object "SandwichesSpeak$Family"
  | 6 => .array .int
  | 7 => .int
  | _ => .boolean
theorem nmX4 : ∀ a, a < 9 → ∀ b, b < 9 → a ≠ b → (TX4 a).2.1 ≠ (TX4 b).2.1 := by decide +kernel
theorem tyX4_ok : ∀ k, k < 9 → parseFieldDescriptor (TX4 k).2.2.1 = some (tyX4 k) := by decide +kernel
abbrev cX4_init : ByteArray := prog_1_method_1_code
def yX4_init : MethodName := ⟨RX4, "<init>", "()V"⟩
abbrev cX4_set : ByteArray := prog_1_method_2_code
def yX4_set : MethodName := ⟨RX4, "set", "(III)I"⟩
abbrev cX4_person : ByteArray := prog_1_method_3_code
def yX4_person : MethodName := ⟨RX4, "person", "(II)I"⟩
abbrev cX4_told : ByteArray := prog_1_method_4_code
def yX4_told : MethodName := ⟨RX4, "told", "(II)I"⟩
abbrev cX4_isThere : ByteArray := prog_1_method_5_code
def yX4_isThere : MethodName := ⟨RX4, "isThere", "(II)Z"⟩
abbrev cX4_fits : ByteArray := prog_1_method_6_code
def yX4_fits : MethodName := ⟨RX4, "fits", "(II)Z"⟩
abbrev cX4_plainly : ByteArray := prog_1_method_7_code
def yX4_plainly : MethodName := ⟨RX4, "plainly", "(II)I"⟩
abbrev cX4_isPerson : ByteArray := prog_1_method_8_code
def yX4_isPerson : MethodName := ⟨RX4, "isPerson", "(I)Z"⟩
abbrev cX4_areTwo : ByteArray := prog_1_method_9_code
def yX4_areTwo : MethodName := ⟨RX4, "areTwo", "(II)Z"⟩
abbrev cX4_isIn : ByteArray := prog_1_method_10_code
def yX4_isIn : MethodName := ⟨RX4, "isIn", "(III)Z"⟩
abbrev cX4_feed : ByteArray := prog_1_method_11_code
def yX4_feed : MethodName := ⟨RX4, "feed", "(I)I"⟩
abbrev cX4_text : ByteArray := prog_1_method_12_code
def yX4_text : MethodName := ⟨RX4, "text", "()I"⟩
abbrev cX4_force : ByteArray := prog_1_method_13_code
def yX4_force : MethodName := ⟨RX4, "force", "(I)I"⟩
abbrev cX4_sandwich : ByteArray := prog_1_method_14_code
def yX4_sandwich : MethodName := ⟨RX4, "sandwich", "(III)I"⟩
abbrev cX4_sunday : ByteArray := prog_1_method_15_code
def yX4_sunday : MethodName := ⟨RX4, "sunday", "()I"⟩
abbrev cX4_run : ByteArray := prog_1_method_16_code
def yX4_run : MethodName := ⟨RX4, "run", "(II)I"⟩
abbrev cX4_again : ByteArray := prog_1_method_17_code
def yX4_again : MethodName := ⟨RX4, "again", "(I)I"⟩
abbrev cX4_firstDead : ByteArray := prog_1_method_18_code
def yX4_firstDead : MethodName := ⟨RX4, "firstDead", "()I"⟩
abbrev cX4_firstAgain : ByteArray := prog_1_method_19_code
def yX4_firstAgain : MethodName := ⟨RX4, "firstAgain", "(I)I"⟩
abbrev cX4_all : ByteArray := prog_1_method_20_code
def yX4_all : MethodName := ⟨RX4, "all", "(I)I"⟩
abbrev cX4_best : ByteArray := prog_1_method_21_code
def yX4_best : MethodName := ⟨RX4, "best", "(III)I"⟩
abbrev cX4_leaveOut : ByteArray := prog_1_method_22_code
def yX4_leaveOut : MethodName := ⟨RX4, "leaveOut", "(II)I"⟩
abbrev cX4_spare : ByteArray := prog_1_method_23_code
def yX4_spare : MethodName := ⟨RX4, "spare", "(II)I"⟩
abbrev cX4_gladAsItIs : ByteArray := prog_1_method_24_code
def yX4_gladAsItIs : MethodName := ⟨RX4, "gladAsItIs", "(I)I"⟩
abbrev cX4_add : ByteArray := prog_1_method_25_code
def yX4_add : MethodName := ⟨RX4, "add", "(III)I"⟩
abbrev cX4_bounded : ByteArray := prog_1_method_26_code
def yX4_bounded : MethodName := ⟨RX4, "bounded", "(I)I"⟩
abbrev cX4_tells : ByteArray := prog_1_method_27_code
def yX4_tells : MethodName := ⟨RX4, "tells", "(III)I"⟩
abbrev cX4_bitsSo : ByteArray := prog_1_method_28_code
def yX4_bitsSo : MethodName := ⟨RX4, "bitsSo", "(LSandwichesSpeak$Sheet;II)I"⟩
abbrev cX4_moodsSo : ByteArray := prog_1_method_29_code
def yX4_moodsSo : MethodName := ⟨RX4, "moodsSo", "(LSandwichesSpeak$Sheet;IZ)I"⟩
abbrev cX4_film : ByteArray := prog_1_method_30_code
def yX4_film : MethodName := ⟨RX4, "film", "(III)I"⟩
abbrev cX4_drawn : ByteArray := prog_1_method_31_code
def yX4_drawn : MethodName := ⟨RX4, "drawn", "(I)I"⟩
abbrev cX4_chance : ByteArray := prog_1_method_32_code
def yX4_chance : MethodName := ⟨RX4, "chance", "(IIII)J"⟩
abbrev cX4_sharedDivisor : ByteArray := prog_1_method_33_code
def yX4_sharedDivisor : MethodName := ⟨RX4, "sharedDivisor", "(II)I"⟩
abbrev cX4_image : ByteArray := prog_1_method_34_code
def yX4_image : MethodName := ⟨RX4, "image", "()I"⟩
abbrev cX4_back : ByteArray := prog_1_method_35_code
def yX4_back : MethodName := ⟨RX4, "back", "()I"⟩
abbrev cX4_count : ByteArray := prog_1_method_36_code
def yX4_count : MethodName := ⟨RX4, "count", "(I)I"⟩
abbrev cX4_sheet : ByteArray := prog_1_method_37_code
def yX4_sheet : MethodName := ⟨RX4, "sheet", "(III)I"⟩
abbrev cX4_cell : ByteArray := prog_1_method_38_code
def yX4_cell : MethodName := ⟨RX4, "cell", "(III)I"⟩
abbrev cX4_copy : ByteArray := prog_1_method_39_code
def yX4_copy : MethodName := ⟨RX4, "copy", "(IIIII)I"⟩
abbrev cX4_people : ByteArray := prog_1_method_40_code
def yX4_people : MethodName := ⟨RX4, "people", "(IIII)I"⟩
abbrev cX4_taken : ByteArray := prog_1_method_41_code
def yX4_taken : MethodName := ⟨RX4, "taken", "(II)I"⟩
abbrev cX4_isSheet : ByteArray := prog_1_method_42_code
def yX4_isSheet : MethodName := ⟨RX4, "isSheet", "(I)Z"⟩
def RX5 : String := "SandwichesSpeakModel"
def TX5 : u_T := fun k => match k with
  | 0 => ("SandwichesSpeakModel", "day", "I", false)
  | 1 => ("SandwichesSpeakModel", "used", "[Z", true)
  | 2 => ("SandwichesSpeakModel", "many", "I", false)
  | 3 => ("SandwichesSpeakModel", "kind", "[I", true)
  | 4 => ("SandwichesSpeakModel", "number", "[I", true)
  | 5 => ("SandwichesSpeakModel", "mood", "[I", true)
  | 6 => ("SandwichesSpeakModel", "rule", "I", false)
  | 7 => ("SandwichesSpeakModel", "taped", "I", false)
  | 8 => ("SandwichesSpeakModel", "tape", "[I", true)
  | 9 => ("SandwichesSpeakModel", "texts", "I", false)
  | 10 => ("SandwichesSpeakModel", "begins", "[I", true)
  | 11 => ("SandwichesSpeakModel", "length", "[I", true)
  | 12 => ("SandwichesSpeakModel", "code", "[I", true)
  | 13 => ("SandwichesSpeakModel", "coded", "I", false)
  | 14 => ("SandwichesSpeakModel", "from", "I", false)
  | 15 => ("SandwichesSpeakModel", "to", "I", false)
  | 16 => ("SandwichesSpeakModel", "token", "I", false)
  | 17 => ("SandwichesSpeakModel", "value", "I", false)
  | 18 => ("SandwichesSpeakModel", "word", "I", false)
  | 19 => ("SandwichesSpeakModel", "waits", "[I", true)
  | 20 => ("SandwichesSpeakModel", "top", "I", false)
  | 21 => ("SandwichesSpeakModel", "open", "I", false)
  | 22 => ("SandwichesSpeakModel", "compared", "Z", false)
  | 23 => ("SandwichesSpeakModel", "behind", "Z", false)
  | 24 => ("SandwichesSpeakModel", "starts", "Z", false)
  | 25 => ("SandwichesSpeakModel", "stack", "[I", true)
  | 26 => ("SandwichesSpeakModel", "names", "[I", true)
  | 27 => ("SandwichesSpeakModel", "out", "I", false)
  | 28 => ("SandwichesSpeakModel", "comes", "[I", true)
  | 29 => ("SandwichesSpeakModel", "was", "[I", true)
  | 30 => ("SandwichesSpeakModel", "empty", "I", false)
  | 31 => ("SandwichesSpeakModel", "past", "[I", true)
  | 32 => ("SandwichesSpeakModel", "imaged", "Z", false)
  | 33 => ("SandwichesSpeakModel", "oldMany", "I", false)
  | 34 => ("SandwichesSpeakModel", "oldDay", "I", false)
  | 35 => ("SandwichesSpeakModel", "oldRule", "I", false)
  | 36 => ("SandwichesSpeakModel", "oldUsed", "[Z", true)
  | 37 => ("SandwichesSpeakModel", "old", "[I", true)
  | 38 => ("SandwichesSpeakModel", "sheetSort", "[I", true)
  | 39 => ("SandwichesSpeakModel", "sheetSize", "[I", true)
  | _ => ("SandwichesSpeakModel", "cells", "[I", true)
def tyX5 : Nat → FieldType := fun k => match k with
  | 0 => .int
  | 1 => .array .boolean
  | 2 => .int
  | 3 => .array .int
  | 4 => .array .int
  | 5 => .array .int
  | 6 => .int
  | 7 => .int
  | 8 => .array .int
  | 9 => .int
  | 10 => .array .int
  | 11 => .array .int
  | 12 => .array .int
  | 13 => .int
  | 14 => .int
  | 15 => .int
  | 16 => .int
  | 17 => .int
  | 18 => .int
  | 19 => .array .int
  | 20 => .int
  | 21 => .int
  | 22 => .boolean
  | 23 => .boolean
  | 24 => .boolean
  | 25 => .array .int
  | 26 => .array .int
  | 27 => .int
  | 28 => .array .int
  | 29 => .array .int
  | 30 => .int
  | 31 => .array .int
  | 32 => .boolean
  | 33 => .int
  | 34 => .int
  | 35 => .int
  | 36 => .array .boolean
  | 37 => .array .int
  | 38 => .array .int
  | 39 => .array .int
  | _ => .array .int
theorem nmX5 : ∀ a, a < 41 → ∀ b, b < 41 → a ≠ b → (TX5 a).2.1 ≠ (TX5 b).2.1 := by decide +kernel
theorem tyX5_ok : ∀ k, k < 41 → parseFieldDescriptor (TX5 k).2.2.1 = some (tyX5 k) := by decide +kernel
abbrev cX5_init : ByteArray := prog_7_method_1_code
def yX5_init : MethodName := ⟨RX5, "<init>", "()V"⟩
abbrev cX5_within : ByteArray := prog_7_method_2_code
def yX5_within : MethodName := ⟨RX5, "within", "(III)Z"⟩
abbrev cX5_bound : ByteArray := prog_7_method_3_code
def yX5_bound : MethodName := ⟨RX5, "bound", "(I)I"⟩
abbrev cX5_isOne : ByteArray := prog_7_method_4_code
def yX5_isOne : MethodName := ⟨RX5, "isOne", "(I)Z"⟩
abbrev cX5_areTwo : ByteArray := prog_7_method_5_code
def yX5_areTwo : MethodName := ⟨RX5, "areTwo", "(II)Z"⟩
abbrev cX5_isLayer : ByteArray := prog_7_method_6_code
def yX5_isLayer : MethodName := ⟨RX5, "isLayer", "(I)Z"⟩
abbrev cX5_isSheet : ByteArray := prog_7_method_7_code
def yX5_isSheet : MethodName := ⟨RX5, "isSheet", "(I)Z"⟩
abbrev cX5_bitsOf : ByteArray := prog_7_method_8_code
def yX5_bitsOf : MethodName := ⟨RX5, "bitsOf", "(I)I"⟩
abbrev cX5_isOf : ByteArray := prog_7_method_9_code
def yX5_isOf : MethodName := ⟨RX5, "isOf", "(II)Z"⟩
abbrev cX5_isFit : ByteArray := prog_7_method_10_code
def yX5_isFit : MethodName := ⟨RX5, "isFit", "(II)Z"⟩
abbrev cX5_get : ByteArray := prog_7_method_11_code
def yX5_get : MethodName := ⟨RX5, "get", "(II)I"⟩
abbrev cX5_set : ByteArray := prog_7_method_12_code
def yX5_set : MethodName := ⟨RX5, "set", "(III)I"⟩
abbrev cX5_person : ByteArray := prog_7_method_13_code
def yX5_person : MethodName := ⟨RX5, "person", "(II)I"⟩
abbrev cX5_sent : ByteArray := prog_7_method_14_code
def yX5_sent : MethodName := ⟨RX5, "sent", "(I)I"⟩
abbrev cX5_gotten : ByteArray := prog_7_method_15_code
def yX5_gotten : MethodName := ⟨RX5, "gotten", "(I)I"⟩
abbrev cX5_told : ByteArray := prog_7_method_16_code
def yX5_told : MethodName := ⟨RX5, "told", "(II)I"⟩
abbrev cX5_feed : ByteArray := prog_7_method_17_code
def yX5_feed : MethodName := ⟨RX5, "feed", "(I)I"⟩
abbrev cX5_isLetter : ByteArray := prog_7_method_18_code
def yX5_isLetter : MethodName := ⟨RX5, "isLetter", "(I)Z"⟩
abbrev cX5_isDigit : ByteArray := prog_7_method_19_code
def yX5_isDigit : MethodName := ⟨RX5, "isDigit", "(I)Z"⟩
abbrev cX5_isSign : ByteArray := prog_7_method_20_code
def yX5_isSign : MethodName := ⟨RX5, "isSign", "(I)Z"⟩
abbrev cX5_named : ByteArray := prog_7_method_21_code
def yX5_named : MethodName := ⟨RX5, "named", "()I"⟩
abbrev cX5_isKey : ByteArray := prog_7_method_22_code
def yX5_isKey : MethodName := ⟨RX5, "isKey", "()Z"⟩
abbrev cX5_next : ByteArray := prog_7_method_23_code
def yX5_next : MethodName := ⟨RX5, "next", "()V"⟩
abbrev cX5_takes : ByteArray := prog_7_method_24_code
def yX5_takes : MethodName := ⟨RX5, "takes", "(I)Z"⟩
abbrev cX5_codes : ByteArray := prog_7_method_25_code
def yX5_codes : MethodName := ⟨RX5, "codes", "(I)V"⟩
abbrev cX5_rank : ByteArray := prog_7_method_26_code
def yX5_rank : MethodName := ⟨RX5, "rank", "(I)I"⟩
abbrev cX5_lays : ByteArray := prog_7_method_27_code
def yX5_lays : MethodName := ⟨RX5, "lays", "(I)V"⟩
abbrev cX5_push : ByteArray := prog_7_method_28_code
def yX5_push : MethodName := ⟨RX5, "push", "(I)V"⟩
abbrev cX5_one : ByteArray := prog_7_method_29_code
def yX5_one : MethodName := ⟨RX5, "one", "(Z)Z"⟩
abbrev cX5_signed : ByteArray := prog_7_method_30_code
def yX5_signed : MethodName := ⟨RX5, "signed", "()I"⟩
abbrev cX5_closes : ByteArray := prog_7_method_31_code
def yX5_closes : MethodName := ⟨RX5, "closes", "()Z"⟩
abbrev cX5_goesOn : ByteArray := prog_7_method_32_code
def yX5_goesOn : MethodName := ⟨RX5, "goesOn", "()Z"⟩
abbrev cX5_part : ByteArray := prog_7_method_33_code
def yX5_part : MethodName := ⟨RX5, "part", "(II)Z"⟩
abbrev cX5_text : ByteArray := prog_7_method_34_code
def yX5_text : MethodName := ⟨RX5, "text", "()I"⟩
abbrev cX5_force : ByteArray := prog_7_method_35_code
def yX5_force : MethodName := ⟨RX5, "force", "(I)I"⟩
abbrev cX5_ruled : ByteArray := prog_7_method_36_code
def yX5_ruled : MethodName := ⟨RX5, "ruled", "(I)I"⟩
abbrev cX5_both : ByteArray := prog_7_method_37_code
def yX5_both : MethodName := ⟨RX5, "both", "(III)I"⟩
abbrev cX5_tellsOf : ByteArray := prog_7_method_38_code
def yX5_tellsOf : MethodName := ⟨RX5, "tellsOf", "(IIIII)V"⟩
abbrev cX5_cuts : ByteArray := prog_7_method_39_code
def yX5_cuts : MethodName := ⟨RX5, "cuts", "(III)Z"⟩
abbrev cX5_sends : ByteArray := prog_7_method_40_code
def yX5_sends : MethodName := ⟨RX5, "sends", "(II)Z"⟩
abbrev cX5_feels : ByteArray := prog_7_method_41_code
def yX5_feels : MethodName := ⟨RX5, "feels", "(III)I"⟩
abbrev cX5_made : ByteArray := prog_7_method_42_code
def yX5_made : MethodName := ⟨RX5, "made", "(II)I"⟩
abbrev cX5_feltBy : ByteArray := prog_7_method_43_code
def yX5_feltBy : MethodName := ⟨RX5, "feltBy", "(III)I"⟩
abbrev cX5_felt : ByteArray := prog_7_method_44_code
def yX5_felt : MethodName := ⟨RX5, "felt", "(I)I"⟩
abbrev cX5_sandwich : ByteArray := prog_7_method_45_code
def yX5_sandwich : MethodName := ⟨RX5, "sandwich", "(III)I"⟩
abbrev cX5_glad : ByteArray := prog_7_method_46_code
def yX5_glad : MethodName := ⟨RX5, "glad", "()I"⟩
abbrev cX5_passes : ByteArray := prog_7_method_47_code
def yX5_passes : MethodName := ⟨RX5, "passes", "()V"⟩
abbrev cX5_sunday : ByteArray := prog_7_method_48_code
def yX5_sunday : MethodName := ⟨RX5, "sunday", "()I"⟩
abbrev cX5_keeps : ByteArray := prog_7_method_49_code
def yX5_keeps : MethodName := ⟨RX5, "keeps", "()V"⟩
abbrev cX5_restores : ByteArray := prog_7_method_50_code
def yX5_restores : MethodName := ⟨RX5, "restores", "()V"⟩
abbrev cX5_runs : ByteArray := prog_7_method_51_code
def yX5_runs : MethodName := ⟨RX5, "runs", "(I)V"⟩
abbrev cX5_gladBehind : ByteArray := prog_7_method_52_code
def yX5_gladBehind : MethodName := ⟨RX5, "gladBehind", "(I)I"⟩
abbrev cX5_run : ByteArray := prog_7_method_53_code
def yX5_run : MethodName := ⟨RX5, "run", "(II)I"⟩
abbrev cX5_isAlike : ByteArray := prog_7_method_54_code
def yX5_isAlike : MethodName := ⟨RX5, "isAlike", "(II)Z"⟩
abbrev cX5_remembers : ByteArray := prog_7_method_55_code
def yX5_remembers : MethodName := ⟨RX5, "remembers", "()V"⟩
abbrev cX5_again : ByteArray := prog_7_method_56_code
def yX5_again : MethodName := ⟨RX5, "again", "(I)I"⟩
abbrev cX5_lettuce : ByteArray := prog_7_method_57_code
def yX5_lettuce : MethodName := ⟨RX5, "lettuce", "(I)I"⟩
abbrev cX5_left : ByteArray := prog_7_method_58_code
def yX5_left : MethodName := ⟨RX5, "left", "()I"⟩
abbrev cX5_all : ByteArray := prog_7_method_59_code
def yX5_all : MethodName := ⟨RX5, "all", "(I)I"⟩
abbrev cX5_best : ByteArray := prog_7_method_60_code
def yX5_best : MethodName := ⟨RX5, "best", "(III)I"⟩
abbrev cX5_leaveOut : ByteArray := prog_7_method_61_code
def yX5_leaveOut : MethodName := ⟨RX5, "leaveOut", "(II)I"⟩
abbrev cX5_spare : ByteArray := prog_7_method_62_code
def yX5_spare : MethodName := ⟨RX5, "spare", "(II)I"⟩
abbrev cX5_add : ByteArray := prog_7_method_63_code
def yX5_add : MethodName := ⟨RX5, "add", "(III)I"⟩
abbrev cX5_wrong : ByteArray := prog_7_method_64_code
def yX5_wrong : MethodName := ⟨RX5, "wrong", "(II)I"⟩
abbrev cX5_kindsSo : ByteArray := prog_7_method_65_code
def yX5_kindsSo : MethodName := ⟨RX5, "kindsSo", "(II)I"⟩
abbrev cX5_numbersSo : ByteArray := prog_7_method_66_code
def yX5_numbersSo : MethodName := ⟨RX5, "numbersSo", "(II)I"⟩
abbrev cX5_moodsSo : ByteArray := prog_7_method_67_code
def yX5_moodsSo : MethodName := ⟨RX5, "moodsSo", "(III)I"⟩
abbrev cX5_textsSo : ByteArray := prog_7_method_68_code
def yX5_textsSo : MethodName := ⟨RX5, "textsSo", "(II)I"⟩
abbrev cX5_tells : ByteArray := prog_7_method_69_code
def yX5_tells : MethodName := ⟨RX5, "tells", "(III)I"⟩
abbrev cX5_film : ByteArray := prog_7_method_70_code
def yX5_film : MethodName := ⟨RX5, "film", "(III)I"⟩
abbrev cX5_drawn : ByteArray := prog_7_method_71_code
def yX5_drawn : MethodName := ⟨RX5, "drawn", "(I)I"⟩
abbrev cX5_byLot : ByteArray := prog_7_method_72_code
def yX5_byLot : MethodName := ⟨RX5, "byLot", "(I)I"⟩
abbrev cX5_chance : ByteArray := prog_7_method_73_code
def yX5_chance : MethodName := ⟨RX5, "chance", "(IIII)J"⟩
abbrev cX5_image : ByteArray := prog_7_method_74_code
def yX5_image : MethodName := ⟨RX5, "image", "()I"⟩
abbrev cX5_back : ByteArray := prog_7_method_75_code
def yX5_back : MethodName := ⟨RX5, "back", "()I"⟩
abbrev cX5_count : ByteArray := prog_7_method_76_code
def yX5_count : MethodName := ⟨RX5, "count", "(I)I"⟩
abbrev cX5_sheet : ByteArray := prog_7_method_77_code
def yX5_sheet : MethodName := ⟨RX5, "sheet", "(III)I"⟩
abbrev cX5_cell : ByteArray := prog_7_method_78_code
def yX5_cell : MethodName := ⟨RX5, "cell", "(III)I"⟩
abbrev cX5_copy : ByteArray := prog_7_method_79_code
def yX5_copy : MethodName := ⟨RX5, "copy", "(IIIII)I"⟩
abbrev cX5_people : ByteArray := prog_7_method_80_code
def yX5_people : MethodName := ⟨RX5, "people", "(IIII)I"⟩
abbrev cX5_taken : ByteArray := prog_7_method_81_code
def yX5_taken : MethodName := ⟨RX5, "taken", "(II)I"⟩
def RJ11 : String := "java/lang/Character"
abbrev cJ11_isValidCodePoint_9a6ad : ByteArray := prog_8_method_11_code
def yJ11_isValidCodePoint_9a6ad : MethodName := ⟨RJ11, "isValidCodePoint", "(I)Z"⟩
abbrev cJ11_highSurrogate_5068e : ByteArray := prog_8_method_28_code
def yJ11_highSurrogate_5068e : MethodName := ⟨RJ11, "highSurrogate", "(I)C"⟩
abbrev cJ11_lowSurrogate_5068e : ByteArray := prog_8_method_29_code
def yJ11_lowSurrogate_5068e : MethodName := ⟨RJ11, "lowSurrogate", "(I)C"⟩
def RJ6 : String := "java/lang/Integer"
abbrev cJ6_bitCount_0f7a4 : ByteArray := prog_9_method_49_code
def yJ6_bitCount_0f7a4 : MethodName := ⟨RJ6, "bitCount", "(I)I"⟩
def RJ9 : String := "java/lang/Math"
abbrev cJ9_max_7cf53 : ByteArray := prog_10_method_65_code
def yJ9_max_7cf53 : MethodName := ⟨RJ9, "max", "(II)I"⟩
abbrev cJ9_min_7cf53 : ByteArray := prog_10_method_69_code
def yJ9_min_7cf53 : MethodName := ⟨RJ9, "min", "(II)I"⟩
def RJ0 : String := "java/lang/String"
abbrev cJ0_length_8abf5 : ByteArray := prog_11_method_54_code
def yJ0_length_8abf5 : MethodName := ⟨RJ0, "length", "()I"⟩
abbrev cJ0_charAt_5068e : ByteArray := prog_11_method_56_code
def yJ0_charAt_5068e : MethodName := ⟨RJ0, "charAt", "(I)C"⟩
abbrev cJ0_indexOf_0f7a4 : ByteArray := prog_11_method_79_code
def yJ0_indexOf_0f7a4 : MethodName := ⟨RJ0, "indexOf", "(I)I"⟩
abbrev cJ0_indexOf_7cf53 : ByteArray := prog_11_method_80_code
def yJ0_indexOf_7cf53 : MethodName := ⟨RJ0, "indexOf", "(II)I"⟩
abbrev cJ0_coder_7d493 : ByteArray := prog_11_method_152_code
def yJ0_coder_7d493 : MethodName := ⟨RJ0, "coder", "()B"⟩
abbrev cJ0_isLatin1_aae02 : ByteArray := prog_11_method_154_code
def yJ0_isLatin1_aae02 : MethodName := ⟨RJ0, "isLatin1", "()Z"⟩
abbrev cJ0_checkIndex_df160 : ByteArray := prog_11_method_155_code
def yJ0_checkIndex_df160 : MethodName := ⟨RJ0, "checkIndex", "(II)V"⟩
abbrev cJ0_checkBoundsBeginEnd_23922 : ByteArray := prog_11_method_158_code
def yJ0_checkBoundsBeginEnd_23922 : MethodName := ⟨RJ0, "checkBoundsBeginEnd", "(III)V"⟩
def RJ1 : String := "java/lang/StringLatin1"
abbrev cJ1_charAt_3b067 : ByteArray := prog_12_method_2_code
def yJ1_charAt_3b067 : MethodName := ⟨RJ1, "charAt", "([BI)C"⟩
abbrev cJ1_canEncode_9a6ad : ByteArray := prog_12_method_4_code
def yJ1_canEncode_9a6ad : MethodName := ⟨RJ1, "canEncode", "(I)Z"⟩
abbrev cJ1_indexOf_4cfef : ByteArray := prog_12_method_22_code
def yJ1_indexOf_4cfef : MethodName := ⟨RJ1, "indexOf", "([BIII)I"⟩
abbrev cJ1_indexOfChar_4cfef : ByteArray := prog_12_method_23_code
def yJ1_indexOfChar_4cfef : MethodName := ⟨RJ1, "indexOfChar", "([BIII)I"⟩
def RJ2 : String := "java/lang/StringUTF16"
abbrev cJ2_getChar_3b067 : ByteArray := prog_13_method_5_code
def yJ2_getChar_3b067 : MethodName := ⟨RJ2, "getChar", "([BI)C"⟩
abbrev cJ2_length_9d52b : ByteArray := prog_13_method_6_code
def yJ2_length_9d52b : MethodName := ⟨RJ2, "length", "([B)I"⟩
abbrev cJ2_indexOf_4cfef : ByteArray := prog_13_method_40_code
def yJ2_indexOf_4cfef : MethodName := ⟨RJ2, "indexOf", "([BIII)I"⟩
abbrev cJ2_indexOfChar_4cfef : ByteArray := prog_13_method_47_code
def yJ2_indexOfChar_4cfef : MethodName := ⟨RJ2, "indexOfChar", "([BIII)I"⟩
abbrev cJ2_indexOfCharUnsafe_4cfef : ByteArray := prog_13_method_48_code
def yJ2_indexOfCharUnsafe_4cfef : MethodName := ⟨RJ2, "indexOfCharUnsafe", "([BIII)I"⟩
abbrev cJ2_indexOfSupplementary_4cfef : ByteArray := prog_13_method_49_code
def yJ2_indexOfSupplementary_4cfef : MethodName := ⟨RJ2, "indexOfSupplementary", "([BIII)I"⟩
abbrev cJ2_charAt_3b067 : ByteArray := prog_13_method_83_code
def yJ2_charAt_3b067 : MethodName := ⟨RJ2, "charAt", "([BI)C"⟩
abbrev cJ2_checkIndex_2214a : ByteArray := prog_13_method_91_code
def yJ2_checkIndex_2214a : MethodName := ⟨RJ2, "checkIndex", "(I[B)V"⟩
abbrev cJ2_checkBoundsBeginEnd_d044e : ByteArray := prog_13_method_93_code
def yJ2_checkBoundsBeginEnd_d044e : MethodName := ⟨RJ2, "checkBoundsBeginEnd", "(II[B)V"⟩
def RJ10 : String := "java/lang/System"
def RJ3 : String := "jdk/internal/util/Preconditions"
abbrev cJ3_checkIndex_8e157 : ByteArray := prog_15_method_11_code
def yJ3_checkIndex_8e157 : MethodName := ⟨RJ3, "checkIndex", "(IILjava/util/function/BiFunction;)I"⟩
abbrev cJ3_checkFromToIndex_8c36e : ByteArray := prog_15_method_12_code
def yJ3_checkFromToIndex_8c36e : MethodName := ⟨RJ3, "checkFromToIndex", "(IIILjava/util/function/BiFunction;)I"⟩
def RL : String := "SandwichesSpeakLaw"
abbrev cL_law : ByteArray := code
def yL_law : MethodName := ⟨RL, "law", "([I)Z"⟩
abbrev vwCl : List vw_C := [(RX0, TX0, 12), (RX1, TX1, 9), (RX2, TX2, 3), (RX3, TX3, 3), (RX4, TX4, 9), (RX5, TX5, 41)]
def AW : List Cond := lw_tbl.filter goodWord
theorem AW_mem {w : Cond} (i : Nat) (h : lw_tbl[i]? = some w) (g : goodWord w = true) : w ∈ AW := List.mem_filter.mpr ⟨List.mem_of_getElem? h, g⟩
theorem AW_good {w : Cond} (h : w ∈ AW) : (w.onTables && w.keeps) = true ∨ ∃ ty, w = .arrayClass ty := good_of_word (List.mem_filter.mp h).2
theorem AW_in {w : Cond} (h : w ∈ AW) : w ∈ lw_tbl := (List.mem_filter.mp h).1
end
section
/-! THE FRAME: a world of fixed cells, numbered; ints in a function of (cell, slot); contracts over it; rows of instructions over it -/
abbrev Wd : Type := Nat → Nat → Int32
def wset (w : Wd) (i j : Nat) (v : Int32) : Wd := fun a b => if a = i ∧ b = j then v else w a b
def wcpy (w : Wd) (i i2 sp dp n : Nat) : Wd := fun a b => if a = i2 then va_cpy (w i) (w i2) sp dp n b else w a b
theorem wset_row (w : Wd) (i j : Nat) (v : Int32) : (wset w i j v) i = upd (w i) j v := by
  funext b
  by_cases h : b = j <;> simp [wset, upd, h]
theorem wset_off (w : Wd) (i j a : Nat) (v : Int32) (h : a ≠ i) : (wset w i j v) a = w a := by
  funext b
  simp [wset, h]
theorem wcpy_row (w : Wd) (i i2 sp dp n : Nat) : (wcpy w i i2 sp dp n) i2 = va_cpy (w i) (w i2) sp dp n := by
  funext b
  simp [wcpy]
theorem wcpy_off (w : Wd) (i i2 sp dp n a : Nat) (h : a ≠ i2) : (wcpy w i i2 sp dp n) a = w a := by
  funext b
  simp [wcpy, h]
/-- a cell's shape: an array (number of its type, length, the cells that its places name: none of ints), or an object (number of its class; a field: 0 an int, 1 a cell's number or -1, k + 2 the cell k) -/
abbrev Sh : Type := (Nat × Nat × List Nat) ⊕ (Nat × List Nat)
def gTy : Nat → FieldType
  | 0 => .int
  | 1 => .boolean
  | 2 => .object "SandwichesSpeak$Sheet"
  | _ => .object "SandwichesSpeak$Text"
def gTys (cA : Nat → ClassId) : List (ClassId × FieldType) := [(cA 0, gTy 0), (cA 1, gTy 1), (cA 2, gTy 2), (cA 3, gTy 3)]
def fvl (ad : Nat → Nat) (w : Wd) (i j : Nat) : Nat → Value
  | 0 => .int (w i j)
  | 1 => if w i j = -1 then .null else .ref (ad (w i j).toNatClampNeg)
  | k + 2 => .ref (ad k)
def flds (ad : Nat → Nat) (w : Wd) (i : Nat) : Nat → List Nat → List Value
  | _, [] => []
  | j, k :: ks => fvl ad w i j k :: flds ad w i (j + 1) ks
def rfa (rs : List Nat) (j : Nat) : Nat := rs.getD j 0
def celE (cA : Nat → ClassId) (ad : Nat → Nat) (w : Wd) (i : Nat) : Sh → va_E
  | .inl (t, n, []) => .inl (cA t, n, .inl (w i))
  | .inl (t, n, r :: rs) => .inl (cA t, n, .inr (.inr (.inr (.inr fun j => some (ad (rfa (r :: rs) j))))))
  | .inr (ci, fks) => .inr (ci, flds ad w i 0 fks)
def cels (cA : Nat → ClassId) (ad : Nat → Nat) (w : Wd) : Nat → List Sh → va_W
  | _, [] => []
  | i, s :: ss => (ad i, celE cA ad w i s) :: cels cA ad w (i + 1) ss
theorem fvl_congr {ad : Nat → Nat} {w w' : Wd} {i j : Nat} (h : w i = w' i) : ∀ k : Nat, fvl ad w i j k = fvl ad w' i j k
  | 0 => by simp [fvl, h]
  | 1 => by simp [fvl, h]
  | k + 2 => rfl
theorem flds_congr {ad : Nat → Nat} {w w' : Wd} {i : Nat} (h : w i = w' i) : ∀ (ks : List Nat) (j : Nat), flds ad w i j ks = flds ad w' i j ks
  | [], _ => rfl
  | k :: ks, j => by simp only [flds]; rw [fvl_congr h, flds_congr h ks]
theorem flds_get {ad : Nat → Nat} {w : Wd} {i fk : Nat} : ∀ (ks : List Nat) (j k : Nat), ks[k]? = some fk → (flds ad w i j ks)[k]? = some (fvl ad w i (j + k) fk)
  | [], _, _, h => by simp at h
  | a :: ks, j, 0, h => by
    simp at h
    subst h
    simp [flds]
  | a :: ks, j, k + 1, h => by
    simp only [List.getElem?_cons_succ] at h
    simp only [flds, List.getElem?_cons_succ]
    rw [flds_get ks (j + 1) k h]
    congr 2
    omega
theorem flds_len {ad : Nat → Nat} {w : Wd} {i : Nat} : ∀ (ks : List Nat) (j : Nat), (flds ad w i j ks).length = ks.length
  | [], _ => rfl
  | k :: ks, j => by simp [flds, flds_len ks]
theorem flds_set {ad : Nat → Nat} {w : Wd} {i fk : Nat} {v : Int32} (x : Value) (hx : ∀ j : Nat, fvl ad (wset w i j v) i j fk = x) : ∀ (ks : List Nat) (j k : Nat), ks[k]? = some fk → (flds ad w i j ks).set k x = flds ad (wset w i (j + k) v) i j ks
  | [], _, _, h => by simp at h
  | a :: ks, j, 0, h => by
    simp at h
    subst h
    simp only [flds, List.set_cons_zero, Nat.add_zero, hx]
    congr 1
    have key : ∀ (ks : List Nat) (j' : Nat), j < j' → flds ad w i j' ks = flds ad (wset w i j v) i j' ks := by
      intro ks
      induction ks with
      | nil => intro _ _; rfl
      | cons b ks ih =>
        intro j' h'
        simp only [flds]
        rw [ih (j' + 1) (by omega)]
        congr 1
        have e : wset w i j v i j' = w i j' := by simp [wset]; omega
        cases b with
        | zero => simp [fvl, e]
        | succ b => cases b with
          | zero => simp [fvl, e]
          | succ b => rfl
    exact key ks (j + 1) (by omega)
  | a :: ks, j, k + 1, h => by
    simp only [List.getElem?_cons_succ] at h
    simp only [flds, List.set_cons_succ]
    rw [flds_set x hx ks (j + 1) k h]
    have e0 : j + 1 + k = j + (k + 1) := by omega
    rw [e0]
    congr 1
    have e : wset w i (j + (k + 1)) v i j = w i j := by simp [wset]
    cases a with
    | zero => simp [fvl, e]
    | succ b => cases b with
      | zero => simp [fvl, e]
      | succ b => rfl
theorem celE_congr {cA : Nat → ClassId} {ad : Nat → Nat} {w w' : Wd} {i : Nat} (h : w i = w' i) (s : Sh) : celE cA ad w i s = celE cA ad w' i s := by
  rcases s with ⟨t, n, rs⟩ | ⟨ci, fks⟩
  · cases rs <;> simp [celE, h]
  · simp only [celE]; rw [flds_congr h]
theorem cels_congr {cA : Nat → ClassId} {ad : Nat → Nat} {w w' : Wd} : ∀ (ss : List Sh) (i : Nat), (∀ a, i ≤ a → w a = w' a) → cels cA ad w i ss = cels cA ad w' i ss
  | [], _, _ => rfl
  | s :: ss, i, h => by simp only [cels]; rw [celE_congr (h i (Nat.le_refl i)), cels_congr ss (i + 1) (fun a ha => h a (by omega))]
theorem cels_get {cA : Nat → ClassId} {ad : Nat → Nat} {w : Wd} {sh : Sh} : ∀ (ss : List Sh) (i k : Nat), ss[k]? = some sh → (cels cA ad w i ss)[k]? = some (ad (i + k), celE cA ad w (i + k) sh)
  | [], _, _, h => by simp at h
  | a :: ss, i, 0, h => by
    simp at h
    subst h
    simp [cels]
  | a :: ss, i, k + 1, h => by
    simp only [List.getElem?_cons_succ] at h
    simp only [cels, List.getElem?_cons_succ]
    rw [cels_get ss (i + 1) k h]
    have e : i + 1 + k = i + (k + 1) := by omega
    rw [e]
theorem cels_len {cA : Nat → ClassId} {ad : Nat → Nat} {w : Wd} : ∀ (ss : List Sh) (i : Nat), (cels cA ad w i ss).length = ss.length
  | [], _ => rfl
  | s :: ss, i => by simp [cels, cels_len ss]
theorem cels_set {cA : Nat → ClassId} {ad : Nat → Nat} {w w' : Wd} {sh : Sh} : ∀ (ss : List Sh) (i k : Nat), (∀ a, a ≠ i + k → w' a = w a) → ss[k]? = some sh → (cels cA ad w i ss).set k (ad (i + k), celE cA ad w' (i + k) sh) = cels cA ad w' i ss
  | [], _, _, _, h => by simp at h
  | a :: ss, i, 0, hw, h => by
    simp at h
    subst h
    simp only [cels, List.set_cons_zero, Nat.add_zero]
    rw [cels_congr ss (i + 1) (w := w) (w' := w') (fun b hb => (hw b (by omega)).symm)]
  | a :: ss, i, k + 1, hw, h => by
    simp only [List.getElem?_cons_succ] at h
    simp only [cels, List.set_cons_succ]
    have e : i + (k + 1) = i + 1 + k := by omega
    rw [e, cels_set ss (i + 1) k (fun b hb => hw b (by omega)) h, celE_congr (hw i (by omega)) a]
theorem cels_back {cA : Nat → ClassId} {ad : Nat → Nat} {w : Wd} (ss : List Sh) (k : Nat) (q : Nat × va_E) (h : (cels cA ad w 0 ss)[k]? = some q) : k < ss.length ∧ q.1 = ad k := by
  have hk : k < ss.length := by
    have := (List.getElem?_eq_some_iff.mp h).1
    rwa [cels_len] at this
  have h2 := cels_get (cA := cA) (ad := ad) (w := w) ss 0 k (List.getElem?_eq_getElem hk)
  rw [h] at h2
  refine ⟨hk, ?_⟩
  rw [Option.some.inj h2, Nat.zero_add]
/-- what all methods of a world share: the launch, its classes' numbers, its arrays' classes, the cells' addresses, their shapes, what is known of the rest -/
abbrev Gx : Type := Launch × va_G × (Nat → ClassId) × (Nat → Nat) × List Sh × (State → Prop)
abbrev Gl (Γ : Gx) : Launch := Γ.1
abbrev gD (Γ : Gx) : va_G := Γ.2.1
abbrev gcA (Γ : Gx) : Nat → ClassId := Γ.2.2.1
abbrev gad (Γ : Gx) : Nat → Nat := Γ.2.2.2.1
abbrev gS (Γ : Gx) : List Sh := Γ.2.2.2.2.1
abbrev gE (Γ : Gx) : State → Prop := Γ.2.2.2.2.2
def gA (Γ : Gx) : Addr → Prop := fun q => ∃ i : Nat, i < (gS Γ).length ∧ q = gad Γ i
def gW (Γ : Gx) (w : Wd) : va_W := cels (gcA Γ) (gad Γ) w 0 (gS Γ)
def GOK (Γ : Gx) : Prop := (∀ i j : Nat, i < (gS Γ).length → j < (gS Γ).length → gad Γ i = gad Γ j → i = j) ∧
  (∀ s U : State, gE Γ s → U.heap = s.heap → U.vm = s.vm → gE Γ U) ∧
  (∀ s U : State, gE Γ s → s.WarmedH U.vm → s.heap.size ≤ U.heap.size → (∀ q : Nat, q < s.heap.size → ¬ gA Γ q → U.heap[q]? = s.heap[q]?) → gE Γ U)
theorem gW_D {Γ : Gx} (h : GOK Γ) (w : Wd) : va_D (gA Γ) (gW Γ w) := by
  refine ⟨fun i j p q hi hj hpq => ?_, fun k q hk => ?_⟩
  · obtain ⟨h1, h2⟩ := cels_back _ i p hi
    obtain ⟨h3, h4⟩ := cels_back _ j q hj
    exact h.1 i j h1 h3 (by rw [← h2, ← h4]; exact hpq)
  · obtain ⟨h1, h2⟩ := cels_back _ k q hk
    exact ⟨k, h1, h2⟩
/-- the world at a state -/
def Inv (Γ : Gx) (w : Wd) (U : State) : Prop := va_P (gD Γ) vwCl (gW Γ w) U.heap ∧ va_K (gD Γ) vwCl (gTys (gcA Γ)) U ∧ gE Γ U
abbrev Mth : Type := MethodName × ByteArray × Nat × Option FieldType
def wsM (M : Mth) : List Cond := .code M.1 M.2.1 M.2.2.1 M.2.2.2 :: AW
def rmd (d : Nat) : Room := { frames := d, cells := 0, slots := 0, locals := 64 * d }
def QG (Γ : Gx) (Q : Option Value → Wd → Prop) : Array Value → State → Outcome → State → Prop := fun _ st o t =>
  (∃ (r : Option Value) (w' : Wd), o = .returned r ∧ Q r w' ∧ va_P (gD Γ) vwCl (gW Γ w') t.heap ∧ va_K (gD Γ) vwCl (gTys (gcA Γ)) t) ∧ va_F (gA Γ) st t
/-- THE CONTRACT: method M, called with 'as' in the world w, at depth d: it returns, and Q of its answer and the world behind it -/
def Con (Γ : Gx) (d : Nat) (M : Mth) (as : List Value) (w : Wd) (Q : Option Value → Wd → Prop) : Prop :=
  Met (Gl Γ) M.1 (wsM M) (rmd d) (va_Pc as (Inv Γ w)) (QG Γ Q) 0 0 (gA Γ)
theorem Con.mono {Γ : Gx} {d : Nat} {M : Mth} {as : List Value} {w : Wd} {Q Q' : Option Value → Wd → Prop} (h : Con Γ d M as w Q) (hq : ∀ r w', Q r w' → Q' r w') : Con Γ d M as w Q' := by
  unfold Con Met at h ⊢
  refine MetFree.mono h (fun _ _ h => h) (fun _ _ _ _ _ h => h) ?_
  rintro a s o t - ⟨⟨⟨r, w', h1, h2, h3⟩, h4⟩, h5⟩
  exact ⟨⟨⟨r, w', h1, hq r w' h2, h3⟩, h4⟩, h5⟩
def CI (Γ : Gx) (d : Nat) (M : Mth) (as : List Value) (w : Wd) (K : Int32 → Wd → Prop) : Prop := Con Γ d M as w (fun r w' => ∃ v : Int32, r = some (.int v) ∧ K v w')
def CV (Γ : Gx) (d : Nat) (M : Mth) (as : List Value) (w : Wd) (K : Wd → Prop) : Prop := Con Γ d M as w (fun r w' => r = none ∧ K w')
def CL (Γ : Gx) (d : Nat) (M : Mth) (as : List Value) (w : Wd) (K : Int64 → Wd → Prop) : Prop := Con Γ d M as w (fun r w' => ∃ v : Int64, r = some (.long v) ∧ K v w')
theorem CI.mono {Γ : Gx} {d : Nat} {M : Mth} {as : List Value} {w : Wd} {K K' : Int32 → Wd → Prop} (h : CI Γ d M as w K) (hq : ∀ v w', K v w' → K' v w') : CI Γ d M as w K' :=
  Con.mono h (fun r w' ⟨v, h1, h2⟩ => ⟨v, h1, hq v w' h2⟩)
theorem CV.mono {Γ : Gx} {d : Nat} {M : Mth} {as : List Value} {w : Wd} {K K' : Wd → Prop} (h : CV Γ d M as w K) (hq : ∀ w', K w' → K' w') : CV Γ d M as w K' :=
  Con.mono h (fun r w' ⟨h1, h2⟩ => ⟨h1, hq w' h2⟩)
theorem CL.mono {Γ : Gx} {d : Nat} {M : Mth} {as : List Value} {w : Wd} {K K' : Int64 → Wd → Prop} (h : CL Γ d M as w K) (hq : ∀ v w', K v w' → K' v w') : CL Γ d M as w K' :=
  Con.mono h (fun r w' ⟨v, h1, h2⟩ => ⟨v, h1, hq v w' h2⟩)
/-- a method's run: program, environment, start, method, arguments, frames below, its code -/
abbrev Mx : Type := Program × Env × State × MethodId × Array Value × List Frame × Method × Code
abbrev xp (X : Mx) : Program := X.1
abbrev xe (X : Mx) : Env := X.2.1
abbrev xs (X : Mx) : State := X.2.2.1
abbrev xm (X : Mx) : MethodId := X.2.2.2.1
abbrev xa (X : Mx) : Array Value := X.2.2.2.2.1
abbrev xb (X : Mx) : List Frame := X.2.2.2.2.2.1
abbrev xt (X : Mx) : Method := X.2.2.2.2.2.2.1
abbrev xc (X : Mx) : Code := X.2.2.2.2.2.2.2
def OKM (Γ : Gx) (X : Mx) (own : String) (cc : ByteArray) (nL : Nat) (ret : Option FieldType) : Prop :=
  (xp X).tables.exec = Jvm.exec ∧ (xc X).code = cc ∧ (xc X).maxLocals = nL ∧ (xs X).vm.findClass own = some (xm X).cls ∧ (∀ w ∈ AW, w.before (xa X) (xs X) = true) ∧ (xt X).sig.returnType = ret ∧ (xt X).locks = false ∧
  va_K (gD Γ) vwCl (gTys (gcA Γ)) (xs X) ∧ GOK Γ ∧ gE Γ (xs X)
/-- the locals, by their places -/
def LH (ls : Array Slot) (nL : Nat) (lv : List (Option Value)) : Prop := ls.size = nL ∧ lv_wf ls ∧ ∀ (k : Nat) (v : Value), lv[k]? = some (some v) → ls[k]? = some (.val v)
/-- the run, at pc with these locals, this stack and this world, comes to its end with Q -/
def GG (Γ : Gx) (X : Mx) (d nL : Nat) (Q : Option Value → Wd → Prop) (pc : Nat) (lv : List (Option Value)) (st : List Value) (w : Wd) : Prop :=
  ∀ (ls : Array Slot) (H : Heap) (locs : List Loc), LH ls nL lv → va_P (gD Γ) vwCl (gW Γ w) H → va_S (gA Γ) (xs X).heap H locs →
    W (xp X) (Gl Γ) (xe X) (rmd d) (xs X) (xm X) (xa X) (xb X) (xt X) (xc X) H locs 0 0 (MQ (xb X) (QG Γ Q) (xa X) (xs X) 0 0 (gA Γ)) (F0 (xm X) pc ls st)
def ent (as : List Value) (n : Nat) : List (Option Value) := as.map some ++ List.replicate (n - as.length) none
theorem lv_args_in : ∀ (as : List Value) (i k : Nat) (v : Value), (∀ a ∈ as, a.category = 1) → as[k]? = some v → (i + k, v) ∈ lv_args i as
  | [], _, _, _, _, h => by simp at h
  | a :: as, i, 0, v, _, h => by
    simp at h
    subst h
    simp [lv_args]
  | a :: as, i, k + 1, v, hc, h => by
    simp only [List.getElem?_cons_succ] at h
    have ha : a.category = 1 := hc a List.mem_cons_self
    have := lv_args_in as (i + 1) k v (fun b hb => hc b (List.mem_cons_of_mem _ hb)) h
    simp only [lv_args, ha]
    refine List.mem_cons_of_mem _ ?_
    have e : i + (k + 1) = i + 1 + k := by omega
    rw [e]
    exact this
theorem lg_sl_len : ∀ (as : List Value), (∀ a ∈ as, a.category = 1) → (lg_sl as).length = as.length
  | [], _ => rfl
  | a :: as, hc => by
    have ha : a.category = 1 := hc a List.mem_cons_self
    have ih := lg_sl_len as (fun b hb => hc b (List.mem_cons_of_mem _ hb))
    simp only [lg_sl, List.flatMap_cons, ha] at *
    simp [ih]
theorem LH_entry {as : List Value} {n : Nat} {ls : Array Slot} (hc : ∀ a ∈ as, a.category = 1) (h : lv_has ls n (lv_args 0 as)) : LH ls n (ent as n) := by
  refine ⟨h.1, h.2.1, fun k v hk => ?_⟩
  have hv : as[k]? = some v := by
    unfold ent at hk
    by_cases hl : k < (as.map some).length
    · rw [List.getElem?_append_left hl, List.getElem?_map] at hk
      cases ha : as[k]? with
      | none => rw [ha] at hk; cases hk
      | some a => rw [ha] at hk; simp at hk; rw [hk]
    · rw [List.getElem?_append_right (by omega)] at hk
      have := List.mem_of_getElem? hk
      have := List.eq_of_mem_replicate this
      cases this
  have := h.2.2 _ (lv_args_in as 0 k v hc hv)
  simpa using this
set_option maxHeartbeats 4000000 in
theorem Con.of {Γ : Gx} {d : Nat} {M : Mth} {as : List Value} {w : Wd} {Q : Option Value → Wd → Prop} (own : String) (cc : ByteArray) (nL : Nat) (ret : Option FieldType) (lv : List (Option Value)) (hM : M = (M.1, cc, nL, ret)) (ho : M.1.cls = own) (hp : plainName M.1.cls = true) (hG : GOK Γ) (hc : ∀ a ∈ as, a.category = 1) (hn : as.length ≤ nL) (hlv : ent as nL = lv)
    (k : ∀ X : Mx, OKM Γ X own cc nL ret → GG Γ X d nL Q 0 lv [] w) : Con Γ d M as w Q := by
  obtain ⟨y, cc', nL', ret'⟩ := M
  obtain ⟨rfl, rfl, rfl⟩ : cc' = cc ∧ nL' = nL ∧ ret' = ret := by
    simp only [Prod.mk.injEq, true_and] at hM
    exact hM
  subst ho
  subst hlv
  refine Met.ofW (cc := cc') (maxL := nL') (ret := ret') hp rfl ?_
  intro p e s m args below meth c s₁ B hml hv
  obtain ⟨rfl, hP, hK, hE⟩ := hv
  have hown : s.vm.findClass y.cls = some m.cls := findClass_of_methodNamed B.named
  have hts := atoms_spec (ws := wsM (y, cc', nL', ret')) B.pre
  have hX : OKM Γ (p, e, s, m, as.toArray, below, meth, c) y.cls cc' nL' ret' := ⟨B.exec, B.bytes, hml, hown, fun w hw => hts w (List.mem_cons_of_mem _ hw), B.returns, B.notSynchronized, hK, hG, hE⟩
  have hl := lv_entry as (n := nL') (by rw [lg_sl_len as hc]; exact hn)
  rw [lg_entry_eq]
  exact k _ hX _ _ _ (LH_entry hc hl) hP va_S.rf
end
section
/-! ROWS of instructions over the frame -/
def okSt (lv : List (Option Value)) : Nat → Bool
  | 0 => true
  | j + 1 => match lv[j]? with
    | some (some v) => v.category == 1
    | _ => true
def prs (lv : List (Option Value)) : List (Nat × Value) := (List.range lv.length).filterMap fun k => (lv[k]?.join).map fun v => (k, v)
theorem mem_prs {lv : List (Option Value)} {k : Nat} {v : Value} : (k, v) ∈ prs lv ↔ lv[k]? = some (some v) := by
  unfold prs
  rw [List.mem_filterMap]
  constructor
  · rintro ⟨a, -, ha⟩
    cases h : lv[a]? with
    | none => rw [h] at ha; simp at ha
    | some o =>
      rw [h] at ha
      cases o with
      | none => simp at ha
      | some u =>
        simp at ha
        obtain ⟨rfl, rfl⟩ := ha
        exact h
  · intro h
    refine ⟨k, List.mem_range.mpr (List.getElem?_eq_some_iff.mp h).1, ?_⟩
    rw [h]
    rfl
theorem LH.has {ls : Array Slot} {nL : Nat} {lv : List (Option Value)} (h : LH ls nL lv) : lv_has ls nL (prs lv) :=
  ⟨h.1, h.2.1, fun q hq => h.2.2 q.1 q.2 (mem_prs.mp hq)⟩
theorem LH.put {ls : Array Slot} {nL i : Nat} {lv lv' : List (Option Value)} {v : Value} (h : lv_has ls nL ((i, v) :: (prs lv).filter (fun q => !(q.1 == i) && !(q.1 + 1 == i && q.2.category == 2)))) (hok : okSt lv i = true) (e : lv.set i (some v) = lv') : LH ls nL lv' := by
  subst e
  refine ⟨h.1, h.2.1, fun k u hk => ?_⟩
  by_cases hki : i = k
  · subst hki
    have hl := (List.getElem?_eq_some_iff.mp hk).1
    rw [List.length_set] at hl
    rw [List.getElem?_set_self hl] at hk
    cases hk
    exact h.2.2 (i, v) List.mem_cons_self
  · rw [List.getElem?_set_ne hki] at hk
    refine h.2.2 (k, u) (List.mem_cons_of_mem _ (List.mem_filter.mpr ⟨mem_prs.mpr hk, ?_⟩))
    have h1 : (k == i) = false := by simp; omega
    by_cases h2 : k + 1 = i
    · subst h2
      simp only [okSt, hk, beq_iff_eq] at hok
      simp [hok]
    · simp [h2]; omega
theorem LH.put2 {ls : Array Slot} {nL i : Nat} {lv lv' : List (Option Value)} {v : Value} (h : lv_has ls nL ((i, v) :: (prs lv).filter (fun q => !(q.1 == i) && (!(q.1 == i + 1) && !(q.1 + 1 == i && q.2.category == 2))))) (hok : okSt lv i = true) (e : (lv.set i (some v)).set (i + 1) none = lv') : LH ls nL lv' := by
  subst e
  refine ⟨h.1, h.2.1, fun k u hk => ?_⟩
  by_cases hk1 : i + 1 = k
  · subst hk1
    have hl := (List.getElem?_eq_some_iff.mp hk).1
    rw [List.length_set] at hl
    rw [List.getElem?_set_self hl] at hk
    cases hk
  rw [List.getElem?_set_ne hk1] at hk
  by_cases hki : i = k
  · subst hki
    have hl := (List.getElem?_eq_some_iff.mp hk).1
    rw [List.length_set] at hl
    rw [List.getElem?_set_self hl] at hk
    cases hk
    exact h.2.2 (i, v) List.mem_cons_self
  · rw [List.getElem?_set_ne hki] at hk
    refine h.2.2 (k, u) (List.mem_cons_of_mem _ (List.mem_filter.mpr ⟨mem_prs.mpr hk, ?_⟩))
    have h1 : (k == i) = false := by simp; omega
    have h3 : (k == i + 1) = false := by simp; omega
    by_cases h2 : k + 1 = i
    · subst h2
      simp only [okSt, hk, beq_iff_eq] at hok
      simp [hok]; omega
    · simp [h2]; omega
theorem gW_get {Γ : Gx} {w : Wd} {i : Nat} {sh : Sh} (h : (gS Γ)[i]? = some sh) : (gW Γ w)[i]? = some (gad Γ i, celE (gcA Γ) (gad Γ) w i sh) := by
  have := cels_get (cA := gcA Γ) (ad := gad Γ) (w := w) _ 0 i h
  rw [Nat.zero_add] at this
  exact this
theorem gW_set {Γ : Gx} {w w' : Wd} {i : Nat} {sh : Sh} (h : (gS Γ)[i]? = some sh) (hw : ∀ a, a ≠ i → w' a = w a) : (gW Γ w).set i (gad Γ i, celE (gcA Γ) (gad Γ) w' i sh) = gW Γ w' := by
  have := cels_set (cA := gcA Γ) (ad := gad Γ) (w := w) (w' := w') _ 0 i (fun a ha => hw a (by rw [Nat.zero_add] at ha; exact ha)) h
  rw [Nat.zero_add] at this
  exact this
/-- a call's words: of an own or another class's method, by its class's table -/
def CallD (M : Mth) (n : Nat) : Prop := Cond.initialized M.1.cls ∈ AW ∧ Cond.code M.1 M.2.1 M.2.2.1 M.2.2.2 ∈ AW ∧ (M.1.cls ≠ "java/lang/invoke/MethodHandle" ∧ M.1.cls ≠ "java/lang/invoke/VarHandle" ∧ (parseMethodDescriptor M.1.desc).map (fun d => d.parameters.length) = some n) ∧ M.2.2.1 ≤ 45
def CallV (own C : String) (idx : Nat) (M : Mth) (n : Nat) : Prop := Cond.methodLink own idx M.1 ∈ AW ∧ Cond.instanceMethod M.1 ∈ AW ∧ Cond.selects C M.1 M.1 ∈ AW ∧ CallD M n
def CallS (own : String) (idx : Nat) (M : Mth) (n : Nat) : Prop := Cond.methodLink own idx M.1 ∈ AW ∧ Cond.static M.1 ∈ AW ∧ CallD M n
def CallSN (own host : String) (idx : Nat) (M : Mth) (n : Nat) : Prop := Cond.methodLinkNest own idx M.1 host ∈ AW ∧ Cond.static M.1 ∈ AW ∧ CallD M n
theorem wsM_good {M : Mth} (h : Cond.code M.1 M.2.1 M.2.2.1 M.2.2.2 ∈ AW) : GoodIn AW (wsM M) := by
  intro w hw
  rcases List.mem_cons.mp hw with rfl | hw
  · exact ⟨h, AW_good h⟩
  · exact ⟨hw, AW_good hw⟩
theorem Inv_blind {Γ : Gx} {w : Wd} {as : List Value} (hG : GOK Γ) : FrameBlind (va_Pc as (Inv Γ w)) := by
  intro a U g mk h
  obtain ⟨q0, qP, qK, qE⟩ := h
  exact ⟨q0, qP, va_K.moved (u := U) (U := U.calling g mk a) (Vm.Alike.refl U.vm) qK, hG.2.1 U _ qE rfl rfl⟩
section ROWS
variable {Γ : Gx} {X : Mx} {own : String} {cc : ByteArray} {nL d pc : Nat} {ret : Option FieldType} {Q : Option Value → Wd → Prop} {lv : List (Option Value)} {st rest : List Value} {w : Wd}
theorem GG.weak {lv2 : List (Option Value)} (e : ∀ (k : Nat) (v : Value), lv2[k]? = some (some v) → lv[k]? = some (some v)) (k : GG Γ X d nL Q pc lv2 st w) : GG Γ X d nL Q pc lv st w :=
  fun ls H locs hl hP hS => k ls H locs ⟨hl.1, hl.2.1, fun a v h => hl.2.2 a v (e a v h)⟩ hP hS
/-- locals that are looked at no more -/
def lvSub : List (Option Value) → List (Option Value) → Prop
  | [], _ => True
  | none :: a, _ :: b => lvSub a b
  | some u :: a, some v :: b => u = v ∧ lvSub a b
  | some _ :: _, none :: _ => False
  | none :: a, [] => lvSub a []
  | some _ :: _, [] => False
theorem lvSub_spec : ∀ (a b : List (Option Value)), lvSub a b → ∀ (k : Nat) (v : Value), a[k]? = some (some v) → b[k]? = some (some v)
  | [], _, _, k, v, h => by simp at h
  | none :: a, y :: b, hs, 0, v, h => by simp at h
  | none :: a, y :: b, hs, k + 1, v, h => by
    simp only [List.getElem?_cons_succ] at h ⊢
    exact lvSub_spec a b (by simpa [lvSub] using hs) k v h
  | some u :: a, some y :: b, hs, 0, v, h => by
    simp only [lvSub] at hs
    simp at h ⊢
    rw [← hs.1, h]
  | some u :: a, some y :: b, hs, k + 1, v, h => by
    simp only [lvSub] at hs
    simp only [List.getElem?_cons_succ] at h ⊢
    exact lvSub_spec a b hs.2 k v h
  | some u :: a, none :: b, hs, k, v, h => by simp [lvSub] at hs
  | none :: a, [], hs, 0, v, h => by simp at h
  | none :: a, [], hs, k + 1, v, h => by
    simp only [List.getElem?_cons_succ] at h
    have := lvSub_spec a [] (by simpa [lvSub] using hs) k v h
    simp at this
  | some u :: a, [], hs, k, v, h => by simp [lvSub] at hs
theorem GG.sub {lv2 : List (Option Value)} (e : lvSub lv2 lv) (k : GG Γ X d nL Q pc lv2 st w) : GG Γ X d nL Q pc lv st w := GG.weak (lvSub_spec _ _ e) k
theorem GG.atpc {pc2 : Nat} (e : pc2 = pc) (k : GG Γ X d nL Q pc2 lv st w) : GG Γ X d nL Q pc lv st w := e ▸ k
theorem G_iconst (hO : OKM Γ X own cc nL ret) {n : Int} {v : Int32} (hv : Int32.ofInt n = v) (hd : decode cc pc = .ok (.iconst n, 1)) (k : GG Γ X d nL Q (pc + 1) lv (.int v :: st) w) : GG Γ X d nL Q pc lv (st) w := fun ls H locs hl hP hS => lv_iconst hO.1 hO.2.1 hd hv (k ls H locs hl hP hS)
theorem G_bipush (hO : OKM Γ X own cc nL ret) {n : Int} {v : Int32} (hv : (Int8.ofInt n).toInt32 = v) (hd : decode cc pc = .ok (.bipush n, 2)) (k : GG Γ X d nL Q (pc + 2) lv (.int v :: st) w) : GG Γ X d nL Q pc lv (st) w := fun ls H locs hl hP hS => lv_bipush hO.1 hO.2.1 hd hv (k ls H locs hl hP hS)
theorem G_sipush (hO : OKM Γ X own cc nL ret) {n : Int} {v : Int32} (hv : (Int16.ofInt n).toInt32 = v) (hd : decode cc pc = .ok (.sipush n, 3)) (k : GG Γ X d nL Q (pc + 3) lv (.int v :: st) w) : GG Γ X d nL Q pc lv (st) w := fun ls H locs hl hP hS => lv_sipush hO.1 hO.2.1 hd hv (k ls H locs hl hP hS)
theorem G_lconst (hO : OKM Γ X own cc nL ret) {n : Fin 2} {v : Int64} (hv : Int64.ofNat (n : Nat) = v) (hd : decode cc pc = .ok (.lconst n, 1)) (k : GG Γ X d nL Q (pc + 1) lv (.long v :: st) w) : GG Γ X d nL Q pc lv (st) w := fun ls H locs hl hP hS => lv_lconst hO.1 hO.2.1 hd hv (k ls H locs hl hP hS)
theorem G_ldc (hO : OKM Γ X own cc nL ret) {idx : Nat} {v : Int32} (hv : Cond.constant own idx v ∈ AW) (hd : decode cc pc = .ok (.ldc idx, 2)) (k : GG Γ X d nL Q (pc + 2) lv (.int v :: st) w) : GG Γ X d nL Q pc lv st w := fun ls H locs hl hP hS => lv_ldc hO.1 hO.2.1 hO.2.2.2.1 (hO.2.2.2.2.1 _ hv) hd (k ls H locs hl hP hS)
theorem G_ldc_w (hO : OKM Γ X own cc nL ret) {idx : Nat} {v : Int32} (hv : Cond.constant own idx v ∈ AW) (hd : decode cc pc = .ok (.ldc_w idx, 3)) (k : GG Γ X d nL Q (pc + 3) lv (.int v :: st) w) : GG Γ X d nL Q pc lv st w := fun ls H locs hl hP hS => lv_ldcw hO.1 hO.2.1 hO.2.2.2.1 (hO.2.2.2.2.1 _ hv) hd (k ls H locs hl hP hS)
theorem G_ldc2_w (hO : OKM Γ X own cc nL ret) {idx : Nat} {v : Int64} (hv : Cond.constantLong own idx v ∈ AW) (hd : decode cc pc = .ok (.ldc2_w idx, 3)) (k : GG Γ X d nL Q (pc + 3) lv (.long v :: st) w) : GG Γ X d nL Q pc lv st w := fun ls H locs hl hP hS => lv_ldc2 hO.1 hO.2.1 hO.2.2.2.1 (hO.2.2.2.2.1 _ hv) hd (k ls H locs hl hP hS)
theorem G_iload_n (hO : OKM Γ X own cc nL ret) {q : Fin 4} {i : Nat} {x : Int32} (hi : (q : Nat) = i) (hx : lv[i]? = some (some (.int x))) (hd : decode cc pc = .ok (.iload_n q, 1)) (k : GG Γ X d nL Q (pc + 1) lv (.int x :: st) w) : GG Γ X d nL Q pc lv st w := fun ls H locs hl hP hS => lv_iload_n hO.1 hO.2.1 hd hi (hl.2.2 _ _ hx) (k ls H locs hl hP hS)
theorem G_iload (hO : OKM Γ X own cc nL ret) {i : Nat} {x : Int32} (hx : lv[i]? = some (some (.int x))) (hd : decode cc pc = .ok (.iload i, 2)) (k : GG Γ X d nL Q (pc + 2) lv (.int x :: st) w) : GG Γ X d nL Q pc lv st w := fun ls H locs hl hP hS => lv_iload hO.1 hO.2.1 hd (hl.2.2 _ _ hx) (k ls H locs hl hP hS)
theorem G_aload_n (hO : OKM Γ X own cc nL ret) {q : Fin 4} {i : Nat} {x : Nat} (hi : (q : Nat) = i) (hx : lv[i]? = some (some (.ref x))) (hd : decode cc pc = .ok (.aload_n q, 1)) (k : GG Γ X d nL Q (pc + 1) lv (.ref x :: st) w) : GG Γ X d nL Q pc lv st w := fun ls H locs hl hP hS => lv_aload_n hO.1 hO.2.1 hd hi (hl.2.2 _ _ hx) (k ls H locs hl hP hS)
theorem G_aload (hO : OKM Γ X own cc nL ret) {i : Nat} {x : Nat} (hx : lv[i]? = some (some (.ref x))) (hd : decode cc pc = .ok (.aload i, 2)) (k : GG Γ X d nL Q (pc + 2) lv (.ref x :: st) w) : GG Γ X d nL Q pc lv st w := fun ls H locs hl hP hS => lv_aload hO.1 hO.2.1 hd (hl.2.2 _ _ hx) (k ls H locs hl hP hS)
theorem G_lload_n (hO : OKM Γ X own cc nL ret) {q : Fin 4} {i : Nat} {x : Int64} (hi : (q : Nat) = i) (hx : lv[i]? = some (some (.long x))) (hd : decode cc pc = .ok (.lload_n q, 1)) (k : GG Γ X d nL Q (pc + 1) lv (.long x :: st) w) : GG Γ X d nL Q pc lv st w := fun ls H locs hl hP hS => lv_lload_n hO.1 hO.2.1 hd hi (hl.2.2 _ _ hx) (k ls H locs hl hP hS)
theorem G_lload (hO : OKM Γ X own cc nL ret) {i : Nat} {x : Int64} (hx : lv[i]? = some (some (.long x))) (hd : decode cc pc = .ok (.lload i, 2)) (k : GG Γ X d nL Q (pc + 2) lv (.long x :: st) w) : GG Γ X d nL Q pc lv st w := fun ls H locs hl hP hS => lv_lload hO.1 hO.2.1 hd (hl.2.2 _ _ hx) (k ls H locs hl hP hS)
theorem G_istore_n (hO : OKM Γ X own cc nL ret) {q : Fin 4} {i : Nat} {x : Int32} {lv2 : List (Option Value)} (hi : (q : Nat) = i) (hn : i < nL) (hok : okSt lv i = true) (he : lv.set i (some (.int x)) = lv2) (hd : decode cc pc = .ok (.istore_n q, 1)) (k : GG Γ X d nL Q (pc + 1) lv2 st w) : GG Γ X d nL Q pc lv (.int x :: st) w := fun ls H locs hl hP hS => lv_istore_n hO.1 hO.2.1 hd hi hl.has hn rfl (fun ls2 h2 => k ls2 H locs (LH.put h2 hok he) hP hS)
theorem G_istore (hO : OKM Γ X own cc nL ret) {i : Nat} {x : Int32} {lv2 : List (Option Value)} (hn : i < nL) (hok : okSt lv i = true) (he : lv.set i (some (.int x)) = lv2) (hd : decode cc pc = .ok (.istore i, 2)) (k : GG Γ X d nL Q (pc + 2) lv2 st w) : GG Γ X d nL Q pc lv (.int x :: st) w := fun ls H locs hl hP hS => lv_istore hO.1 hO.2.1 hd hl.has hn rfl (fun ls2 h2 => k ls2 H locs (LH.put h2 hok he) hP hS)
theorem G_astore_n (hO : OKM Γ X own cc nL ret) {q : Fin 4} {i : Nat} {x : Nat} {lv2 : List (Option Value)} (hi : (q : Nat) = i) (hn : i < nL) (hok : okSt lv i = true) (he : lv.set i (some (.ref x)) = lv2) (hd : decode cc pc = .ok (.astore_n q, 1)) (k : GG Γ X d nL Q (pc + 1) lv2 st w) : GG Γ X d nL Q pc lv (.ref x :: st) w := fun ls H locs hl hP hS => lv_astore_n hO.1 hO.2.1 hd hi hl.has hn rfl (fun ls2 h2 => k ls2 H locs (LH.put h2 hok he) hP hS)
theorem G_astore (hO : OKM Γ X own cc nL ret) {i : Nat} {x : Nat} {lv2 : List (Option Value)} (hn : i < nL) (hok : okSt lv i = true) (he : lv.set i (some (.ref x)) = lv2) (hd : decode cc pc = .ok (.astore i, 2)) (k : GG Γ X d nL Q (pc + 2) lv2 st w) : GG Γ X d nL Q pc lv (.ref x :: st) w := fun ls H locs hl hP hS => lv_astore hO.1 hO.2.1 hd hl.has hn rfl (fun ls2 h2 => k ls2 H locs (LH.put h2 hok he) hP hS)
theorem G_lstore (hO : OKM Γ X own cc nL ret) {i : Nat} {x : Int64} {lv2 : List (Option Value)} (hn : i + 1 < nL) (hok : okSt lv i = true) (he : (lv.set i (some (.long x))).set (i + 1) none = lv2) (hd : decode cc pc = .ok (.lstore i, 2)) (k : GG Γ X d nL Q (pc + 2) lv2 st w) : GG Γ X d nL Q pc lv (.long x :: st) w := fun ls H locs hl hP hS => lv_lstore hO.1 hO.2.1 hd hl.has hn rfl (fun ls2 h2 => k ls2 H locs (LH.put2 h2 hok he) hP hS)
theorem G_iinc (hO : OKM Γ X own cc nL ret) {i : Nat} {n : Int} {x v : Int32} {lv2 : List (Option Value)} (hx : lv[i]? = some (some (.int x))) (hv : x + Int32.ofInt n = v) (hn : i < nL) (hok : okSt lv i = true) (he : lv.set i (some (.int v)) = lv2) (hd : decode cc pc = .ok (.iinc i n, 3)) (k : GG Γ X d nL Q (pc + 3) lv2 st w) : GG Γ X d nL Q pc lv st w := fun ls H locs hl hP hS => by
  obtain ⟨q, hq⟩ := List.getElem?_of_mem (mem_prs.mpr hx)
  exact lv_iinc hO.1 hO.2.1 hd hl.has hq hv hn rfl (fun ls2 h2 => k ls2 H locs (LH.put h2 hok he) hP hS)
theorem G_iadd (hO : OKM Γ X own cc nL ret) {x y : Int32} (hd : decode cc pc = .ok (.iadd, 1)) (k : GG Γ X d nL Q (pc + 1) lv (.int (x + y) :: st) w) : GG Γ X d nL Q pc lv (.int y :: .int x :: st) w := fun ls H locs hl hP hS => lv_iadd hO.1 hO.2.1 hd  (k ls H locs hl hP hS)
theorem G_isub (hO : OKM Γ X own cc nL ret) {x y : Int32} (hd : decode cc pc = .ok (.isub, 1)) (k : GG Γ X d nL Q (pc + 1) lv (.int (x - y) :: st) w) : GG Γ X d nL Q pc lv (.int y :: .int x :: st) w := fun ls H locs hl hP hS => lv_isub hO.1 hO.2.1 hd  (k ls H locs hl hP hS)
theorem G_imul (hO : OKM Γ X own cc nL ret) {x y : Int32} (hd : decode cc pc = .ok (.imul, 1)) (k : GG Γ X d nL Q (pc + 1) lv (.int (x * y) :: st) w) : GG Γ X d nL Q pc lv (.int y :: .int x :: st) w := fun ls H locs hl hP hS => lv_imul hO.1 hO.2.1 hd  (k ls H locs hl hP hS)
theorem G_iand (hO : OKM Γ X own cc nL ret) {x y : Int32} (hd : decode cc pc = .ok (.iand, 1)) (k : GG Γ X d nL Q (pc + 1) lv (.int (x &&& y) :: st) w) : GG Γ X d nL Q pc lv (.int y :: .int x :: st) w := fun ls H locs hl hP hS => lv_iand hO.1 hO.2.1 hd  (k ls H locs hl hP hS)
theorem G_ior (hO : OKM Γ X own cc nL ret) {x y : Int32} (hd : decode cc pc = .ok (.ior, 1)) (k : GG Γ X d nL Q (pc + 1) lv (.int (x ||| y) :: st) w) : GG Γ X d nL Q pc lv (.int y :: .int x :: st) w := fun ls H locs hl hP hS => lv_ior hO.1 hO.2.1 hd  (k ls H locs hl hP hS)
theorem G_ixor (hO : OKM Γ X own cc nL ret) {x y : Int32} (hd : decode cc pc = .ok (.ixor, 1)) (k : GG Γ X d nL Q (pc + 1) lv (.int (x ^^^ y) :: st) w) : GG Γ X d nL Q pc lv (.int y :: .int x :: st) w := fun ls H locs hl hP hS => lv_ixor hO.1 hO.2.1 hd  (k ls H locs hl hP hS)
theorem G_idiv (hO : OKM Γ X own cc nL ret) {x y : Int32} (hne : ¬ y = 0) (hd : decode cc pc = .ok (.idiv, 1)) (k : GG Γ X d nL Q (pc + 1) lv (.int (x / y) :: st) w) : GG Γ X d nL Q pc lv (.int y :: .int x :: st) w := fun ls H locs hl hP hS => lv_idiv hO.1 hO.2.1 hd hne (k ls H locs hl hP hS)
theorem G_irem (hO : OKM Γ X own cc nL ret) {x y : Int32} (hne : ¬ y = 0) (hd : decode cc pc = .ok (.irem, 1)) (k : GG Γ X d nL Q (pc + 1) lv (.int (x - (x / y) * y) :: st) w) : GG Γ X d nL Q pc lv (.int y :: .int x :: st) w := fun ls H locs hl hP hS => lv_irem hO.1 hO.2.1 hd hne (k ls H locs hl hP hS)
theorem G_ineg (hO : OKM Γ X own cc nL ret) {x : Int32} (hd : decode cc pc = .ok (.ineg, 1)) (k : GG Γ X d nL Q (pc + 1) lv (.int (-x) :: st) w) : GG Γ X d nL Q pc lv (.int x :: st) w := fun ls H locs hl hP hS => lv_ineg hO.1 hO.2.1 hd  (k ls H locs hl hP hS)
theorem G_ishl (hO : OKM Γ X own cc nL ret) {x y : Int32} (hd : decode cc pc = .ok (.ishl, 1)) (k : GG Γ X d nL Q (pc + 1) lv (.int (x <<< (y &&& 31)) :: st) w) : GG Γ X d nL Q pc lv (.int y :: .int x :: st) w := fun ls H locs hl hP hS => lv_ishl hO.1 hO.2.1 hd  (k ls H locs hl hP hS)
theorem G_ishr (hO : OKM Γ X own cc nL ret) {x y : Int32} (hd : decode cc pc = .ok (.ishr, 1)) (k : GG Γ X d nL Q (pc + 1) lv (.int (x >>> (y &&& 31)) :: st) w) : GG Γ X d nL Q pc lv (.int y :: .int x :: st) w := fun ls H locs hl hP hS => lv_ishr hO.1 hO.2.1 hd  (k ls H locs hl hP hS)
theorem G_iushr (hO : OKM Γ X own cc nL ret) {x y : Int32} (hd : decode cc pc = .ok (.iushr, 1)) (k : GG Γ X d nL Q (pc + 1) lv (.int ((x.toUInt32 >>> (y.toUInt32 &&& Int32.toUInt32 31)).toInt32) :: st) w) : GG Γ X d nL Q pc lv (.int y :: .int x :: st) w := fun ls H locs hl hP hS => lv_iushr hO.1 hO.2.1 hd rfl (k ls H locs hl hP hS)
theorem G_ladd (hO : OKM Γ X own cc nL ret) {x y : Int64} (hd : decode cc pc = .ok (.ladd, 1)) (k : GG Γ X d nL Q (pc + 1) lv (.long (x + y) :: st) w) : GG Γ X d nL Q pc lv (.long y :: .long x :: st) w := fun ls H locs hl hP hS => lv_ladd hO.1 hO.2.1 hd  (k ls H locs hl hP hS)
theorem G_lsub (hO : OKM Γ X own cc nL ret) {x y : Int64} (hd : decode cc pc = .ok (.lsub, 1)) (k : GG Γ X d nL Q (pc + 1) lv (.long (x - y) :: st) w) : GG Γ X d nL Q pc lv (.long y :: .long x :: st) w := fun ls H locs hl hP hS => lv_lsub hO.1 hO.2.1 hd  (k ls H locs hl hP hS)
theorem G_lmul (hO : OKM Γ X own cc nL ret) {x y : Int64} (hd : decode cc pc = .ok (.lmul, 1)) (k : GG Γ X d nL Q (pc + 1) lv (.long (x * y) :: st) w) : GG Γ X d nL Q pc lv (.long y :: .long x :: st) w := fun ls H locs hl hP hS => lv_lmul hO.1 hO.2.1 hd  (k ls H locs hl hP hS)
theorem G_i2l (hO : OKM Γ X own cc nL ret) {x : Int32} (hd : decode cc pc = .ok (.i2l, 1)) (k : GG Γ X d nL Q (pc + 1) lv (.long x.toInt64 :: st) w) : GG Γ X d nL Q pc lv (.int x :: st) w := fun ls H locs hl hP hS => lv_i2l hO.1 hO.2.1 hd rfl (k ls H locs hl hP hS)
theorem G_l2i (hO : OKM Γ X own cc nL ret) {x : Int64} (hd : decode cc pc = .ok (.l2i, 1)) (k : GG Γ X d nL Q (pc + 1) lv (.int x.toInt32 :: st) w) : GG Γ X d nL Q pc lv (.long x :: st) w := fun ls H locs hl hP hS => lv_l2i hO.1 hO.2.1 hd rfl (k ls H locs hl hP hS)
theorem G_i2b (hO : OKM Γ X own cc nL ret) {x : Int32} (hd : decode cc pc = .ok (.i2b, 1)) (k : GG Γ X d nL Q (pc + 1) lv (.int x.toInt8.toInt32 :: st) w) : GG Γ X d nL Q pc lv (.int x :: st) w := fun ls H locs hl hP hS => lv_i2b hO.1 hO.2.1 hd rfl (k ls H locs hl hP hS)
theorem G_i2s (hO : OKM Γ X own cc nL ret) {x : Int32} (hd : decode cc pc = .ok (.i2s, 1)) (k : GG Γ X d nL Q (pc + 1) lv (.int x.toInt16.toInt32 :: st) w) : GG Γ X d nL Q pc lv (.int x :: st) w := fun ls H locs hl hP hS => lv_i2s hO.1 hO.2.1 hd rfl (k ls H locs hl hP hS)
theorem G_i2c (hO : OKM Γ X own cc nL ret) {x : Int32} (hd : decode cc pc = .ok (.i2c, 1)) (k : GG Γ X d nL Q (pc + 1) lv (.int (x.toUInt32 % 65536).toInt32 :: st) w) : GG Γ X d nL Q pc lv (.int x :: st) w := fun ls H locs hl hP hS => lv_i2c hO.1 hO.2.1 hd rfl (k ls H locs hl hP hS)
theorem G_lcmp (hO : OKM Γ X own cc nL ret) {x y : Int64} (hd : decode cc pc = .ok (.lcmp, 1)) (k : GG Γ X d nL Q (pc + 1) lv (.int (lg_cmp x y) :: st) w) : GG Γ X d nL Q pc lv (.long y :: .long x :: st) w := fun ls H locs hl hP hS => W.lcmp hO.1 hO.2.1 hd  (k ls H locs hl hP hS)
theorem G_dup (hO : OKM Γ X own cc nL ret) {va : Value} (hva : va.category = 1) (hd : decode cc pc = .ok (.dup, 1)) (k : GG Γ X d nL Q (pc + 1) lv (va :: va :: st) w) : GG Γ X d nL Q pc lv (va :: st) w := fun ls H locs hl hP hS => lv_dup hO.1 hO.2.1 hd hva (k ls H locs hl hP hS)
theorem G_pop (hO : OKM Γ X own cc nL ret) {va : Value} (hva : va.category = 1) (hd : decode cc pc = .ok (.pop, 1)) (k : GG Γ X d nL Q (pc + 1) lv (st) w) : GG Γ X d nL Q pc lv (va :: st) w := fun ls H locs hl hP hS => lv_pop hO.1 hO.2.1 hd hva (k ls H locs hl hP hS)
theorem G_dup_x1 (hO : OKM Γ X own cc nL ret) {va vb : Value} (hva : va.category = 1) (hvb : vb.category = 1) (hd : decode cc pc = .ok (.dup_x1, 1)) (k : GG Γ X d nL Q (pc + 1) lv (va :: vb :: va :: st) w) : GG Γ X d nL Q pc lv (va :: vb :: st) w := fun ls H locs hl hP hS => lv_dup_x1 hO.1 hO.2.1 hd hva hvb (k ls H locs hl hP hS)
theorem G_dup2 (hO : OKM Γ X own cc nL ret) {va vb : Value} (hva : va.category = 1) (hvb : vb.category = 1) (hd : decode cc pc = .ok (.dup2, 1)) (k : GG Γ X d nL Q (pc + 1) lv (va :: vb :: va :: vb :: st) w) : GG Γ X d nL Q pc lv (va :: vb :: st) w := fun ls H locs hl hP hS => lv_dup2_11 hO.1 hO.2.1 hd hva hvb (k ls H locs hl hP hS)
theorem G_if_eq (hO : OKM Γ X own cc nL ret) {x : Int32} {off : Int} {tgt : Nat} (hd : decode cc pc = .ok (.ifCond .eq off, 3)) (ht : (pc : Int) + off = (tgt : Int)) (kt : x = 0 → GG Γ X d nL Q tgt lv st w) (kf : ¬ x = 0 → GG Γ X d nL Q (pc + 3) lv st w) : GG Γ X d nL Q pc lv (.int x :: st) w := fun ls H locs hl hP hS => lv_if_eq hO.1 hO.2.1 hd ht (fun h => kt h ls H locs hl hP hS) (fun h => kf h ls H locs hl hP hS)
theorem G_icmp_eq (hO : OKM Γ X own cc nL ret) {x y : Int32} {off : Int} {tgt : Nat} (hd : decode cc pc = .ok (.if_icmp .eq off, 3)) (ht : (pc : Int) + off = (tgt : Int)) (kt : x = y → GG Γ X d nL Q tgt lv st w) (kf : ¬ x = y → GG Γ X d nL Q (pc + 3) lv st w) : GG Γ X d nL Q pc lv (.int y :: .int x :: st) w := fun ls H locs hl hP hS => lv_icmp_eq hO.1 hO.2.1 hd ht (fun h => kt h ls H locs hl hP hS) (fun h => kf h ls H locs hl hP hS)
theorem G_if_ne (hO : OKM Γ X own cc nL ret) {x : Int32} {off : Int} {tgt : Nat} (hd : decode cc pc = .ok (.ifCond .ne off, 3)) (ht : (pc : Int) + off = (tgt : Int)) (kt : ¬ x = 0 → GG Γ X d nL Q tgt lv st w) (kf : x = 0 → GG Γ X d nL Q (pc + 3) lv st w) : GG Γ X d nL Q pc lv (.int x :: st) w := fun ls H locs hl hP hS => lv_if_ne hO.1 hO.2.1 hd ht (fun h => kt h ls H locs hl hP hS) (fun h => kf h ls H locs hl hP hS)
theorem G_icmp_ne (hO : OKM Γ X own cc nL ret) {x y : Int32} {off : Int} {tgt : Nat} (hd : decode cc pc = .ok (.if_icmp .ne off, 3)) (ht : (pc : Int) + off = (tgt : Int)) (kt : ¬ x = y → GG Γ X d nL Q tgt lv st w) (kf : x = y → GG Γ X d nL Q (pc + 3) lv st w) : GG Γ X d nL Q pc lv (.int y :: .int x :: st) w := fun ls H locs hl hP hS => lv_icmp_ne hO.1 hO.2.1 hd ht (fun h => kt h ls H locs hl hP hS) (fun h => kf h ls H locs hl hP hS)
theorem G_if_lt (hO : OKM Γ X own cc nL ret) {x : Int32} {off : Int} {tgt : Nat} (hd : decode cc pc = .ok (.ifCond .lt off, 3)) (ht : (pc : Int) + off = (tgt : Int)) (kt : x < 0 → GG Γ X d nL Q tgt lv st w) (kf : ¬ x < 0 → GG Γ X d nL Q (pc + 3) lv st w) : GG Γ X d nL Q pc lv (.int x :: st) w := fun ls H locs hl hP hS => lv_if_lt hO.1 hO.2.1 hd ht (fun h => kt h ls H locs hl hP hS) (fun h => kf h ls H locs hl hP hS)
theorem G_icmp_lt (hO : OKM Γ X own cc nL ret) {x y : Int32} {off : Int} {tgt : Nat} (hd : decode cc pc = .ok (.if_icmp .lt off, 3)) (ht : (pc : Int) + off = (tgt : Int)) (kt : x < y → GG Γ X d nL Q tgt lv st w) (kf : ¬ x < y → GG Γ X d nL Q (pc + 3) lv st w) : GG Γ X d nL Q pc lv (.int y :: .int x :: st) w := fun ls H locs hl hP hS => lv_icmp_lt hO.1 hO.2.1 hd ht (fun h => kt h ls H locs hl hP hS) (fun h => kf h ls H locs hl hP hS)
theorem G_if_ge (hO : OKM Γ X own cc nL ret) {x : Int32} {off : Int} {tgt : Nat} (hd : decode cc pc = .ok (.ifCond .ge off, 3)) (ht : (pc : Int) + off = (tgt : Int)) (kt : 0 ≤ x → GG Γ X d nL Q tgt lv st w) (kf : ¬ 0 ≤ x → GG Γ X d nL Q (pc + 3) lv st w) : GG Γ X d nL Q pc lv (.int x :: st) w := fun ls H locs hl hP hS => lv_if_ge hO.1 hO.2.1 hd ht (fun h => kt h ls H locs hl hP hS) (fun h => kf h ls H locs hl hP hS)
theorem G_icmp_ge (hO : OKM Γ X own cc nL ret) {x y : Int32} {off : Int} {tgt : Nat} (hd : decode cc pc = .ok (.if_icmp .ge off, 3)) (ht : (pc : Int) + off = (tgt : Int)) (kt : y ≤ x → GG Γ X d nL Q tgt lv st w) (kf : ¬ y ≤ x → GG Γ X d nL Q (pc + 3) lv st w) : GG Γ X d nL Q pc lv (.int y :: .int x :: st) w := fun ls H locs hl hP hS => lv_icmp_ge hO.1 hO.2.1 hd ht (fun h => kt h ls H locs hl hP hS) (fun h => kf h ls H locs hl hP hS)
theorem G_if_gt (hO : OKM Γ X own cc nL ret) {x : Int32} {off : Int} {tgt : Nat} (hd : decode cc pc = .ok (.ifCond .gt off, 3)) (ht : (pc : Int) + off = (tgt : Int)) (kt : 0 < x → GG Γ X d nL Q tgt lv st w) (kf : ¬ 0 < x → GG Γ X d nL Q (pc + 3) lv st w) : GG Γ X d nL Q pc lv (.int x :: st) w := fun ls H locs hl hP hS => lv_if_gt hO.1 hO.2.1 hd ht (fun h => kt h ls H locs hl hP hS) (fun h => kf h ls H locs hl hP hS)
theorem G_icmp_gt (hO : OKM Γ X own cc nL ret) {x y : Int32} {off : Int} {tgt : Nat} (hd : decode cc pc = .ok (.if_icmp .gt off, 3)) (ht : (pc : Int) + off = (tgt : Int)) (kt : y < x → GG Γ X d nL Q tgt lv st w) (kf : ¬ y < x → GG Γ X d nL Q (pc + 3) lv st w) : GG Γ X d nL Q pc lv (.int y :: .int x :: st) w := fun ls H locs hl hP hS => lv_icmp_gt hO.1 hO.2.1 hd ht (fun h => kt h ls H locs hl hP hS) (fun h => kf h ls H locs hl hP hS)
theorem G_if_le (hO : OKM Γ X own cc nL ret) {x : Int32} {off : Int} {tgt : Nat} (hd : decode cc pc = .ok (.ifCond .le off, 3)) (ht : (pc : Int) + off = (tgt : Int)) (kt : x ≤ 0 → GG Γ X d nL Q tgt lv st w) (kf : ¬ x ≤ 0 → GG Γ X d nL Q (pc + 3) lv st w) : GG Γ X d nL Q pc lv (.int x :: st) w := fun ls H locs hl hP hS => lv_if_le hO.1 hO.2.1 hd ht (fun h => kt h ls H locs hl hP hS) (fun h => kf h ls H locs hl hP hS)
theorem G_icmp_le (hO : OKM Γ X own cc nL ret) {x y : Int32} {off : Int} {tgt : Nat} (hd : decode cc pc = .ok (.if_icmp .le off, 3)) (ht : (pc : Int) + off = (tgt : Int)) (kt : x ≤ y → GG Γ X d nL Q tgt lv st w) (kf : ¬ x ≤ y → GG Γ X d nL Q (pc + 3) lv st w) : GG Γ X d nL Q pc lv (.int y :: .int x :: st) w := fun ls H locs hl hP hS => lv_icmp_le hO.1 hO.2.1 hd ht (fun h => kt h ls H locs hl hP hS) (fun h => kf h ls H locs hl hP hS)
theorem G_goto (hO : OKM Γ X own cc nL ret) {off : Int} {tgt : Nat} (hd : decode cc pc = .ok (.goto off, 3)) (ht : (pc : Int) + off = (tgt : Int)) (k : GG Γ X d nL Q tgt lv st w) : GG Γ X d nL Q pc lv st w := fun ls H locs hl hP hS => lv_goto hO.1 hO.2.1 hd ht (k ls H locs hl hP hS)
theorem G_table (hO : OKM Γ X own cc nL ret) {dflt lo hi : Int} {offs : Array Int} {len tgt : Nat} {x : Int32} (hd : decode cc pc = .ok (.tableswitch dflt lo hi offs, len)) (hsz : hi - lo + 1 = (offs.size : Int)) (ht : (pc : Int) + dflt = (tgt : Int))
    (kin : ∀ (j : Nat) (off : Int), offs[j]? = some off → x.toInt = lo + j → ∀ t : Nat, (pc : Int) + off = (t : Int) → GG Γ X d nL Q t lv st w) (kpos : ∀ (j : Nat) (off : Int), offs[j]? = some off → 0 ≤ (pc : Int) + off) (kout : (x.toInt < lo ∨ hi < x.toInt) → GG Γ X d nL Q tgt lv st w) : GG Γ X d nL Q pc lv (.int x :: st) w := fun ls H locs hl hP hS => by
  by_cases h : x.toInt < lo ∨ hi < x.toInt
  · exact lv_tableOut hO.1 hO.2.1 hd h ht (kout h ls H locs hl hP hS)
  · have h1 : ¬ x.toInt < lo := fun q => h (Or.inl q)
    have h2 : ¬ hi < x.toInt := fun q => h (Or.inr q)
    have hj : (x.toInt - lo).toNat < offs.size := by omega
    have ho := Array.getElem?_eq_getElem hj
    have hp := kpos _ _ ho
    exact lv_tableIn hO.1 hO.2.1 hd h1 h2 ho (tgt := ((pc : Int) + offs[(x.toInt - lo).toNat]).toNat) (by omega) (kin _ _ ho (by omega) _ (by omega) ls H locs hl hP hS)
theorem offset_in {x : Int} {dflt : Int} : ∀ (ps : List (Int × Int)), (∃ q ∈ ps, x = q.1 ∧ Op.lookupswitch.offset ps dflt x = q.2) ∨ ((∀ q ∈ ps, ¬ x = q.1) ∧ Op.lookupswitch.offset ps dflt x = dflt)
  | [] => Or.inr ⟨fun q h => by simp at h, by simp [Op.lookupswitch.offset]⟩
  | (a, o) :: r => by
    rw [Op.lookupswitch.offset_cons]
    by_cases h : a = x
    · exact Or.inl ⟨(a, o), List.mem_cons_self, h.symm, by rw [if_pos h]⟩
    · rw [if_neg h]
      rcases offset_in r with ⟨q, h1, h2, h3⟩ | ⟨h1, h2⟩
      · exact Or.inl ⟨q, List.mem_cons_of_mem _ h1, h2, h3⟩
      · refine Or.inr ⟨fun q hq => ?_, h2⟩
        rcases List.mem_cons.mp hq with rfl | hq
        · exact fun e => h e.symm
        · exact h1 q hq
theorem G_lookup (hO : OKM Γ X own cc nL ret) {dflt : Int} {ps : Array (Int × Int)} {len tgt : Nat} {x : Int32} (hd : decode cc pc = .ok (.lookupswitch dflt ps, len)) (hp : (ps.toList.zip (ps.toList.drop 1)).all (fun (a, next) => a.1 < next.1) = true) (ht : (pc : Int) + dflt = (tgt : Int))
    (kin : ∀ q ∈ ps.toList, x.toInt = q.1 → ∀ t : Nat, (pc : Int) + q.2 = (t : Int) → GG Γ X d nL Q t lv st w) (kpos : ∀ q ∈ ps.toList, 0 ≤ (pc : Int) + q.2) (kout : (∀ q ∈ ps.toList, ¬ x.toInt = q.1) → GG Γ X d nL Q tgt lv st w) : GG Γ X d nL Q pc lv (.int x :: st) w := fun ls H locs hl hP hS => by
  rcases offset_in (x := x.toInt) (dflt := dflt) ps.toList with ⟨q, h1, h2, h3⟩ | ⟨h1, h2⟩
  · have := kpos q h1
    exact lv_lookup hO.1 hO.2.1 hd hp h3 (tgt := ((pc : Int) + q.2).toNat) (by omega) (kin q h1 h2 _ (by omega) ls H locs hl hP hS)
  · exact lv_lookup hO.1 hO.2.1 hd hp h2 ht (kout h1 ls H locs hl hP hS)
theorem G_iaload (hO : OKM Γ X own cc nL ret) {i n : Nat} {j : Int32} (hs : (gS Γ)[i]? = some (.inl (0, n, []))) (hin : vp_in j n) (hd : decode cc pc = .ok (.iaload, 1)) (k : GG Γ X d nL Q (pc + 1) lv (.int (w i j.toNatClampNeg) :: st) w) : GG Γ X d nL Q pc lv (.int j :: .ref (gad Γ i) :: st) w := fun ls H locs hl hP hS =>
  va_iald hO.1 hO.2.1 hO.2.2.2.2.2.2.2.1 hP i 0 (f := w i) (gW_get hs) rfl hin hd (k ls H locs hl hP hS)
theorem G_baload (hO : OKM Γ X own cc nL ret) {i n : Nat} {j : Int32} (hs : (gS Γ)[i]? = some (.inl (1, n, []))) (hin : vp_in j n) (hd : decode cc pc = .ok (.baload, 1)) (k : GG Γ X d nL Q (pc + 1) lv (.int (w i j.toNatClampNeg) :: st) w) : GG Γ X d nL Q pc lv (.int j :: .ref (gad Γ i) :: st) w := fun ls H locs hl hP hS =>
  va_zald hO.1 hO.2.1 hO.2.2.2.2.2.2.2.1 hP i 1 (f := w i) (gW_get hs) rfl hin hd (k ls H locs hl hP hS)
theorem G_iastore (hO : OKM Γ X own cc nL ret) {i n : Nat} {j x : Int32} (hs : (gS Γ)[i]? = some (.inl (0, n, []))) (hin : vp_in j n) (hd : decode cc pc = .ok (.iastore, 1)) (k : GG Γ X d nL Q (pc + 1) lv st (wset w i j.toNatClampNeg x)) : GG Γ X d nL Q pc lv (.int x :: .int j :: .ref (gad Γ i) :: st) w := fun ls H locs hl hP hS =>
  va_iast hO.1 hO.2.1 hO.2.2.2.2.2.2.2.1 hP (gW_D hO.2.2.2.2.2.2.2.2.1 w) hS i 0 (f := w i) (gW_get hs) rfl hin hd (fun H1 locs1 hP1 _ hS1 => k ls H1 locs1 hl (by
    have e := gW_set (w := w) (w' := wset w i j.toNatClampNeg x) hs (fun a ha => wset_off w i _ a x ha)
    rw [← e]
    simp only [celE, wset_row]
    exact hP1) hS1)
theorem G_bastore (hO : OKM Γ X own cc nL ret) {i n : Nat} {j x : Int32} (hs : (gS Γ)[i]? = some (.inl (1, n, []))) (hin : vp_in j n) (hb : x &&& 1 = x) (hd : decode cc pc = .ok (.bastore, 1)) (k : GG Γ X d nL Q (pc + 1) lv st (wset w i j.toNatClampNeg x)) : GG Γ X d nL Q pc lv (.int x :: .int j :: .ref (gad Γ i) :: st) w := fun ls H locs hl hP hS =>
  va_zast hO.1 hO.2.1 hO.2.2.2.2.2.2.2.1 hP (gW_D hO.2.2.2.2.2.2.2.2.1 w) hS i 1 (f := w i) (gW_get hs) rfl hin hd (fun H1 locs1 hP1 _ hS1 => k ls H1 locs1 hl (by
    have e := gW_set (w := w) (w' := wset w i j.toNatClampNeg x) hs (fun a ha => wset_off w i _ a x ha)
    rw [← e]
    simp only [celE, wset_row]
    have en : vp_nar .boolean x = x := by simp [vp_nar, narrow, hb]
    rw [en] at hP1
    exact hP1) hS1)
theorem G_aaload (hO : OKM Γ X own cc nL ret) {i t n r : Nat} {rs : List Nat} {j : Int32} {C : String} (hs : (gS Γ)[i]? = some (.inl (t, n, r :: rs))) (hC : (gTys (gcA Γ))[t]? = some (gcA Γ t, .object C)) (hin : vp_in j n) (hd : decode cc pc = .ok (.aaload, 1)) (k : GG Γ X d nL Q (pc + 1) lv (.ref (gad Γ (rfa (r :: rs) j.toNatClampNeg)) :: st) w) : GG Γ X d nL Q pc lv (.int j :: .ref (gad Γ i) :: st) w := fun ls H locs hl hP hS =>
  va_aldq hO.1 hO.2.1 hO.2.2.2.2.2.2.2.1 hP i t (gW_get hs) hC hin hd (k ls H locs hl hP hS)
theorem G_alen (hO : OKM Γ X own cc nL ret) {i t n : Nat} {ty : FieldType} {v : Int32} (hs : (gS Γ)[i]? = some (.inl (t, n, []))) (hC : (gTys (gcA Γ))[t]? = some (gcA Γ t, ty)) (hv : Int32.ofNat n = v) (hd : decode cc pc = .ok (.arraylength, 1)) (k : GG Γ X d nL Q (pc + 1) lv (.int v :: st) w) : GG Γ X d nL Q pc lv (.ref (gad Γ i) :: st) w := fun ls H locs hl hP hS =>
  va_alen hO.1 hO.2.1 hO.2.2.2.2.2.2.2.1 hP i t (gW_get hs) hC hv hd (k ls H locs hl hP hS)
theorem G_alenr (hO : OKM Γ X own cc nL ret) {i t n r : Nat} {rs : List Nat} {ty : FieldType} {v : Int32} (hs : (gS Γ)[i]? = some (.inl (t, n, r :: rs))) (hC : (gTys (gcA Γ))[t]? = some (gcA Γ t, ty)) (hv : Int32.ofNat n = v) (hd : decode cc pc = .ok (.arraylength, 1)) (k : GG Γ X d nL Q (pc + 1) lv (.int v :: st) w) : GG Γ X d nL Q pc lv (.ref (gad Γ i) :: st) w := fun ls H locs hl hP hS =>
  va_alen hO.1 hO.2.1 hO.2.2.2.2.2.2.2.1 hP i t (gW_get hs) hC hv hd (k ls H locs hl hP hS)
theorem G_get (hO : OKM Γ X own cc nL ret) {i ci N idx fk : Nat} {fks : List Nat} {C : String} {T : u_T} {v : Value} (kk : Nat) (hs : (gS Γ)[i]? = some (.inr (ci, fks))) (hc : vwCl[ci]? = some (C, T, N)) (hin : ∀ w ∈ u_ws C T N, w ∈ AW) (hk : kk < N) (hlk : Cond.fieldLink own idx (T kk).1 (T kk).2.1 (T kk).2.2.1 ∈ AW) (hf : fks[kk]? = some fk) (hv : fvl (gad Γ) w i kk fk = v) (hd : decode cc pc = .ok (.getfield idx, 3)) (k : GG Γ X d nL Q (pc + 3) lv (v :: st) w) : GG Γ X d nL Q pc lv (.ref (gad Γ i) :: st) w := fun ls H locs hl hP hS =>
  va_get hO.1 hO.2.1 hO.2.2.2.2.1 hin hO.2.2.2.1 hO.2.2.2.2.2.2.2.1 hP i (gW_get hs) hc kk hk (hO.2.2.2.2.1 _ hlk) (fun _ h => h) (by rw [flds_get fks 0 kk hf, Nat.zero_add, hv]) hd (k ls H locs hl hP hS)
theorem G_put (hO : OKM Γ X own cc nL ret) {i ci N idx fk : Nat} {fks : List Nat} {C : String} {T : u_T} {x : Int32} {v : Value} {ty : FieldType} (ty0 : Nat → FieldType) (kk : Nat) (hs : (gS Γ)[i]? = some (.inr (ci, fks))) (hc : vwCl[ci]? = some (C, T, N)) (hin : ∀ w ∈ u_ws C T N, w ∈ AW) (hty : ∀ k, k < N → parseFieldDescriptor (T k).2.2.1 = some (ty0 k)) (hnm : ∀ a, a < N → ∀ b, b < N → a ≠ b → (T a).2.1 ≠ (T b).2.1) (hk : kk < N) (hlk : Cond.fieldLink own idx (T kk).1 (T kk).2.1 (T kk).2.2.1 ∈ AW) (hfin : (T kk).2.2.2 = false) (he : ty0 kk = ty) (hn : narrow ty v = v) (hfit : fits ty v = true) (hf : fks[kk]? = some fk) (hv : ∀ j : Nat, fvl (gad Γ) (wset w i j x) i j fk = v) (hd : decode cc pc = .ok (.putfield idx, 3)) (k : GG Γ X d nL Q (pc + 3) lv st (wset w i kk x)) : GG Γ X d nL Q pc lv (v :: .ref (gad Γ i) :: st) w := fun ls H locs hl hP hS => by
  have hlen : kk < (flds (gad Γ) w i 0 fks).length := by rw [flds_len]; exact (List.getElem?_eq_some_iff.mp hf).1
  refine va_put hO.1 hO.2.1 hO.2.2.2.2.1 hin ty0 hty hnm hO.2.2.2.1 hO.2.2.2.2.2.2.2.1 hP (gW_D hO.2.2.2.2.2.2.2.2.1 w) hS i (gW_get hs) hc kk hk (hO.2.2.2.2.1 _ hlk) (fun _ h => h) hfin (hd := by rw [hty kk hk, he]) hn hfit hlen hd (fun H1 locs1 hP1 _ hS1 => k ls H1 locs1 hl ?_ hS1)
  have e := gW_set (w := w) (w' := wset w i kk x) hs (fun a ha => wset_off w i _ a x ha)
  rw [← e]
  have e2 := flds_set (ad := gad Γ) (w := w) (i := i) (v := x) v hv fks 0 kk hf
  rw [Nat.zero_add] at e2
  simp only [celE, ← e2]
  exact hP1
theorem run_go {H : Heap} {ls : Array Slot} {locs : List Loc} {st0 : List Value} {a : Array Value} {Q' : Option Value → Wd → Prop} (hO : OKM Γ X own cc nL ret) (hr : va_Run (xp X) (Gl Γ) (xe X) (rmd d) (xs X) (xm X) (xa X) (xb X) (xt X) (xc X) H locs 0 0 0 0 (F0 (xm X) pc ls st0) rest (QG Γ Q' a) (gA Γ))
    (hl : LH ls nL lv) (hS : va_S (gA Γ) (xs X).heap H locs) (k : ∀ r w', Q' r w' → GG Γ X d nL Q (pc + 3) lv (r.toList ++ rest) w') : W (xp X) (Gl Γ) (xe X) (rmd d) (xs X) (xm X) (xa X) (xb X) (xt X) (xc X) H locs 0 0 (MQ (xb X) (QG Γ Q) (xa X) (xs X) 0 0 (gA Γ)) (F0 (xm X) pc ls st0) := by
  intro T hT Y
  obtain ⟨v, st₀, t, T', L, h0, X', hL, e1, e2, ⟨⟨r, w', hv, hq, hP', -⟩, hz, hk⟩, stp⟩ := hr T hT Y
  cases hv
  rw [h0] at hz hk
  obtain ⟨t2, a1, b1⟩ := k v w' hq ls T'.heap (locs ++ L) hl (by rw [e1]; exact hP')
    ⟨Nat.le_trans hS.1 (by rw [e1]; exact hz), fun q h1 h2 => by rw [e1, hk q (Nat.lt_of_lt_of_le h1 hS.1) h2]; exact hS.2.1 q h1 h2, fun q hq => by
      rcases List.mem_append.mp hq with h | h
      · exact hS.2.2 q h
      · exact hL q h⟩ T' rfl X'
  exact ⟨t2, stp t2 a1, b1⟩
theorem Inv_here {H : Heap} {locs : List Loc} (hO : OKM Γ X own cc nL ret) (hP : va_P (gD Γ) vwCl (gW Γ w) H) (hS : va_S (gA Γ) (xs X).heap H locs) {U : State} (hU : U.heap = H) (hW : (xs X).WarmedH U.vm) : Inv Γ w U := by
  obtain ⟨-, -, -, -, -, -, -, hK, hG, hE⟩ := hO
  exact ⟨by rw [hU]; exact hP, va_K.moved hW.alike hK, hG.2.2 (xs X) U hE hW (by rw [hU]; exact hS.1) (by rw [hU]; exact hS.2.1)⟩
theorem callD_B {M : Mth} {n idx : Nat} (hO : OKM Γ X own cc nL ret) (hw : CallD M n) (hl : Cond.methodLink own idx M.1 ∈ AW) : CallB (rmd (d + 1)) (xs X) (xa X) own idx M.1 M.2.1 M.2.2.1 M.2.2.2 (wsM M) (rmd d) 0 0 n := by
  obtain ⟨h1, h2, h3, h4⟩ := hw
  refine callB_of n hO.2.2.2.2.1 (wsM_good h2) rfl rfl rfl (hO.2.2.2.2.1 _ h1) (hO.2.2.2.2.1 _ hl) h3 ⟨Nat.le_refl _, ?_⟩
  show 8 + (M.2.2.1 + 11) + 64 * d ≤ 64 * (d + 1)
  omega
theorem G_callV (hO : OKM Γ X own cc nL ret) {M : Mth} {idx n i ci N : Nat} {fks : List Nat} {C : String} {T : u_T} {As : List Value} {K : Option Value → Wd → Prop} (h : Con Γ d M (.ref (gad Γ i) :: As) w K) (hw : CallV own C idx M n) (hs : (gS Γ)[i]? = some (.inr (ci, fks))) (hc : vwCl[ci]? = some (C, T, N)) (hn : As.length = n) (hr : (rest.map fun v => v.category).sum ≤ 8) (hd : decode cc pc = .ok (.invokevirtual idx, 3)) (k : ∀ r w', K r w' → GG Γ X (d + 1) nL Q (pc + 3) lv (r.toList ++ rest) w') (hst : st = As.reverse ++ .ref (gad Γ i) :: rest) : GG Γ X (d + 1) nL Q pc lv st w := fun ls H locs hl hP hS => by
  obtain ⟨h1, h2, h3, h4⟩ := hw
  exact run_go hO (va_runV (As := As) (rest := rest) ⟨hO.1, hO.2.1, hO.2.2.1, hO.2.2.2.1, hO.2.2.2.2.1⟩ h ⟨callD_B hO h4 h1, hO.2.2.2.2.1 _ h2, hO.2.2.2.2.1 _ h3⟩ ⟨Inv_blind hO.2.2.2.2.2.2.2.2.1, va_recv hO.2.2.2.2.2.2.2.1 hP hc (gW_get hs), fun U hU hW => ⟨rfl, Inv_here hO hP hS hU hW⟩⟩ rfl hn hl.1 hst (lv_room hr) hd ⟨Nat.le_refl _, Nat.le_refl _⟩) hl hS k
theorem G_callS (hO : OKM Γ X own cc nL ret) {M : Mth} {idx n : Nat} {As : List Value} {K : Option Value → Wd → Prop} (h : Con Γ d M As w K) (hw : CallS own idx M n) (hn : As.length = n) (hr : (rest.map fun v => v.category).sum ≤ 8) (hd : decode cc pc = .ok (.invokestatic idx, 3)) (k : ∀ r w', K r w' → GG Γ X (d + 1) nL Q (pc + 3) lv (r.toList ++ rest) w') (hst : st = As.reverse ++ rest) : GG Γ X (d + 1) nL Q pc lv st w := fun ls H locs hl hP hS => by
  obtain ⟨h1, h2, h4⟩ := hw
  exact run_go hO (va_runS (As := As) (rest := rest) ⟨hO.1, hO.2.1, hO.2.2.1, hO.2.2.2.1, hO.2.2.2.2.1⟩ h ⟨callD_B hO h4 h1, hO.2.2.2.2.1 _ h2⟩ ⟨Inv_blind hO.2.2.2.2.2.2.2.2.1, fun U hU hW => ⟨rfl, Inv_here hO hP hS hU hW⟩⟩ rfl hn hl.1 hst (lv_room hr) hd ⟨Nat.le_refl _, Nat.le_refl _⟩) hl hS k
theorem G_callSN (hO : OKM Γ X own cc nL ret) {M : Mth} {idx n : Nat} {host : String} {As : List Value} {K : Option Value → Wd → Prop} (h : Con Γ d M As w K) (hw : CallSN own host idx M n) (hn : As.length = n) (hr : (rest.map fun v => v.category).sum ≤ 8) (hd : decode cc pc = .ok (.invokestatic idx, 3)) (k : ∀ r w', K r w' → GG Γ X (d + 1) nL Q (pc + 3) lv (r.toList ++ rest) w') (hst : st = As.reverse ++ rest) : GG Γ X (d + 1) nL Q pc lv st w := fun ls H locs hl hP hS => by
  obtain ⟨h1, h2, g1, g2, g3, g4⟩ := hw
  have hl1 : va_Nw (.methodLinkNest own idx M.1 host) (xs X) := word_at (State.WarmedH.refl (xs X)) (AW_good h1) (hO.2.2.2.2.1 _ h1)
  refine run_go hO (va_runSN (As := As) (rest := rest) ⟨hO.1, hO.2.1, hO.2.2.1, hO.2.2.2.1, hO.2.2.2.2.1⟩ h ⟨va_cnB n hO.2.2.2.2.1 (wsM_good g2) rfl rfl rfl hl1 (hO.2.2.2.2.1 _ g1) g3 ⟨Nat.le_refl _, ?_⟩, hO.2.2.2.2.1 _ h2, trivial⟩ ⟨Inv_blind hO.2.2.2.2.2.2.2.2.1, fun U hU hW => ⟨rfl, Inv_here hO hP hS hU hW⟩⟩ rfl hn hl.1 hst (lv_room hr) hd ⟨Nat.le_refl _, Nat.le_refl _⟩) hl hS k
  show 8 + (M.2.2.1 + 11) + 64 * d ≤ 64 * (d + 1)
  omega
theorem G_callVi (hO : OKM Γ X own cc nL ret) {M : Mth} {idx n i ci N : Nat} {fks : List Nat} {C : String} {T : u_T} {As : List Value} {K : Int32 → Wd → Prop} (h : CI Γ d M (.ref (gad Γ i) :: As) w K) (hw : CallV own C idx M n) (hs : (gS Γ)[i]? = some (.inr (ci, fks))) (hc : vwCl[ci]? = some (C, T, N)) (hn : As.length = n) (hr : (rest.map fun v => v.category).sum ≤ 8) (hd : decode cc pc = .ok (.invokevirtual idx, 3)) (k : ∀ v w', K v w' → GG Γ X (d + 1) nL Q (pc + 3) lv (.int v :: rest) w') (hst : st = As.reverse ++ .ref (gad Γ i) :: rest) : GG Γ X (d + 1) nL Q pc lv st w := G_callV hO h hw hs hc hn hr hd (fun r w' ⟨v, e, hk⟩ => by subst e; exact k v w' hk) hst
theorem G_callVv (hO : OKM Γ X own cc nL ret) {M : Mth} {idx n i ci N : Nat} {fks : List Nat} {C : String} {T : u_T} {As : List Value} {K : Wd → Prop} (h : CV Γ d M (.ref (gad Γ i) :: As) w K) (hw : CallV own C idx M n) (hs : (gS Γ)[i]? = some (.inr (ci, fks))) (hc : vwCl[ci]? = some (C, T, N)) (hn : As.length = n) (hr : (rest.map fun v => v.category).sum ≤ 8) (hd : decode cc pc = .ok (.invokevirtual idx, 3)) (k : ∀ w', K w' → GG Γ X (d + 1) nL Q (pc + 3) lv rest w') (hst : st = As.reverse ++ .ref (gad Γ i) :: rest) : GG Γ X (d + 1) nL Q pc lv st w := G_callV hO h hw hs hc hn hr hd (fun r w' ⟨e, hk⟩ => by subst e; exact k w' hk) hst
theorem G_callVl (hO : OKM Γ X own cc nL ret) {M : Mth} {idx n i ci N : Nat} {fks : List Nat} {C : String} {T : u_T} {As : List Value} {K : Int64 → Wd → Prop} (h : CL Γ d M (.ref (gad Γ i) :: As) w K) (hw : CallV own C idx M n) (hs : (gS Γ)[i]? = some (.inr (ci, fks))) (hc : vwCl[ci]? = some (C, T, N)) (hn : As.length = n) (hr : (rest.map fun v => v.category).sum ≤ 8) (hd : decode cc pc = .ok (.invokevirtual idx, 3)) (k : ∀ v w', K v w' → GG Γ X (d + 1) nL Q (pc + 3) lv (.long v :: rest) w') (hst : st = As.reverse ++ .ref (gad Γ i) :: rest) : GG Γ X (d + 1) nL Q pc lv st w := G_callV hO h hw hs hc hn hr hd (fun r w' ⟨v, e, hk⟩ => by subst e; exact k v w' hk) hst
theorem G_callSi (hO : OKM Γ X own cc nL ret) {M : Mth} {idx n : Nat} {As : List Value} {K : Int32 → Wd → Prop} (h : CI Γ d M As w K) (hw : CallS own idx M n) (hn : As.length = n) (hr : (rest.map fun v => v.category).sum ≤ 8) (hd : decode cc pc = .ok (.invokestatic idx, 3)) (k : ∀ v w', K v w' → GG Γ X (d + 1) nL Q (pc + 3) lv (.int v :: rest) w') (hst : st = As.reverse ++ rest) : GG Γ X (d + 1) nL Q pc lv st w := G_callS hO h hw hn hr hd (fun r w' ⟨v, e, hk⟩ => by subst e; exact k v w' hk) hst
theorem G_callSv (hO : OKM Γ X own cc nL ret) {M : Mth} {idx n : Nat} {As : List Value} {K : Wd → Prop} (h : CV Γ d M As w K) (hw : CallS own idx M n) (hn : As.length = n) (hr : (rest.map fun v => v.category).sum ≤ 8) (hd : decode cc pc = .ok (.invokestatic idx, 3)) (k : ∀ w', K w' → GG Γ X (d + 1) nL Q (pc + 3) lv rest w') (hst : st = As.reverse ++ rest) : GG Γ X (d + 1) nL Q pc lv st w := G_callS hO h hw hn hr hd (fun r w' ⟨e, hk⟩ => by subst e; exact k w' hk) hst
theorem G_callSl (hO : OKM Γ X own cc nL ret) {M : Mth} {idx n : Nat} {As : List Value} {K : Int64 → Wd → Prop} (h : CL Γ d M As w K) (hw : CallS own idx M n) (hn : As.length = n) (hr : (rest.map fun v => v.category).sum ≤ 8) (hd : decode cc pc = .ok (.invokestatic idx, 3)) (k : ∀ v w', K v w' → GG Γ X (d + 1) nL Q (pc + 3) lv (.long v :: rest) w') (hst : st = As.reverse ++ rest) : GG Γ X (d + 1) nL Q pc lv st w := G_callS hO h hw hn hr hd (fun r w' ⟨v, e, hk⟩ => by subst e; exact k v w' hk) hst
theorem G_callSNi (hO : OKM Γ X own cc nL ret) {M : Mth} {idx n : Nat} {host : String} {As : List Value} {K : Int32 → Wd → Prop} (h : CI Γ d M As w K) (hw : CallSN own host idx M n) (hn : As.length = n) (hr : (rest.map fun v => v.category).sum ≤ 8) (hd : decode cc pc = .ok (.invokestatic idx, 3)) (k : ∀ v w', K v w' → GG Γ X (d + 1) nL Q (pc + 3) lv (.int v :: rest) w') (hst : st = As.reverse ++ rest) : GG Γ X (d + 1) nL Q pc lv st w := G_callSN hO h hw hn hr hd (fun r w' ⟨v, e, hk⟩ => by subst e; exact k v w' hk) hst
theorem G_callSNv (hO : OKM Γ X own cc nL ret) {M : Mth} {idx n : Nat} {host : String} {As : List Value} {K : Wd → Prop} (h : CV Γ d M As w K) (hw : CallSN own host idx M n) (hn : As.length = n) (hr : (rest.map fun v => v.category).sum ≤ 8) (hd : decode cc pc = .ok (.invokestatic idx, 3)) (k : ∀ w', K w' → GG Γ X (d + 1) nL Q (pc + 3) lv rest w') (hst : st = As.reverse ++ rest) : GG Γ X (d + 1) nL Q pc lv st w := G_callSN hO h hw hn hr hd (fun r w' ⟨e, hk⟩ => by subst e; exact k w' hk) hst
theorem G_callSNl (hO : OKM Γ X own cc nL ret) {M : Mth} {idx n : Nat} {host : String} {As : List Value} {K : Int64 → Wd → Prop} (h : CL Γ d M As w K) (hw : CallSN own host idx M n) (hn : As.length = n) (hr : (rest.map fun v => v.category).sum ≤ 8) (hd : decode cc pc = .ok (.invokestatic idx, 3)) (k : ∀ v w', K v w' → GG Γ X (d + 1) nL Q (pc + 3) lv (.long v :: rest) w') (hst : st = As.reverse ++ rest) : GG Γ X (d + 1) nL Q pc lv st w := G_callSN hO h hw hn hr hd (fun r w' ⟨v, e, hk⟩ => by subst e; exact k v w' hk) hst
theorem G_iret (hO : OKM Γ X own cc nL ret) {ty : FieldType} {v : Int32} (hr : ret = some ty) (hn : narrow ty (.int v) = .int v) (hd : decode cc pc = .ok (.ireturn, 1)) (h : Q (some (.int v)) w) : GG Γ X d nL Q pc lv [.int v] w := fun ls H locs hl hP hS =>
  W.zret (Qc := QG Γ Q) (free := gA Γ) hO.1 hO.2.1 (hO.2.2.2.2.2.1.trans hr) hn (fun t ht hW => ⟨⟨_, w, rfl, h, by rw [ht]; exact hP, va_K.moved hW.alike hO.2.2.2.2.2.2.2.1⟩, hS.F ht⟩) hS.2.2 hd hO.2.2.2.2.2.2.1
theorem G_lret (hO : OKM Γ X own cc nL ret) {v : Int64} (hr : ret = some .long) (hd : decode cc pc = .ok (.lreturn, 1)) (h : Q (some (.long v)) w) : GG Γ X d nL Q pc lv [.long v] w := fun ls H locs hl hP hS =>
  W.lret (Qc := QG Γ Q) (free := gA Γ) hO.1 hO.2.1 (hO.2.2.2.2.2.1.trans hr) (fun t ht hW => ⟨⟨_, w, rfl, h, by rw [ht]; exact hP, va_K.moved hW.alike hO.2.2.2.2.2.2.2.1⟩, hS.F ht⟩) hS.2.2 hd hO.2.2.2.2.2.2.1
theorem G_vret (hO : OKM Γ X own cc nL ret) (hr : ret = none) (hd : decode cc pc = .ok (.return_, 1)) (h : Q none w) : GG Γ X d nL Q pc lv [] w := fun ls H locs hl hP hS =>
  W.vret (Qc := QG Γ Q) (free := gA Γ) hO.1 hO.2.1 (hO.2.2.2.2.2.1.trans hr) (fun t ht hW => ⟨⟨_, w, rfl, h, by rw [ht]; exact hP, va_K.moved hW.alike hO.2.2.2.2.2.2.2.1⟩, hS.F ht⟩) hS.2.2 hd hO.2.2.2.2.2.2.1
theorem G_copy (hO : OKM Γ X own cc nL ret) {idx i i2 n0 n1 : Nat} {sp dp n : Int32} (hlk : Cond.methodLink own idx arraycopyName ∈ AW) (hna : Cond.native arraycopyName ∈ AW) (hst : Cond.static arraycopyName ∈ AW) (hini : Cond.initialized "java/lang/System" ∈ AW)
    (hs : (gS Γ)[i]? = some (.inl (0, n0, []))) (hs2 : (gS Γ)[i2]? = some (.inl (0, n1, []))) (h1 : ¬ sp < 0) (h2 : ¬ dp < 0) (h3 : ¬ n < 0) (h4 : sp.toNatClampNeg + n.toNatClampNeg ≤ n0) (h5 : dp.toNatClampNeg + n.toNatClampNeg ≤ n1) (hr : (rest.map fun v => v.category).sum ≤ 8) (hd : decode cc pc = .ok (.invokestatic idx, 3))
    (k : GG Γ X (d + 1) nL Q (pc + 3) lv rest (wcpy w i i2 sp.toNatClampNeg dp.toNatClampNeg n.toNatClampNeg)) : GG Γ X (d + 1) nL Q pc lv (.int n :: .int dp :: .ref (gad Γ i2) :: .int sp :: .ref (gad Γ i) :: rest) w := fun ls H locs hl hP hS => by
  refine va_copyi hO.1 hO.2.1 (hO.2.2.1.trans hl.1.symm) hO.2.2.2.1 (hO.2.2.2.2.1 _ hlk) (hO.2.2.2.2.1 _ hna) (hO.2.2.2.2.1 _ hst) (hO.2.2.2.2.1 _ hini) hO.2.2.2.2.2.2.2.1 hP (gW_D hO.2.2.2.2.2.2.2.2.1 w) hS i i2 0 0 (f := w i) (g := w i2) (gW_get hs) (gW_get hs2) rfl rfl rfl h1 h2 h3 h4 h5 (fun _ _ => rfl) ?_ ?_ hd (fun H1 locs1 hP1 _ hS1 => k ls H1 locs1 hl ?_ hS1)
  · show 1 ≤ d + 1
    omega
  · show _ + _ ≤ 64 * (d + 1)
    have : nativeFrameWords "java/lang/System" "arraycopy" 5 + 11 ≤ 56 := by decide +kernel
    omega
  · have e := gW_set (w := w) (w' := wcpy w i i2 sp.toNatClampNeg dp.toNatClampNeg n.toNatClampNeg) hs2 (fun a ha => wcpy_off w i i2 _ _ _ a ha)
    rw [← e]
    simp only [celE, wcpy_row]
    exact hP1
end ROWS
end
