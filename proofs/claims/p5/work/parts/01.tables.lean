-- ===== PART A: goes FIRST, ahead of the names: the tables' words, and 'selects' of the private methods out of them =====
/-- a private method of a class that the tables say can be made, by its rows of tables_1 -/
def lw_okq (q : MethodName × Nat) : Prop := (q.1.cls ≠ "java/lang/invoke/MethodHandle" ∧ q.1.cls ≠ "java/lang/invoke/VarHandle") ∧ Cond.instantiable q.1.cls q.2 ∈ tables_1 ∧ Cond.privateMethod q.1 ∈ tables_1 ∧ Cond.instanceMethod q.1 ∈ tables_1
theorem lw_p0 : lw_okq (⟨"SandwichesSpeak$Reader", "readToken", "()V"⟩, 9) := ⟨⟨by decide +kernel, by decide +kernel⟩, List.mem_of_getElem? (i := 28) (by decide +kernel), List.mem_of_getElem? (i := 212) (by decide +kernel), List.mem_of_getElem? (i := 213) (by decide +kernel)⟩
theorem lw_p1 : lw_okq (⟨"SandwichesSpeak$Reader", "readWord", "()V"⟩, 9) := ⟨⟨by decide +kernel, by decide +kernel⟩, List.mem_of_getElem? (i := 28) (by decide +kernel), List.mem_of_getElem? (i := 219) (by decide +kernel), List.mem_of_getElem? (i := 220) (by decide +kernel)⟩
theorem lw_p2 : lw_okq (⟨"SandwichesSpeak$Reader", "wordNumber", "()I"⟩, 9) := ⟨⟨by decide +kernel, by decide +kernel⟩, List.mem_of_getElem? (i := 28) (by decide +kernel), List.mem_of_getElem? (i := 223) (by decide +kernel), List.mem_of_getElem? (i := 224) (by decide +kernel)⟩
theorem lw_p3 : lw_okq (⟨"SandwichesSpeak$Reader", "readNumeral", "()V"⟩, 9) := ⟨⟨by decide +kernel, by decide +kernel⟩, List.mem_of_getElem? (i := 28) (by decide +kernel), List.mem_of_getElem? (i := 230) (by decide +kernel), List.mem_of_getElem? (i := 231) (by decide +kernel)⟩
theorem lw_p4 : lw_okq (⟨"SandwichesSpeak$Reader", "pass", "(I)V"⟩, 9) := ⟨⟨by decide +kernel, by decide +kernel⟩, List.mem_of_getElem? (i := 28) (by decide +kernel), List.mem_of_getElem? (i := 298) (by decide +kernel), List.mem_of_getElem? (i := 299) (by decide +kernel)⟩
theorem lw_p5 : lw_okq (⟨"SandwichesSpeak$Reader", "fail", "()V"⟩, 9) := ⟨⟨by decide +kernel, by decide +kernel⟩, List.mem_of_getElem? (i := 28) (by decide +kernel), List.mem_of_getElem? (i := 302) (by decide +kernel), List.mem_of_getElem? (i := 303) (by decide +kernel)⟩
theorem lw_p6 : lw_okq (⟨"SandwichesSpeak$Reader", "readOr", "()V"⟩, 9) := ⟨⟨by decide +kernel, by decide +kernel⟩, List.mem_of_getElem? (i := 28) (by decide +kernel), List.mem_of_getElem? (i := 306) (by decide +kernel), List.mem_of_getElem? (i := 307) (by decide +kernel)⟩
theorem lw_p7 : lw_okq (⟨"SandwichesSpeak$Reader", "readAnd", "()V"⟩, 9) := ⟨⟨by decide +kernel, by decide +kernel⟩, List.mem_of_getElem? (i := 28) (by decide +kernel), List.mem_of_getElem? (i := 310) (by decide +kernel), List.mem_of_getElem? (i := 311) (by decide +kernel)⟩
theorem lw_p8 : lw_okq (⟨"SandwichesSpeak$Reader", "readNot", "()V"⟩, 9) := ⟨⟨by decide +kernel, by decide +kernel⟩, List.mem_of_getElem? (i := 28) (by decide +kernel), List.mem_of_getElem? (i := 314) (by decide +kernel), List.mem_of_getElem? (i := 315) (by decide +kernel)⟩
theorem lw_p9 : lw_okq (⟨"SandwichesSpeak$Reader", "readCompared", "()V"⟩, 9) := ⟨⟨by decide +kernel, by decide +kernel⟩, List.mem_of_getElem? (i := 28) (by decide +kernel), List.mem_of_getElem? (i := 318) (by decide +kernel), List.mem_of_getElem? (i := 319) (by decide +kernel)⟩
theorem lw_p10 : lw_okq (⟨"SandwichesSpeak$Reader", "readSum", "()V"⟩, 9) := ⟨⟨by decide +kernel, by decide +kernel⟩, List.mem_of_getElem? (i := 28) (by decide +kernel), List.mem_of_getElem? (i := 322) (by decide +kernel), List.mem_of_getElem? (i := 323) (by decide +kernel)⟩
theorem lw_p11 : lw_okq (⟨"SandwichesSpeak$Reader", "readTerm", "()V"⟩, 9) := ⟨⟨by decide +kernel, by decide +kernel⟩, List.mem_of_getElem? (i := 28) (by decide +kernel), List.mem_of_getElem? (i := 326) (by decide +kernel), List.mem_of_getElem? (i := 327) (by decide +kernel)⟩
theorem lw_p12 : lw_okq (⟨"SandwichesSpeak$Reader", "readOne", "()V"⟩, 9) := ⟨⟨by decide +kernel, by decide +kernel⟩, List.mem_of_getElem? (i := 28) (by decide +kernel), List.mem_of_getElem? (i := 330) (by decide +kernel), List.mem_of_getElem? (i := 331) (by decide +kernel)⟩
theorem lw_p13 : lw_okq (⟨"SandwichesSpeak$Reader", "opens", "()Z"⟩, 9) := ⟨⟨by decide +kernel, by decide +kernel⟩, List.mem_of_getElem? (i := 28) (by decide +kernel), List.mem_of_getElem? (i := 338) (by decide +kernel), List.mem_of_getElem? (i := 339) (by decide +kernel)⟩
theorem lw_p14 : lw_okq (⟨"SandwichesSpeak", "isThere", "(II)Z"⟩, 9) := ⟨⟨by decide +kernel, by decide +kernel⟩, List.mem_of_getElem? (i := 16) (by decide +kernel), List.mem_of_getElem? (i := 376) (by decide +kernel), List.mem_of_getElem? (i := 377) (by decide +kernel)⟩
theorem lw_p15 : lw_okq (⟨"SandwichesSpeak", "isPerson", "(I)Z"⟩, 9) := ⟨⟨by decide +kernel, by decide +kernel⟩, List.mem_of_getElem? (i := 16) (by decide +kernel), List.mem_of_getElem? (i := 380) (by decide +kernel), List.mem_of_getElem? (i := 381) (by decide +kernel)⟩
def lw_privs_1 : List (MethodName × Nat) := [(⟨"SandwichesSpeak$Reader", "readToken", "()V"⟩, 9), (⟨"SandwichesSpeak$Reader", "readWord", "()V"⟩, 9), (⟨"SandwichesSpeak$Reader", "wordNumber", "()I"⟩, 9), (⟨"SandwichesSpeak$Reader", "readNumeral", "()V"⟩, 9), (⟨"SandwichesSpeak$Reader", "pass", "(I)V"⟩, 9), (⟨"SandwichesSpeak$Reader", "fail", "()V"⟩, 9), (⟨"SandwichesSpeak$Reader", "readOr", "()V"⟩, 9), (⟨"SandwichesSpeak$Reader", "readAnd", "()V"⟩, 9), (⟨"SandwichesSpeak$Reader", "readNot", "()V"⟩, 9), (⟨"SandwichesSpeak$Reader", "readCompared", "()V"⟩, 9), (⟨"SandwichesSpeak$Reader", "readSum", "()V"⟩, 9), (⟨"SandwichesSpeak$Reader", "readTerm", "()V"⟩, 9), (⟨"SandwichesSpeak$Reader", "readOne", "()V"⟩, 9), (⟨"SandwichesSpeak$Reader", "opens", "()Z"⟩, 9), (⟨"SandwichesSpeak", "isThere", "(II)Z"⟩, 9), (⟨"SandwichesSpeak", "isPerson", "(I)Z"⟩, 9)]
theorem lw_r1 : ∀ q ∈ lw_privs_1, lw_okq q := List.forall_mem_cons.mpr ⟨lw_p0, List.forall_mem_cons.mpr ⟨lw_p1, List.forall_mem_cons.mpr ⟨lw_p2, List.forall_mem_cons.mpr ⟨lw_p3, List.forall_mem_cons.mpr ⟨lw_p4, List.forall_mem_cons.mpr ⟨lw_p5, List.forall_mem_cons.mpr ⟨lw_p6, List.forall_mem_cons.mpr ⟨lw_p7, List.forall_mem_cons.mpr ⟨lw_p8, List.forall_mem_cons.mpr ⟨lw_p9, List.forall_mem_cons.mpr ⟨lw_p10, List.forall_mem_cons.mpr ⟨lw_p11, List.forall_mem_cons.mpr ⟨lw_p12, List.forall_mem_cons.mpr ⟨lw_p13, List.forall_mem_cons.mpr ⟨lw_p14, List.forall_mem_cons.mpr ⟨lw_p15, fun _ h => absurd h List.not_mem_nil⟩⟩⟩⟩⟩⟩⟩⟩⟩⟩⟩⟩⟩⟩⟩⟩
theorem lw_p16 : lw_okq (⟨"SandwichesSpeak", "plainly", "(II)I"⟩, 9) := ⟨⟨by decide +kernel, by decide +kernel⟩, List.mem_of_getElem? (i := 16) (by decide +kernel), List.mem_of_getElem? (i := 387) (by decide +kernel), List.mem_of_getElem? (i := 388) (by decide +kernel)⟩
theorem lw_p17 : lw_okq (⟨"SandwichesSpeak$Family", "nameAll", "(IIIII)V"⟩, 12) := ⟨⟨by decide +kernel, by decide +kernel⟩, List.mem_of_getElem? (i := 99) (by decide +kernel), List.mem_of_getElem? (i := 415) (by decide +kernel), List.mem_of_getElem? (i := 416) (by decide +kernel)⟩
theorem lw_p18 : lw_okq (⟨"SandwichesSpeak$Family", "inlawSends", "(IZ)Z"⟩, 12) := ⟨⟨by decide +kernel, by decide +kernel⟩, List.mem_of_getElem? (i := 99) (by decide +kernel), List.mem_of_getElem? (i := 423) (by decide +kernel), List.mem_of_getElem? (i := 424) (by decide +kernel)⟩
theorem lw_p19 : lw_okq (⟨"SandwichesSpeak$Family", "cutsFor", "(III)Z"⟩, 12) := ⟨⟨by decide +kernel, by decide +kernel⟩, List.mem_of_getElem? (i := 99) (by decide +kernel), List.mem_of_getElem? (i := 427) (by decide +kernel), List.mem_of_getElem? (i := 428) (by decide +kernel)⟩
theorem lw_p20 : lw_okq (⟨"SandwichesSpeak$Family", "motherCuts", "(IIZ)Z"⟩, 12) := ⟨⟨by decide +kernel, by decide +kernel⟩, List.mem_of_getElem? (i := 99) (by decide +kernel), List.mem_of_getElem? (i := 431) (by decide +kernel), List.mem_of_getElem? (i := 432) (by decide +kernel)⟩
theorem lw_p21 : lw_okq (⟨"SandwichesSpeak", "areTwo", "(II)Z"⟩, 9) := ⟨⟨by decide +kernel, by decide +kernel⟩, List.mem_of_getElem? (i := 16) (by decide +kernel), List.mem_of_getElem? (i := 486) (by decide +kernel), List.mem_of_getElem? (i := 487) (by decide +kernel)⟩
theorem lw_p22 : lw_okq (⟨"SandwichesSpeak", "firstDead", "()I"⟩, 9) := ⟨⟨by decide +kernel, by decide +kernel⟩, List.mem_of_getElem? (i := 16) (by decide +kernel), List.mem_of_getElem? (i := 526) (by decide +kernel), List.mem_of_getElem? (i := 527) (by decide +kernel)⟩
theorem lw_p23 : lw_okq (⟨"SandwichesSpeak", "firstAgain", "(I)I"⟩, 9) := ⟨⟨by decide +kernel, by decide +kernel⟩, List.mem_of_getElem? (i := 16) (by decide +kernel), List.mem_of_getElem? (i := 530) (by decide +kernel), List.mem_of_getElem? (i := 531) (by decide +kernel)⟩
theorem lw_p24 : lw_okq (⟨"SandwichesSpeak", "gladAsItIs", "(I)I"⟩, 9) := ⟨⟨by decide +kernel, by decide +kernel⟩, List.mem_of_getElem? (i := 16) (by decide +kernel), List.mem_of_getElem? (i := 559) (by decide +kernel), List.mem_of_getElem? (i := 560) (by decide +kernel)⟩
theorem lw_p25 : lw_okq (⟨"SandwichesSpeak", "moodsSo", "(LSandwichesSpeak$Sheet;IZ)I"⟩, 9) := ⟨⟨by decide +kernel, by decide +kernel⟩, List.mem_of_getElem? (i := 16) (by decide +kernel), List.mem_of_getElem? (i := 587) (by decide +kernel), List.mem_of_getElem? (i := 588) (by decide +kernel)⟩
theorem lw_p26 : lw_okq (⟨"SandwichesSpeak", "bitsSo", "(LSandwichesSpeak$Sheet;II)I"⟩, 9) := ⟨⟨by decide +kernel, by decide +kernel⟩, List.mem_of_getElem? (i := 16) (by decide +kernel), List.mem_of_getElem? (i := 591) (by decide +kernel), List.mem_of_getElem? (i := 592) (by decide +kernel)⟩
theorem lw_p27 : lw_okq (⟨"SandwichesSpeakModel", "codes", "(I)V"⟩, 41) := ⟨⟨by decide +kernel, by decide +kernel⟩, List.mem_of_getElem? (i := 670) (by decide +kernel), List.mem_of_getElem? (i := 676) (by decide +kernel), List.mem_of_getElem? (i := 677) (by decide +kernel)⟩
theorem lw_p28 : lw_okq (⟨"SandwichesSpeakModel", "isOf", "(II)Z"⟩, 41) := ⟨⟨by decide +kernel, by decide +kernel⟩, List.mem_of_getElem? (i := 670) (by decide +kernel), List.mem_of_getElem? (i := 809) (by decide +kernel), List.mem_of_getElem? (i := 810) (by decide +kernel)⟩
theorem lw_p29 : lw_okq (⟨"SandwichesSpeakModel", "isOne", "(I)Z"⟩, 41) := ⟨⟨by decide +kernel, by decide +kernel⟩, List.mem_of_getElem? (i := 670) (by decide +kernel), List.mem_of_getElem? (i := 819) (by decide +kernel), List.mem_of_getElem? (i := 820) (by decide +kernel)⟩
theorem lw_p30 : lw_okq (⟨"SandwichesSpeakModel", "get", "(II)I"⟩, 41) := ⟨⟨by decide +kernel, by decide +kernel⟩, List.mem_of_getElem? (i := 670) (by decide +kernel), List.mem_of_getElem? (i := 826) (by decide +kernel), List.mem_of_getElem? (i := 827) (by decide +kernel)⟩
theorem lw_p31 : lw_okq (⟨"SandwichesSpeakModel", "sent", "(I)I"⟩, 41) := ⟨⟨by decide +kernel, by decide +kernel⟩, List.mem_of_getElem? (i := 670) (by decide +kernel), List.mem_of_getElem? (i := 838) (by decide +kernel), List.mem_of_getElem? (i := 839) (by decide +kernel)⟩
def lw_privs_2 : List (MethodName × Nat) := [(⟨"SandwichesSpeak", "plainly", "(II)I"⟩, 9), (⟨"SandwichesSpeak$Family", "nameAll", "(IIIII)V"⟩, 12), (⟨"SandwichesSpeak$Family", "inlawSends", "(IZ)Z"⟩, 12), (⟨"SandwichesSpeak$Family", "cutsFor", "(III)Z"⟩, 12), (⟨"SandwichesSpeak$Family", "motherCuts", "(IIZ)Z"⟩, 12), (⟨"SandwichesSpeak", "areTwo", "(II)Z"⟩, 9), (⟨"SandwichesSpeak", "firstDead", "()I"⟩, 9), (⟨"SandwichesSpeak", "firstAgain", "(I)I"⟩, 9), (⟨"SandwichesSpeak", "gladAsItIs", "(I)I"⟩, 9), (⟨"SandwichesSpeak", "moodsSo", "(LSandwichesSpeak$Sheet;IZ)I"⟩, 9), (⟨"SandwichesSpeak", "bitsSo", "(LSandwichesSpeak$Sheet;II)I"⟩, 9), (⟨"SandwichesSpeakModel", "codes", "(I)V"⟩, 41), (⟨"SandwichesSpeakModel", "isOf", "(II)Z"⟩, 41), (⟨"SandwichesSpeakModel", "isOne", "(I)Z"⟩, 41), (⟨"SandwichesSpeakModel", "get", "(II)I"⟩, 41), (⟨"SandwichesSpeakModel", "sent", "(I)I"⟩, 41)]
theorem lw_r2 : ∀ q ∈ lw_privs_2, lw_okq q := List.forall_mem_cons.mpr ⟨lw_p16, List.forall_mem_cons.mpr ⟨lw_p17, List.forall_mem_cons.mpr ⟨lw_p18, List.forall_mem_cons.mpr ⟨lw_p19, List.forall_mem_cons.mpr ⟨lw_p20, List.forall_mem_cons.mpr ⟨lw_p21, List.forall_mem_cons.mpr ⟨lw_p22, List.forall_mem_cons.mpr ⟨lw_p23, List.forall_mem_cons.mpr ⟨lw_p24, List.forall_mem_cons.mpr ⟨lw_p25, List.forall_mem_cons.mpr ⟨lw_p26, List.forall_mem_cons.mpr ⟨lw_p27, List.forall_mem_cons.mpr ⟨lw_p28, List.forall_mem_cons.mpr ⟨lw_p29, List.forall_mem_cons.mpr ⟨lw_p30, List.forall_mem_cons.mpr ⟨lw_p31, fun _ h => absurd h List.not_mem_nil⟩⟩⟩⟩⟩⟩⟩⟩⟩⟩⟩⟩⟩⟩⟩⟩
theorem lw_p32 : lw_okq (⟨"SandwichesSpeakModel", "made", "(II)I"⟩, 41) := ⟨⟨by decide +kernel, by decide +kernel⟩, List.mem_of_getElem? (i := 670) (by decide +kernel), List.mem_of_getElem? (i := 842) (by decide +kernel), List.mem_of_getElem? (i := 843) (by decide +kernel)⟩
theorem lw_p33 : lw_okq (⟨"SandwichesSpeakModel", "sends", "(II)Z"⟩, 41) := ⟨⟨by decide +kernel, by decide +kernel⟩, List.mem_of_getElem? (i := 670) (by decide +kernel), List.mem_of_getElem? (i := 846) (by decide +kernel), List.mem_of_getElem? (i := 847) (by decide +kernel)⟩
theorem lw_p34 : lw_okq (⟨"SandwichesSpeakModel", "tellsOf", "(IIIII)V"⟩, 41) := ⟨⟨by decide +kernel, by decide +kernel⟩, List.mem_of_getElem? (i := 670) (by decide +kernel), List.mem_of_getElem? (i := 850) (by decide +kernel), List.mem_of_getElem? (i := 851) (by decide +kernel)⟩
theorem lw_p35 : lw_okq (⟨"SandwichesSpeakModel", "ruled", "(I)I"⟩, 41) := ⟨⟨by decide +kernel, by decide +kernel⟩, List.mem_of_getElem? (i := 670) (by decide +kernel), List.mem_of_getElem? (i := 854) (by decide +kernel), List.mem_of_getElem? (i := 855) (by decide +kernel)⟩
theorem lw_p36 : lw_okq (⟨"SandwichesSpeakModel", "cuts", "(III)Z"⟩, 41) := ⟨⟨by decide +kernel, by decide +kernel⟩, List.mem_of_getElem? (i := 670) (by decide +kernel), List.mem_of_getElem? (i := 861) (by decide +kernel), List.mem_of_getElem? (i := 862) (by decide +kernel)⟩
theorem lw_p37 : lw_okq (⟨"SandwichesSpeakModel", "gotten", "(I)I"⟩, 41) := ⟨⟨by decide +kernel, by decide +kernel⟩, List.mem_of_getElem? (i := 670) (by decide +kernel), List.mem_of_getElem? (i := 865) (by decide +kernel), List.mem_of_getElem? (i := 866) (by decide +kernel)⟩
theorem lw_p38 : lw_okq (⟨"SandwichesSpeakModel", "felt", "(I)I"⟩, 41) := ⟨⟨by decide +kernel, by decide +kernel⟩, List.mem_of_getElem? (i := 670) (by decide +kernel), List.mem_of_getElem? (i := 872) (by decide +kernel), List.mem_of_getElem? (i := 873) (by decide +kernel)⟩
theorem lw_p39 : lw_okq (⟨"SandwichesSpeakModel", "feltBy", "(III)I"⟩, 41) := ⟨⟨by decide +kernel, by decide +kernel⟩, List.mem_of_getElem? (i := 670) (by decide +kernel), List.mem_of_getElem? (i := 876) (by decide +kernel), List.mem_of_getElem? (i := 877) (by decide +kernel)⟩
theorem lw_p40 : lw_okq (⟨"SandwichesSpeakModel", "feels", "(III)I"⟩, 41) := ⟨⟨by decide +kernel, by decide +kernel⟩, List.mem_of_getElem? (i := 670) (by decide +kernel), List.mem_of_getElem? (i := 880) (by decide +kernel), List.mem_of_getElem? (i := 881) (by decide +kernel)⟩
theorem lw_p41 : lw_okq (⟨"SandwichesSpeakModel", "next", "()V"⟩, 41) := ⟨⟨by decide +kernel, by decide +kernel⟩, List.mem_of_getElem? (i := 670) (by decide +kernel), List.mem_of_getElem? (i := 895) (by decide +kernel), List.mem_of_getElem? (i := 896) (by decide +kernel)⟩
theorem lw_p42 : lw_okq (⟨"SandwichesSpeakModel", "named", "()I"⟩, 41) := ⟨⟨by decide +kernel, by decide +kernel⟩, List.mem_of_getElem? (i := 670) (by decide +kernel), List.mem_of_getElem? (i := 902) (by decide +kernel), List.mem_of_getElem? (i := 903) (by decide +kernel)⟩
theorem lw_p43 : lw_okq (⟨"SandwichesSpeakModel", "isKey", "()Z"⟩, 41) := ⟨⟨by decide +kernel, by decide +kernel⟩, List.mem_of_getElem? (i := 670) (by decide +kernel), List.mem_of_getElem? (i := 906) (by decide +kernel), List.mem_of_getElem? (i := 907) (by decide +kernel)⟩
theorem lw_p44 : lw_okq (⟨"SandwichesSpeakModel", "part", "(II)Z"⟩, 41) := ⟨⟨by decide +kernel, by decide +kernel⟩, List.mem_of_getElem? (i := 670) (by decide +kernel), List.mem_of_getElem? (i := 917) (by decide +kernel), List.mem_of_getElem? (i := 918) (by decide +kernel)⟩
theorem lw_p45 : lw_okq (⟨"SandwichesSpeakModel", "takes", "(I)Z"⟩, 41) := ⟨⟨by decide +kernel, by decide +kernel⟩, List.mem_of_getElem? (i := 670) (by decide +kernel), List.mem_of_getElem? (i := 921) (by decide +kernel), List.mem_of_getElem? (i := 922) (by decide +kernel)⟩
theorem lw_p46 : lw_okq (⟨"SandwichesSpeakModel", "goesOn", "()Z"⟩, 41) := ⟨⟨by decide +kernel, by decide +kernel⟩, List.mem_of_getElem? (i := 670) (by decide +kernel), List.mem_of_getElem? (i := 925) (by decide +kernel), List.mem_of_getElem? (i := 926) (by decide +kernel)⟩
theorem lw_p47 : lw_okq (⟨"SandwichesSpeakModel", "one", "(Z)Z"⟩, 41) := ⟨⟨by decide +kernel, by decide +kernel⟩, List.mem_of_getElem? (i := 670) (by decide +kernel), List.mem_of_getElem? (i := 929) (by decide +kernel), List.mem_of_getElem? (i := 930) (by decide +kernel)⟩
def lw_privs_3 : List (MethodName × Nat) := [(⟨"SandwichesSpeakModel", "made", "(II)I"⟩, 41), (⟨"SandwichesSpeakModel", "sends", "(II)Z"⟩, 41), (⟨"SandwichesSpeakModel", "tellsOf", "(IIIII)V"⟩, 41), (⟨"SandwichesSpeakModel", "ruled", "(I)I"⟩, 41), (⟨"SandwichesSpeakModel", "cuts", "(III)Z"⟩, 41), (⟨"SandwichesSpeakModel", "gotten", "(I)I"⟩, 41), (⟨"SandwichesSpeakModel", "felt", "(I)I"⟩, 41), (⟨"SandwichesSpeakModel", "feltBy", "(III)I"⟩, 41), (⟨"SandwichesSpeakModel", "feels", "(III)I"⟩, 41), (⟨"SandwichesSpeakModel", "next", "()V"⟩, 41), (⟨"SandwichesSpeakModel", "named", "()I"⟩, 41), (⟨"SandwichesSpeakModel", "isKey", "()Z"⟩, 41), (⟨"SandwichesSpeakModel", "part", "(II)Z"⟩, 41), (⟨"SandwichesSpeakModel", "takes", "(I)Z"⟩, 41), (⟨"SandwichesSpeakModel", "goesOn", "()Z"⟩, 41), (⟨"SandwichesSpeakModel", "one", "(Z)Z"⟩, 41)]
theorem lw_r3 : ∀ q ∈ lw_privs_3, lw_okq q := List.forall_mem_cons.mpr ⟨lw_p32, List.forall_mem_cons.mpr ⟨lw_p33, List.forall_mem_cons.mpr ⟨lw_p34, List.forall_mem_cons.mpr ⟨lw_p35, List.forall_mem_cons.mpr ⟨lw_p36, List.forall_mem_cons.mpr ⟨lw_p37, List.forall_mem_cons.mpr ⟨lw_p38, List.forall_mem_cons.mpr ⟨lw_p39, List.forall_mem_cons.mpr ⟨lw_p40, List.forall_mem_cons.mpr ⟨lw_p41, List.forall_mem_cons.mpr ⟨lw_p42, List.forall_mem_cons.mpr ⟨lw_p43, List.forall_mem_cons.mpr ⟨lw_p44, List.forall_mem_cons.mpr ⟨lw_p45, List.forall_mem_cons.mpr ⟨lw_p46, List.forall_mem_cons.mpr ⟨lw_p47, fun _ h => absurd h List.not_mem_nil⟩⟩⟩⟩⟩⟩⟩⟩⟩⟩⟩⟩⟩⟩⟩⟩
theorem lw_p48 : lw_okq (⟨"SandwichesSpeakModel", "lays", "(I)V"⟩, 41) := ⟨⟨by decide +kernel, by decide +kernel⟩, List.mem_of_getElem? (i := 670) (by decide +kernel), List.mem_of_getElem? (i := 933) (by decide +kernel), List.mem_of_getElem? (i := 934) (by decide +kernel)⟩
theorem lw_p49 : lw_okq (⟨"SandwichesSpeakModel", "push", "(I)V"⟩, 41) := ⟨⟨by decide +kernel, by decide +kernel⟩, List.mem_of_getElem? (i := 670) (by decide +kernel), List.mem_of_getElem? (i := 940) (by decide +kernel), List.mem_of_getElem? (i := 941) (by decide +kernel)⟩
theorem lw_p50 : lw_okq (⟨"SandwichesSpeakModel", "closes", "()Z"⟩, 41) := ⟨⟨by decide +kernel, by decide +kernel⟩, List.mem_of_getElem? (i := 670) (by decide +kernel), List.mem_of_getElem? (i := 944) (by decide +kernel), List.mem_of_getElem? (i := 945) (by decide +kernel)⟩
theorem lw_p51 : lw_okq (⟨"SandwichesSpeakModel", "signed", "()I"⟩, 41) := ⟨⟨by decide +kernel, by decide +kernel⟩, List.mem_of_getElem? (i := 670) (by decide +kernel), List.mem_of_getElem? (i := 948) (by decide +kernel), List.mem_of_getElem? (i := 949) (by decide +kernel)⟩
theorem lw_p52 : lw_okq (⟨"SandwichesSpeakModel", "areTwo", "(II)Z"⟩, 41) := ⟨⟨by decide +kernel, by decide +kernel⟩, List.mem_of_getElem? (i := 670) (by decide +kernel), List.mem_of_getElem? (i := 962) (by decide +kernel), List.mem_of_getElem? (i := 963) (by decide +kernel)⟩
theorem lw_p53 : lw_okq (⟨"SandwichesSpeakModel", "passes", "()V"⟩, 41) := ⟨⟨by decide +kernel, by decide +kernel⟩, List.mem_of_getElem? (i := 670) (by decide +kernel), List.mem_of_getElem? (i := 970) (by decide +kernel), List.mem_of_getElem? (i := 971) (by decide +kernel)⟩
theorem lw_p54 : lw_okq (⟨"SandwichesSpeakModel", "glad", "()I"⟩, 41) := ⟨⟨by decide +kernel, by decide +kernel⟩, List.mem_of_getElem? (i := 670) (by decide +kernel), List.mem_of_getElem? (i := 974) (by decide +kernel), List.mem_of_getElem? (i := 975) (by decide +kernel)⟩
theorem lw_p55 : lw_okq (⟨"SandwichesSpeakModel", "runs", "(I)V"⟩, 41) := ⟨⟨by decide +kernel, by decide +kernel⟩, List.mem_of_getElem? (i := 670) (by decide +kernel), List.mem_of_getElem? (i := 982) (by decide +kernel), List.mem_of_getElem? (i := 983) (by decide +kernel)⟩
theorem lw_p56 : lw_okq (⟨"SandwichesSpeakModel", "keeps", "()V"⟩, 41) := ⟨⟨by decide +kernel, by decide +kernel⟩, List.mem_of_getElem? (i := 670) (by decide +kernel), List.mem_of_getElem? (i := 986) (by decide +kernel), List.mem_of_getElem? (i := 987) (by decide +kernel)⟩
theorem lw_p57 : lw_okq (⟨"SandwichesSpeakModel", "restores", "()V"⟩, 41) := ⟨⟨by decide +kernel, by decide +kernel⟩, List.mem_of_getElem? (i := 670) (by decide +kernel), List.mem_of_getElem? (i := 990) (by decide +kernel), List.mem_of_getElem? (i := 991) (by decide +kernel)⟩
theorem lw_p58 : lw_okq (⟨"SandwichesSpeakModel", "remembers", "()V"⟩, 41) := ⟨⟨by decide +kernel, by decide +kernel⟩, List.mem_of_getElem? (i := 670) (by decide +kernel), List.mem_of_getElem? (i := 998) (by decide +kernel), List.mem_of_getElem? (i := 999) (by decide +kernel)⟩
theorem lw_p59 : lw_okq (⟨"SandwichesSpeakModel", "isAlike", "(II)Z"⟩, 41) := ⟨⟨by decide +kernel, by decide +kernel⟩, List.mem_of_getElem? (i := 670) (by decide +kernel), List.mem_of_getElem? (i := 1002) (by decide +kernel), List.mem_of_getElem? (i := 1003) (by decide +kernel)⟩
theorem lw_p60 : lw_okq (⟨"SandwichesSpeakModel", "lettuce", "(I)I"⟩, 41) := ⟨⟨by decide +kernel, by decide +kernel⟩, List.mem_of_getElem? (i := 670) (by decide +kernel), List.mem_of_getElem? (i := 1010) (by decide +kernel), List.mem_of_getElem? (i := 1011) (by decide +kernel)⟩
theorem lw_p61 : lw_okq (⟨"SandwichesSpeakModel", "left", "()I"⟩, 41) := ⟨⟨by decide +kernel, by decide +kernel⟩, List.mem_of_getElem? (i := 670) (by decide +kernel), List.mem_of_getElem? (i := 1014) (by decide +kernel), List.mem_of_getElem? (i := 1015) (by decide +kernel)⟩
theorem lw_p62 : lw_okq (⟨"SandwichesSpeakModel", "gladBehind", "(I)I"⟩, 41) := ⟨⟨by decide +kernel, by decide +kernel⟩, List.mem_of_getElem? (i := 670) (by decide +kernel), List.mem_of_getElem? (i := 1022) (by decide +kernel), List.mem_of_getElem? (i := 1023) (by decide +kernel)⟩
theorem lw_p63 : lw_okq (⟨"SandwichesSpeakModel", "wrong", "(II)I"⟩, 41) := ⟨⟨by decide +kernel, by decide +kernel⟩, List.mem_of_getElem? (i := 670) (by decide +kernel), List.mem_of_getElem? (i := 1045) (by decide +kernel), List.mem_of_getElem? (i := 1046) (by decide +kernel)⟩
def lw_privs_4 : List (MethodName × Nat) := [(⟨"SandwichesSpeakModel", "lays", "(I)V"⟩, 41), (⟨"SandwichesSpeakModel", "push", "(I)V"⟩, 41), (⟨"SandwichesSpeakModel", "closes", "()Z"⟩, 41), (⟨"SandwichesSpeakModel", "signed", "()I"⟩, 41), (⟨"SandwichesSpeakModel", "areTwo", "(II)Z"⟩, 41), (⟨"SandwichesSpeakModel", "passes", "()V"⟩, 41), (⟨"SandwichesSpeakModel", "glad", "()I"⟩, 41), (⟨"SandwichesSpeakModel", "runs", "(I)V"⟩, 41), (⟨"SandwichesSpeakModel", "keeps", "()V"⟩, 41), (⟨"SandwichesSpeakModel", "restores", "()V"⟩, 41), (⟨"SandwichesSpeakModel", "remembers", "()V"⟩, 41), (⟨"SandwichesSpeakModel", "isAlike", "(II)Z"⟩, 41), (⟨"SandwichesSpeakModel", "lettuce", "(I)I"⟩, 41), (⟨"SandwichesSpeakModel", "left", "()I"⟩, 41), (⟨"SandwichesSpeakModel", "gladBehind", "(I)I"⟩, 41), (⟨"SandwichesSpeakModel", "wrong", "(II)I"⟩, 41)]
theorem lw_r4 : ∀ q ∈ lw_privs_4, lw_okq q := List.forall_mem_cons.mpr ⟨lw_p48, List.forall_mem_cons.mpr ⟨lw_p49, List.forall_mem_cons.mpr ⟨lw_p50, List.forall_mem_cons.mpr ⟨lw_p51, List.forall_mem_cons.mpr ⟨lw_p52, List.forall_mem_cons.mpr ⟨lw_p53, List.forall_mem_cons.mpr ⟨lw_p54, List.forall_mem_cons.mpr ⟨lw_p55, List.forall_mem_cons.mpr ⟨lw_p56, List.forall_mem_cons.mpr ⟨lw_p57, List.forall_mem_cons.mpr ⟨lw_p58, List.forall_mem_cons.mpr ⟨lw_p59, List.forall_mem_cons.mpr ⟨lw_p60, List.forall_mem_cons.mpr ⟨lw_p61, List.forall_mem_cons.mpr ⟨lw_p62, List.forall_mem_cons.mpr ⟨lw_p63, fun _ h => absurd h List.not_mem_nil⟩⟩⟩⟩⟩⟩⟩⟩⟩⟩⟩⟩⟩⟩⟩⟩
theorem lw_p64 : lw_okq (⟨"SandwichesSpeakModel", "kindsSo", "(II)I"⟩, 41) := ⟨⟨by decide +kernel, by decide +kernel⟩, List.mem_of_getElem? (i := 670) (by decide +kernel), List.mem_of_getElem? (i := 1049) (by decide +kernel), List.mem_of_getElem? (i := 1050) (by decide +kernel)⟩
theorem lw_p65 : lw_okq (⟨"SandwichesSpeakModel", "numbersSo", "(II)I"⟩, 41) := ⟨⟨by decide +kernel, by decide +kernel⟩, List.mem_of_getElem? (i := 670) (by decide +kernel), List.mem_of_getElem? (i := 1053) (by decide +kernel), List.mem_of_getElem? (i := 1054) (by decide +kernel)⟩
theorem lw_p66 : lw_okq (⟨"SandwichesSpeakModel", "moodsSo", "(III)I"⟩, 41) := ⟨⟨by decide +kernel, by decide +kernel⟩, List.mem_of_getElem? (i := 670) (by decide +kernel), List.mem_of_getElem? (i := 1057) (by decide +kernel), List.mem_of_getElem? (i := 1058) (by decide +kernel)⟩
theorem lw_p67 : lw_okq (⟨"SandwichesSpeakModel", "textsSo", "(II)I"⟩, 41) := ⟨⟨by decide +kernel, by decide +kernel⟩, List.mem_of_getElem? (i := 670) (by decide +kernel), List.mem_of_getElem? (i := 1061) (by decide +kernel), List.mem_of_getElem? (i := 1062) (by decide +kernel)⟩
theorem lw_p68 : lw_okq (⟨"SandwichesSpeakModel", "byLot", "(I)I"⟩, 41) := ⟨⟨by decide +kernel, by decide +kernel⟩, List.mem_of_getElem? (i := 670) (by decide +kernel), List.mem_of_getElem? (i := 1077) (by decide +kernel), List.mem_of_getElem? (i := 1078) (by decide +kernel)⟩
def lw_privs_5 : List (MethodName × Nat) := [(⟨"SandwichesSpeakModel", "kindsSo", "(II)I"⟩, 41), (⟨"SandwichesSpeakModel", "numbersSo", "(II)I"⟩, 41), (⟨"SandwichesSpeakModel", "moodsSo", "(III)I"⟩, 41), (⟨"SandwichesSpeakModel", "textsSo", "(II)I"⟩, 41), (⟨"SandwichesSpeakModel", "byLot", "(I)I"⟩, 41)]
theorem lw_r5 : ∀ q ∈ lw_privs_5, lw_okq q := List.forall_mem_cons.mpr ⟨lw_p64, List.forall_mem_cons.mpr ⟨lw_p65, List.forall_mem_cons.mpr ⟨lw_p66, List.forall_mem_cons.mpr ⟨lw_p67, List.forall_mem_cons.mpr ⟨lw_p68, fun _ h => absurd h List.not_mem_nil⟩⟩⟩⟩⟩
def lw_privs : List (MethodName × Nat) := lw_privs_1 ++ (lw_privs_2 ++ (lw_privs_3 ++ (lw_privs_4 ++ (lw_privs_5))))
def lw_tbl : List Cond := k2_sels lw_privs ++ tables_1
theorem lw_privs_ok : ∀ q ∈ lw_privs, lw_okq q := by
  show ∀ q ∈ lw_privs_1 ++ (lw_privs_2 ++ (lw_privs_3 ++ (lw_privs_4 ++ (lw_privs_5)))), lw_okq q
  exact List.forall_mem_append.mpr ⟨lw_r1, List.forall_mem_append.mpr ⟨lw_r2, List.forall_mem_append.mpr ⟨lw_r3, List.forall_mem_append.mpr ⟨lw_r4, lw_r5⟩⟩⟩⟩
def RX0 : String := "SandwichesSpeak$Family"
def TX0 : u_T := fun k => match k with
  | 0 => ("SandwichesSpeak$Family", "kinds", "[I", true)
  | 1 => ("SandwichesSpeak$Family", "numbers", "[I", true)
  | 2 => ("SandwichesSpeak$Family", "moods", "[I", true)
  | 3 => ("SandwichesSpeak$Family", "felt", "[I", true)
  | 4 => ("SandwichesSpeak$Family", "size", "I", false)
  | 5 => ("SandwichesSpeak$Family", "used", "I", false)
  | 6 => ("SandwichesSpeak$Family", "sunday", "I", false)
  | 7 => ("SandwichesSpeak$Family", "rule", "I", false)
  | 8 => ("SandwichesSpeak$Family", "leftOut", "I", false)
  | 9 => ("SandwichesSpeak$Family", "texts", "[LSandwichesSpeak$Text;", true)
  | 10 => ("SandwichesSpeak$Family", "names", "[I", true)
  | _ => ("SandwichesSpeak$Family", "stack", "[I", true)
def tyX0 : Nat → FieldType := fun k => match k with
  | 0 => .array .int
  | 1 => .array .int
  | 2 => .array .int
  | 3 => .array .int
  | 4 => .int
  | 5 => .int
  | 6 => .int
  | 7 => .int
  | 8 => .int
  | 9 => .array (.object "SandwichesSpeak$Text")
  | 10 => .array .int
  | _ => .array .int
theorem nmX0 : ∀ a, a < 12 → ∀ b, b < 12 → a ≠ b → (TX0 a).2.1 ≠ (TX0 b).2.1 := by decide +kernel
theorem tyX0_ok : ∀ k, k < 12 → parseFieldDescriptor (TX0 k).2.2.1 = some (tyX0 k) := by decide +kernel
abbrev cX0_init : ByteArray := prog_2_method_1_code
def yX0_init : MethodName := ⟨RX0, "<init>", "([LSandwichesSpeak$Text;)V"⟩
abbrev cX0_becomeLike : ByteArray := prog_2_method_2_code
def yX0_becomeLike : MethodName := ⟨RX0, "becomeLike", "(LSandwichesSpeak$Family;)V"⟩
abbrev cX0_takeIn : ByteArray := prog_2_method_3_code
def yX0_takeIn : MethodName := ⟨RX0, "takeIn", "(II)I"⟩
abbrev cX0_glad : ByteArray := prog_2_method_4_code
def yX0_glad : MethodName := ⟨RX0, "glad", "()I"⟩
abbrev cX0_allMoods : ByteArray := prog_2_method_5_code
def yX0_allMoods : MethodName := ⟨RX0, "allMoods", "()I"⟩
abbrev cX0_drawMoods : ByteArray := prog_2_method_6_code
def yX0_drawMoods : MethodName := ⟨RX0, "drawMoods", "(I)V"⟩
abbrev cX0_sendsTo : ByteArray := prog_2_method_7_code
def yX0_sendsTo : MethodName := ⟨RX0, "sendsTo", "(II)Z"⟩
abbrev cX0_inlawSends : ByteArray := prog_2_method_8_code
def yX0_inlawSends : MethodName := ⟨RX0, "inlawSends", "(IZ)Z"⟩
abbrev cX0_layersOf : ByteArray := prog_2_method_9_code
def yX0_layersOf : MethodName := ⟨RX0, "layersOf", "(II)I"⟩
abbrev cX0_cutsFor : ByteArray := prog_2_method_10_code
def yX0_cutsFor : MethodName := ⟨RX0, "cutsFor", "(III)Z"⟩
abbrev cX0_motherCuts : ByteArray := prog_2_method_11_code
def yX0_motherCuts : MethodName := ⟨RX0, "motherCuts", "(IIZ)Z"⟩
abbrev cX0_inlawCuts : ByteArray := prog_2_method_12_code
def yX0_inlawCuts : MethodName := ⟨RX0, "inlawCuts", "(IZ)Z"⟩
abbrev cX0_feelsBy : ByteArray := prog_2_method_13_code
def yX0_feelsBy : MethodName := ⟨RX0, "feelsBy", "(III)I"⟩
abbrev cX0_nameAll : ByteArray := prog_2_method_14_code
def yX0_nameAll : MethodName := ⟨RX0, "nameAll", "(IIIII)V"⟩
abbrev cX0_feltFrom : ByteArray := prog_2_method_15_code
def yX0_feltFrom : MethodName := ⟨RX0, "feltFrom", "(II)I"⟩
abbrev cX0_passSunday : ByteArray := prog_2_method_16_code
def yX0_passSunday : MethodName := ⟨RX0, "passSunday", "()Z"⟩
abbrev cX0_gladBehind : ByteArray := prog_2_method_17_code
def yX0_gladBehind : MethodName := ⟨RX0, "gladBehind", "(I)I"⟩
abbrev cX0_emptyBehind : ByteArray := prog_2_method_18_code
def yX0_emptyBehind : MethodName := ⟨RX0, "emptyBehind", "(I)I"⟩
abbrev cX0_firstOtherwise : ByteArray := prog_2_method_19_code
def yX0_firstOtherwise : MethodName := ⟨RX0, "firstOtherwise", "(LSandwichesSpeak$Sheet;I)I"⟩
abbrev cX0_filledFrom : ByteArray := prog_2_method_20_code
def yX0_filledFrom : MethodName := ⟨RX0, "filledFrom", "(I)I"⟩
abbrev cX0_layersTo : ByteArray := prog_2_method_21_code
def yX0_layersTo : MethodName := ⟨RX0, "layersTo", "(I)I"⟩
abbrev cX0_lettuceCount : ByteArray := prog_2_method_22_code
def yX0_lettuceCount : MethodName := ⟨RX0, "lettuceCount", "()I"⟩
abbrev cX0_lettuceFirst : ByteArray := prog_2_method_23_code
def yX0_lettuceFirst : MethodName := ⟨RX0, "lettuceFirst", "()I"⟩
abbrev cX0_leftAlone : ByteArray := prog_2_method_24_code
def yX0_leftAlone : MethodName := ⟨RX0, "leftAlone", "()I"⟩
def RX1 : String := "SandwichesSpeak$Reader"
def TX1 : u_T := fun k => match k with
  | 0 => ("SandwichesSpeak$Reader", "size", "I", false)
  | 1 => ("SandwichesSpeak$Reader", "tape", "[I", true)
  | 2 => ("SandwichesSpeak$Reader", "into", "LSandwichesSpeak$Text;", false)
  | 3 => ("SandwichesSpeak$Reader", "place", "I", false)
  | 4 => ("SandwichesSpeak$Reader", "start", "I", false)
  | 5 => ("SandwichesSpeak$Reader", "token", "I", false)
  | 6 => ("SandwichesSpeak$Reader", "value", "I", false)
  | 7 => ("SandwichesSpeak$Reader", "open", "I", false)
  | _ => ("SandwichesSpeak$Reader", "fault", "I", false)
def tyX1 : Nat → FieldType := fun k => match k with
  | 0 => .int
  | 1 => .array .int
  | 2 => .object "SandwichesSpeak$Text"
  | 3 => .int
  | 4 => .int
  | 5 => .int
  | 6 => .int
  | 7 => .int
  | _ => .int
theorem nmX1 : ∀ a, a < 9 → ∀ b, b < 9 → a ≠ b → (TX1 a).2.1 ≠ (TX1 b).2.1 := by decide +kernel
theorem tyX1_ok : ∀ k, k < 9 → parseFieldDescriptor (TX1 k).2.2.1 = some (tyX1 k) := by decide +kernel
abbrev cX1_init : ByteArray := prog_3_method_1_code
def yX1_init : MethodName := ⟨RX1, "<init>", "()V"⟩
abbrev cX1_takeByte : ByteArray := prog_3_method_2_code
def yX1_takeByte : MethodName := ⟨RX1, "takeByte", "(I)Z"⟩
abbrev cX1_readInto : ByteArray := prog_3_method_3_code
def yX1_readInto : MethodName := ⟨RX1, "readInto", "(LSandwichesSpeak$Text;)I"⟩
abbrev cX1_pass : ByteArray := prog_3_method_4_code
def yX1_pass : MethodName := ⟨RX1, "pass", "(I)V"⟩
abbrev cX1_fail : ByteArray := prog_3_method_5_code
def yX1_fail : MethodName := ⟨RX1, "fail", "()V"⟩
abbrev cX1_readOr : ByteArray := prog_3_method_6_code
def yX1_readOr : MethodName := ⟨RX1, "readOr", "()V"⟩
abbrev cX1_readAnd : ByteArray := prog_3_method_7_code
def yX1_readAnd : MethodName := ⟨RX1, "readAnd", "()V"⟩
abbrev cX1_readNot : ByteArray := prog_3_method_8_code
def yX1_readNot : MethodName := ⟨RX1, "readNot", "()V"⟩
abbrev cX1_readCompared : ByteArray := prog_3_method_9_code
def yX1_readCompared : MethodName := ⟨RX1, "readCompared", "()V"⟩
abbrev cX1_readSum : ByteArray := prog_3_method_10_code
def yX1_readSum : MethodName := ⟨RX1, "readSum", "()V"⟩
abbrev cX1_readTerm : ByteArray := prog_3_method_11_code
def yX1_readTerm : MethodName := ⟨RX1, "readTerm", "()V"⟩
abbrev cX1_readOne : ByteArray := prog_3_method_12_code
def yX1_readOne : MethodName := ⟨RX1, "readOne", "()V"⟩
abbrev cX1_opens : ByteArray := prog_3_method_13_code
def yX1_opens : MethodName := ⟨RX1, "opens", "()Z"⟩
abbrev cX1_readToken : ByteArray := prog_3_method_14_code
def yX1_readToken : MethodName := ⟨RX1, "readToken", "()V"⟩
abbrev cX1_readNumeral : ByteArray := prog_3_method_15_code
def yX1_readNumeral : MethodName := ⟨RX1, "readNumeral", "()V"⟩
abbrev cX1_readWord : ByteArray := prog_3_method_16_code
def yX1_readWord : MethodName := ⟨RX1, "readWord", "()V"⟩
abbrev cX1_wordNumber : ByteArray := prog_3_method_17_code
def yX1_wordNumber : MethodName := ⟨RX1, "wordNumber", "()I"⟩
def RX2 : String := "SandwichesSpeak$Sheet"
def TX2 : u_T := fun k => match k with
  | 0 => ("SandwichesSpeak$Sheet", "items", "[I", true)
  | 1 => ("SandwichesSpeak$Sheet", "sort", "I", false)
  | _ => ("SandwichesSpeak$Sheet", "size", "I", false)
def tyX2 : Nat → FieldType := fun k => match k with
  | 0 => .array .int
  | 1 => .int
  | _ => .int
theorem nmX2 : ∀ a, a < 3 → ∀ b, b < 3 → a ≠ b → (TX2 a).2.1 ≠ (TX2 b).2.1 := by decide +kernel
theorem tyX2_ok : ∀ k, k < 3 → parseFieldDescriptor (TX2 k).2.2.1 = some (tyX2 k) := by decide +kernel
abbrev cX2_init : ByteArray := prog_4_method_1_code
def yX2_init : MethodName := ⟨RX2, "<init>", "()V"⟩
abbrev cX2_isMissing : ByteArray := prog_4_method_2_code
def yX2_isMissing : MethodName := ⟨RX2, "isMissing", "()Z"⟩
abbrev cX2_clear : ByteArray := prog_4_method_3_code
def yX2_clear : MethodName := ⟨RX2, "clear", "(II)V"⟩
abbrev cX2_hasItem : ByteArray := prog_4_method_4_code
def yX2_hasItem : MethodName := ⟨RX2, "hasItem", "(I)Z"⟩
abbrev cX2_hasPiece : ByteArray := prog_4_method_5_code
def yX2_hasPiece : MethodName := ⟨RX2, "hasPiece", "(II)Z"⟩
abbrev cX2_put : ByteArray := prog_4_method_6_code
def yX2_put : MethodName := ⟨RX2, "put", "(II)V"⟩
def RX3 : String := "SandwichesSpeak$Text"
def TX3 : u_T := fun k => match k with
  | 0 => ("SandwichesSpeak$Text", "steps", "[I", true)
  | 1 => ("SandwichesSpeak$Text", "begins", "[I", true)
  | _ => ("SandwichesSpeak$Text", "size", "I", false)
def tyX3 : Nat → FieldType := fun k => match k with
  | 0 => .array .int
  | 1 => .array .int
  | _ => .int
theorem nmX3 : ∀ a, a < 3 → ∀ b, b < 3 → a ≠ b → (TX3 a).2.1 ≠ (TX3 b).2.1 := by decide +kernel
theorem tyX3_ok : ∀ k, k < 3 → parseFieldDescriptor (TX3 k).2.2.1 = some (tyX3 k) := by decide +kernel
abbrev cX3_init : ByteArray := prog_5_method_1_code
def yX3_init : MethodName := ⟨RX3, "<init>", "()V"⟩
abbrev cX3_empty : ByteArray := prog_5_method_2_code
def yX3_empty : MethodName := ⟨RX3, "empty", "()V"⟩
abbrev cX3_beginPart : ByteArray := prog_5_method_3_code
def yX3_beginPart : MethodName := ⟨RX3, "beginPart", "(I)V"⟩
abbrev cX3_takeStep : ByteArray := prog_5_method_4_code
def yX3_takeStep : MethodName := ⟨RX3, "takeStep", "(I)V"⟩
abbrev cX3_valueOf : ByteArray := prog_5_method_5_code
def yX3_valueOf : MethodName := ⟨RX3, "valueOf", "(I[I[I)I"⟩
def RX4 : String := "SandwichesSpeak"
def TX4 : u_T := fun k => match k with
  | 0 => ("SandwichesSpeak", "texts", "[LSandwichesSpeak$Text;", true)
  | 1 => ("SandwichesSpeak", "sheets", "[LSandwichesSpeak$Sheet;", true)
  | 2 => ("SandwichesSpeak", "reader", "LSandwichesSpeak$Reader;", true)
  | 3 => ("SandwichesSpeak", "family", "LSandwichesSpeak$Family;", true)
  | 4 => ("SandwichesSpeak", "thought", "LSandwichesSpeak$Family;", true)
  | 5 => ("SandwichesSpeak", "kept", "LSandwichesSpeak$Family;", true)
  | 6 => ("SandwichesSpeak", "past", "[I", true)
  | 7 => ("SandwichesSpeak", "textCount", "I", false)
  | _ => ("SandwichesSpeak", "isKept", "Z", false)
def tyX4 : Nat → FieldType := fun k => match k with
  | 0 => .array (.object "SandwichesSpeak$Text")
  | 1 => .array (.object "SandwichesSpeak$Sheet")
  | 2 => .object "SandwichesSpeak$Reader"
  | 3 => .object "SandwichesSpeak$Family"
  | 4 => .object "SandwichesSpeak$Family"
  | 5 => .object "SandwichesSpeak$Family"
  | 6 => .array .int
  | 7 => .int
  | _ => .boolean
theorem nmX4 : ∀ a, a < 9 → ∀ b, b < 9 → a ≠ b → (TX4 a).2.1 ≠ (TX4 b).2.1 := by decide +kernel
theorem tyX4_ok : ∀ k, k < 9 → parseFieldDescriptor (TX4 k).2.2.1 = some (tyX4 k) := by decide +kernel
abbrev cX4_init : ByteArray := prog_1_method_1_code
def yX4_init : MethodName := ⟨RX4, "<init>", "()V"⟩
abbrev cX4_set : ByteArray := prog_1_method_2_code
def yX4_set : MethodName := ⟨RX4, "set", "(III)I"⟩
abbrev cX4_person : ByteArray := prog_1_method_3_code
def yX4_person : MethodName := ⟨RX4, "person", "(II)I"⟩
abbrev cX4_told : ByteArray := prog_1_method_4_code
def yX4_told : MethodName := ⟨RX4, "told", "(II)I"⟩
abbrev cX4_isThere : ByteArray := prog_1_method_5_code
def yX4_isThere : MethodName := ⟨RX4, "isThere", "(II)Z"⟩
abbrev cX4_fits : ByteArray := prog_1_method_6_code
def yX4_fits : MethodName := ⟨RX4, "fits", "(II)Z"⟩
abbrev cX4_plainly : ByteArray := prog_1_method_7_code
def yX4_plainly : MethodName := ⟨RX4, "plainly", "(II)I"⟩
abbrev cX4_isPerson : ByteArray := prog_1_method_8_code
def yX4_isPerson : MethodName := ⟨RX4, "isPerson", "(I)Z"⟩
abbrev cX4_areTwo : ByteArray := prog_1_method_9_code
def yX4_areTwo : MethodName := ⟨RX4, "areTwo", "(II)Z"⟩
abbrev cX4_isIn : ByteArray := prog_1_method_10_code
def yX4_isIn : MethodName := ⟨RX4, "isIn", "(III)Z"⟩
abbrev cX4_feed : ByteArray := prog_1_method_11_code
def yX4_feed : MethodName := ⟨RX4, "feed", "(I)I"⟩
abbrev cX4_text : ByteArray := prog_1_method_12_code
def yX4_text : MethodName := ⟨RX4, "text", "()I"⟩
abbrev cX4_force : ByteArray := prog_1_method_13_code
def yX4_force : MethodName := ⟨RX4, "force", "(I)I"⟩
abbrev cX4_sandwich : ByteArray := prog_1_method_14_code
def yX4_sandwich : MethodName := ⟨RX4, "sandwich", "(III)I"⟩
abbrev cX4_sunday : ByteArray := prog_1_method_15_code
def yX4_sunday : MethodName := ⟨RX4, "sunday", "()I"⟩
abbrev cX4_run : ByteArray := prog_1_method_16_code
def yX4_run : MethodName := ⟨RX4, "run", "(II)I"⟩
abbrev cX4_again : ByteArray := prog_1_method_17_code
def yX4_again : MethodName := ⟨RX4, "again", "(I)I"⟩
abbrev cX4_firstDead : ByteArray := prog_1_method_18_code
def yX4_firstDead : MethodName := ⟨RX4, "firstDead", "()I"⟩
abbrev cX4_firstAgain : ByteArray := prog_1_method_19_code
def yX4_firstAgain : MethodName := ⟨RX4, "firstAgain", "(I)I"⟩
abbrev cX4_all : ByteArray := prog_1_method_20_code
def yX4_all : MethodName := ⟨RX4, "all", "(I)I"⟩
abbrev cX4_best : ByteArray := prog_1_method_21_code
def yX4_best : MethodName := ⟨RX4, "best", "(III)I"⟩
abbrev cX4_leaveOut : ByteArray := prog_1_method_22_code
def yX4_leaveOut : MethodName := ⟨RX4, "leaveOut", "(II)I"⟩
abbrev cX4_spare : ByteArray := prog_1_method_23_code
def yX4_spare : MethodName := ⟨RX4, "spare", "(II)I"⟩
abbrev cX4_gladAsItIs : ByteArray := prog_1_method_24_code
def yX4_gladAsItIs : MethodName := ⟨RX4, "gladAsItIs", "(I)I"⟩
abbrev cX4_add : ByteArray := prog_1_method_25_code
def yX4_add : MethodName := ⟨RX4, "add", "(III)I"⟩
abbrev cX4_bounded : ByteArray := prog_1_method_26_code
def yX4_bounded : MethodName := ⟨RX4, "bounded", "(I)I"⟩
abbrev cX4_tells : ByteArray := prog_1_method_27_code
def yX4_tells : MethodName := ⟨RX4, "tells", "(III)I"⟩
abbrev cX4_bitsSo : ByteArray := prog_1_method_28_code
def yX4_bitsSo : MethodName := ⟨RX4, "bitsSo", "(LSandwichesSpeak$Sheet;II)I"⟩
abbrev cX4_moodsSo : ByteArray := prog_1_method_29_code
def yX4_moodsSo : MethodName := ⟨RX4, "moodsSo", "(LSandwichesSpeak$Sheet;IZ)I"⟩
abbrev cX4_film : ByteArray := prog_1_method_30_code
def yX4_film : MethodName := ⟨RX4, "film", "(III)I"⟩
abbrev cX4_drawn : ByteArray := prog_1_method_31_code
def yX4_drawn : MethodName := ⟨RX4, "drawn", "(I)I"⟩
abbrev cX4_chance : ByteArray := prog_1_method_32_code
def yX4_chance : MethodName := ⟨RX4, "chance", "(IIII)J"⟩
abbrev cX4_sharedDivisor : ByteArray := prog_1_method_33_code
def yX4_sharedDivisor : MethodName := ⟨RX4, "sharedDivisor", "(II)I"⟩
abbrev cX4_image : ByteArray := prog_1_method_34_code
def yX4_image : MethodName := ⟨RX4, "image", "()I"⟩
abbrev cX4_back : ByteArray := prog_1_method_35_code
def yX4_back : MethodName := ⟨RX4, "back", "()I"⟩
abbrev cX4_count : ByteArray := prog_1_method_36_code
def yX4_count : MethodName := ⟨RX4, "count", "(I)I"⟩
abbrev cX4_sheet : ByteArray := prog_1_method_37_code
def yX4_sheet : MethodName := ⟨RX4, "sheet", "(III)I"⟩
abbrev cX4_cell : ByteArray := prog_1_method_38_code
def yX4_cell : MethodName := ⟨RX4, "cell", "(III)I"⟩
abbrev cX4_copy : ByteArray := prog_1_method_39_code
def yX4_copy : MethodName := ⟨RX4, "copy", "(IIIII)I"⟩
abbrev cX4_people : ByteArray := prog_1_method_40_code
def yX4_people : MethodName := ⟨RX4, "people", "(IIII)I"⟩
abbrev cX4_taken : ByteArray := prog_1_method_41_code
def yX4_taken : MethodName := ⟨RX4, "taken", "(II)I"⟩
abbrev cX4_isSheet : ByteArray := prog_1_method_42_code
def yX4_isSheet : MethodName := ⟨RX4, "isSheet", "(I)Z"⟩
def RX5 : String := "SandwichesSpeakModel"
def TX5 : u_T := fun k => match k with
  | 0 => ("SandwichesSpeakModel", "day", "I", false)
  | 1 => ("SandwichesSpeakModel", "used", "[Z", true)
  | 2 => ("SandwichesSpeakModel", "many", "I", false)
  | 3 => ("SandwichesSpeakModel", "kind", "[I", true)
  | 4 => ("SandwichesSpeakModel", "number", "[I", true)
  | 5 => ("SandwichesSpeakModel", "mood", "[I", true)
  | 6 => ("SandwichesSpeakModel", "rule", "I", false)
  | 7 => ("SandwichesSpeakModel", "taped", "I", false)
  | 8 => ("SandwichesSpeakModel", "tape", "[I", true)
  | 9 => ("SandwichesSpeakModel", "texts", "I", false)
  | 10 => ("SandwichesSpeakModel", "begins", "[I", true)
  | 11 => ("SandwichesSpeakModel", "length", "[I", true)
  | 12 => ("SandwichesSpeakModel", "code", "[I", true)
  | 13 => ("SandwichesSpeakModel", "coded", "I", false)
  | 14 => ("SandwichesSpeakModel", "from", "I", false)
  | 15 => ("SandwichesSpeakModel", "to", "I", false)
  | 16 => ("SandwichesSpeakModel", "token", "I", false)
  | 17 => ("SandwichesSpeakModel", "value", "I", false)
  | 18 => ("SandwichesSpeakModel", "word", "I", false)
  | 19 => ("SandwichesSpeakModel", "waits", "[I", true)
  | 20 => ("SandwichesSpeakModel", "top", "I", false)
  | 21 => ("SandwichesSpeakModel", "open", "I", false)
  | 22 => ("SandwichesSpeakModel", "compared", "Z", false)
  | 23 => ("SandwichesSpeakModel", "behind", "Z", false)
  | 24 => ("SandwichesSpeakModel", "starts", "Z", false)
  | 25 => ("SandwichesSpeakModel", "stack", "[I", true)
  | 26 => ("SandwichesSpeakModel", "names", "[I", true)
  | 27 => ("SandwichesSpeakModel", "out", "I", false)
  | 28 => ("SandwichesSpeakModel", "comes", "[I", true)
  | 29 => ("SandwichesSpeakModel", "was", "[I", true)
  | 30 => ("SandwichesSpeakModel", "empty", "I", false)
  | 31 => ("SandwichesSpeakModel", "past", "[I", true)
  | 32 => ("SandwichesSpeakModel", "imaged", "Z", false)
  | 33 => ("SandwichesSpeakModel", "oldMany", "I", false)
  | 34 => ("SandwichesSpeakModel", "oldDay", "I", false)
  | 35 => ("SandwichesSpeakModel", "oldRule", "I", false)
  | 36 => ("SandwichesSpeakModel", "oldUsed", "[Z", true)
  | 37 => ("SandwichesSpeakModel", "old", "[I", true)
  | 38 => ("SandwichesSpeakModel", "sheetSort", "[I", true)
  | 39 => ("SandwichesSpeakModel", "sheetSize", "[I", true)
  | _ => ("SandwichesSpeakModel", "cells", "[I", true)
def tyX5 : Nat → FieldType := fun k => match k with
  | 0 => .int
  | 1 => .array .boolean
  | 2 => .int
  | 3 => .array .int
  | 4 => .array .int
  | 5 => .array .int
  | 6 => .int
  | 7 => .int
  | 8 => .array .int
  | 9 => .int
  | 10 => .array .int
  | 11 => .array .int
  | 12 => .array .int
  | 13 => .int
  | 14 => .int
  | 15 => .int
  | 16 => .int
  | 17 => .int
  | 18 => .int
  | 19 => .array .int
  | 20 => .int
  | 21 => .int
  | 22 => .boolean
  | 23 => .boolean
  | 24 => .boolean
  | 25 => .array .int
  | 26 => .array .int
  | 27 => .int
  | 28 => .array .int
  | 29 => .array .int
  | 30 => .int
  | 31 => .array .int
  | 32 => .boolean
  | 33 => .int
  | 34 => .int
  | 35 => .int
  | 36 => .array .boolean
  | 37 => .array .int
  | 38 => .array .int
  | 39 => .array .int
  | _ => .array .int
theorem nmX5 : ∀ a, a < 41 → ∀ b, b < 41 → a ≠ b → (TX5 a).2.1 ≠ (TX5 b).2.1 := by decide +kernel
theorem tyX5_ok : ∀ k, k < 41 → parseFieldDescriptor (TX5 k).2.2.1 = some (tyX5 k) := by decide +kernel
abbrev cX5_init : ByteArray := prog_7_method_1_code
def yX5_init : MethodName := ⟨RX5, "<init>", "()V"⟩
abbrev cX5_within : ByteArray := prog_7_method_2_code
def yX5_within : MethodName := ⟨RX5, "within", "(III)Z"⟩
abbrev cX5_bound : ByteArray := prog_7_method_3_code
def yX5_bound : MethodName := ⟨RX5, "bound", "(I)I"⟩
abbrev cX5_isOne : ByteArray := prog_7_method_4_code
def yX5_isOne : MethodName := ⟨RX5, "isOne", "(I)Z"⟩
abbrev cX5_areTwo : ByteArray := prog_7_method_5_code
def yX5_areTwo : MethodName := ⟨RX5, "areTwo", "(II)Z"⟩
abbrev cX5_isLayer : ByteArray := prog_7_method_6_code
def yX5_isLayer : MethodName := ⟨RX5, "isLayer", "(I)Z"⟩
abbrev cX5_isSheet : ByteArray := prog_7_method_7_code
def yX5_isSheet : MethodName := ⟨RX5, "isSheet", "(I)Z"⟩
abbrev cX5_bitsOf : ByteArray := prog_7_method_8_code
def yX5_bitsOf : MethodName := ⟨RX5, "bitsOf", "(I)I"⟩
abbrev cX5_isOf : ByteArray := prog_7_method_9_code
def yX5_isOf : MethodName := ⟨RX5, "isOf", "(II)Z"⟩
abbrev cX5_isFit : ByteArray := prog_7_method_10_code
def yX5_isFit : MethodName := ⟨RX5, "isFit", "(II)Z"⟩
abbrev cX5_get : ByteArray := prog_7_method_11_code
def yX5_get : MethodName := ⟨RX5, "get", "(II)I"⟩
abbrev cX5_set : ByteArray := prog_7_method_12_code
def yX5_set : MethodName := ⟨RX5, "set", "(III)I"⟩
abbrev cX5_person : ByteArray := prog_7_method_13_code
def yX5_person : MethodName := ⟨RX5, "person", "(II)I"⟩
abbrev cX5_sent : ByteArray := prog_7_method_14_code
def yX5_sent : MethodName := ⟨RX5, "sent", "(I)I"⟩
abbrev cX5_gotten : ByteArray := prog_7_method_15_code
def yX5_gotten : MethodName := ⟨RX5, "gotten", "(I)I"⟩
abbrev cX5_told : ByteArray := prog_7_method_16_code
def yX5_told : MethodName := ⟨RX5, "told", "(II)I"⟩
abbrev cX5_feed : ByteArray := prog_7_method_17_code
def yX5_feed : MethodName := ⟨RX5, "feed", "(I)I"⟩
abbrev cX5_isLetter : ByteArray := prog_7_method_18_code
def yX5_isLetter : MethodName := ⟨RX5, "isLetter", "(I)Z"⟩
abbrev cX5_isDigit : ByteArray := prog_7_method_19_code
def yX5_isDigit : MethodName := ⟨RX5, "isDigit", "(I)Z"⟩
abbrev cX5_isSign : ByteArray := prog_7_method_20_code
def yX5_isSign : MethodName := ⟨RX5, "isSign", "(I)Z"⟩
abbrev cX5_named : ByteArray := prog_7_method_21_code
def yX5_named : MethodName := ⟨RX5, "named", "()I"⟩
abbrev cX5_isKey : ByteArray := prog_7_method_22_code
def yX5_isKey : MethodName := ⟨RX5, "isKey", "()Z"⟩
abbrev cX5_next : ByteArray := prog_7_method_23_code
def yX5_next : MethodName := ⟨RX5, "next", "()V"⟩
abbrev cX5_takes : ByteArray := prog_7_method_24_code
def yX5_takes : MethodName := ⟨RX5, "takes", "(I)Z"⟩
abbrev cX5_codes : ByteArray := prog_7_method_25_code
def yX5_codes : MethodName := ⟨RX5, "codes", "(I)V"⟩
abbrev cX5_rank : ByteArray := prog_7_method_26_code
def yX5_rank : MethodName := ⟨RX5, "rank", "(I)I"⟩
abbrev cX5_lays : ByteArray := prog_7_method_27_code
def yX5_lays : MethodName := ⟨RX5, "lays", "(I)V"⟩
abbrev cX5_push : ByteArray := prog_7_method_28_code
def yX5_push : MethodName := ⟨RX5, "push", "(I)V"⟩
abbrev cX5_one : ByteArray := prog_7_method_29_code
def yX5_one : MethodName := ⟨RX5, "one", "(Z)Z"⟩
abbrev cX5_signed : ByteArray := prog_7_method_30_code
def yX5_signed : MethodName := ⟨RX5, "signed", "()I"⟩
abbrev cX5_closes : ByteArray := prog_7_method_31_code
def yX5_closes : MethodName := ⟨RX5, "closes", "()Z"⟩
abbrev cX5_goesOn : ByteArray := prog_7_method_32_code
def yX5_goesOn : MethodName := ⟨RX5, "goesOn", "()Z"⟩
abbrev cX5_part : ByteArray := prog_7_method_33_code
def yX5_part : MethodName := ⟨RX5, "part", "(II)Z"⟩
abbrev cX5_text : ByteArray := prog_7_method_34_code
def yX5_text : MethodName := ⟨RX5, "text", "()I"⟩
abbrev cX5_force : ByteArray := prog_7_method_35_code
def yX5_force : MethodName := ⟨RX5, "force", "(I)I"⟩
abbrev cX5_ruled : ByteArray := prog_7_method_36_code
def yX5_ruled : MethodName := ⟨RX5, "ruled", "(I)I"⟩
abbrev cX5_both : ByteArray := prog_7_method_37_code
def yX5_both : MethodName := ⟨RX5, "both", "(III)I"⟩
abbrev cX5_tellsOf : ByteArray := prog_7_method_38_code
def yX5_tellsOf : MethodName := ⟨RX5, "tellsOf", "(IIIII)V"⟩
abbrev cX5_cuts : ByteArray := prog_7_method_39_code
def yX5_cuts : MethodName := ⟨RX5, "cuts", "(III)Z"⟩
abbrev cX5_sends : ByteArray := prog_7_method_40_code
def yX5_sends : MethodName := ⟨RX5, "sends", "(II)Z"⟩
abbrev cX5_feels : ByteArray := prog_7_method_41_code
def yX5_feels : MethodName := ⟨RX5, "feels", "(III)I"⟩
abbrev cX5_made : ByteArray := prog_7_method_42_code
def yX5_made : MethodName := ⟨RX5, "made", "(II)I"⟩
abbrev cX5_feltBy : ByteArray := prog_7_method_43_code
def yX5_feltBy : MethodName := ⟨RX5, "feltBy", "(III)I"⟩
abbrev cX5_felt : ByteArray := prog_7_method_44_code
def yX5_felt : MethodName := ⟨RX5, "felt", "(I)I"⟩
abbrev cX5_sandwich : ByteArray := prog_7_method_45_code
def yX5_sandwich : MethodName := ⟨RX5, "sandwich", "(III)I"⟩
abbrev cX5_glad : ByteArray := prog_7_method_46_code
def yX5_glad : MethodName := ⟨RX5, "glad", "()I"⟩
abbrev cX5_passes : ByteArray := prog_7_method_47_code
def yX5_passes : MethodName := ⟨RX5, "passes", "()V"⟩
abbrev cX5_sunday : ByteArray := prog_7_method_48_code
def yX5_sunday : MethodName := ⟨RX5, "sunday", "()I"⟩
abbrev cX5_keeps : ByteArray := prog_7_method_49_code
def yX5_keeps : MethodName := ⟨RX5, "keeps", "()V"⟩
abbrev cX5_restores : ByteArray := prog_7_method_50_code
def yX5_restores : MethodName := ⟨RX5, "restores", "()V"⟩
abbrev cX5_runs : ByteArray := prog_7_method_51_code
def yX5_runs : MethodName := ⟨RX5, "runs", "(I)V"⟩
abbrev cX5_gladBehind : ByteArray := prog_7_method_52_code
def yX5_gladBehind : MethodName := ⟨RX5, "gladBehind", "(I)I"⟩
abbrev cX5_run : ByteArray := prog_7_method_53_code
def yX5_run : MethodName := ⟨RX5, "run", "(II)I"⟩
abbrev cX5_isAlike : ByteArray := prog_7_method_54_code
def yX5_isAlike : MethodName := ⟨RX5, "isAlike", "(II)Z"⟩
abbrev cX5_remembers : ByteArray := prog_7_method_55_code
def yX5_remembers : MethodName := ⟨RX5, "remembers", "()V"⟩
abbrev cX5_again : ByteArray := prog_7_method_56_code
def yX5_again : MethodName := ⟨RX5, "again", "(I)I"⟩
abbrev cX5_lettuce : ByteArray := prog_7_method_57_code
def yX5_lettuce : MethodName := ⟨RX5, "lettuce", "(I)I"⟩
abbrev cX5_left : ByteArray := prog_7_method_58_code
def yX5_left : MethodName := ⟨RX5, "left", "()I"⟩
abbrev cX5_all : ByteArray := prog_7_method_59_code
def yX5_all : MethodName := ⟨RX5, "all", "(I)I"⟩
abbrev cX5_best : ByteArray := prog_7_method_60_code
def yX5_best : MethodName := ⟨RX5, "best", "(III)I"⟩
abbrev cX5_leaveOut : ByteArray := prog_7_method_61_code
def yX5_leaveOut : MethodName := ⟨RX5, "leaveOut", "(II)I"⟩
abbrev cX5_spare : ByteArray := prog_7_method_62_code
def yX5_spare : MethodName := ⟨RX5, "spare", "(II)I"⟩
abbrev cX5_add : ByteArray := prog_7_method_63_code
def yX5_add : MethodName := ⟨RX5, "add", "(III)I"⟩
abbrev cX5_wrong : ByteArray := prog_7_method_64_code
def yX5_wrong : MethodName := ⟨RX5, "wrong", "(II)I"⟩
abbrev cX5_kindsSo : ByteArray := prog_7_method_65_code
def yX5_kindsSo : MethodName := ⟨RX5, "kindsSo", "(II)I"⟩
abbrev cX5_numbersSo : ByteArray := prog_7_method_66_code
def yX5_numbersSo : MethodName := ⟨RX5, "numbersSo", "(II)I"⟩
abbrev cX5_moodsSo : ByteArray := prog_7_method_67_code
def yX5_moodsSo : MethodName := ⟨RX5, "moodsSo", "(III)I"⟩
abbrev cX5_textsSo : ByteArray := prog_7_method_68_code
def yX5_textsSo : MethodName := ⟨RX5, "textsSo", "(II)I"⟩
abbrev cX5_tells : ByteArray := prog_7_method_69_code
def yX5_tells : MethodName := ⟨RX5, "tells", "(III)I"⟩
abbrev cX5_film : ByteArray := prog_7_method_70_code
def yX5_film : MethodName := ⟨RX5, "film", "(III)I"⟩
abbrev cX5_drawn : ByteArray := prog_7_method_71_code
def yX5_drawn : MethodName := ⟨RX5, "drawn", "(I)I"⟩
abbrev cX5_byLot : ByteArray := prog_7_method_72_code
def yX5_byLot : MethodName := ⟨RX5, "byLot", "(I)I"⟩
abbrev cX5_chance : ByteArray := prog_7_method_73_code
def yX5_chance : MethodName := ⟨RX5, "chance", "(IIII)J"⟩
abbrev cX5_image : ByteArray := prog_7_method_74_code
def yX5_image : MethodName := ⟨RX5, "image", "()I"⟩
abbrev cX5_back : ByteArray := prog_7_method_75_code
def yX5_back : MethodName := ⟨RX5, "back", "()I"⟩
abbrev cX5_count : ByteArray := prog_7_method_76_code
def yX5_count : MethodName := ⟨RX5, "count", "(I)I"⟩
abbrev cX5_sheet : ByteArray := prog_7_method_77_code
def yX5_sheet : MethodName := ⟨RX5, "sheet", "(III)I"⟩
abbrev cX5_cell : ByteArray := prog_7_method_78_code
def yX5_cell : MethodName := ⟨RX5, "cell", "(III)I"⟩
abbrev cX5_copy : ByteArray := prog_7_method_79_code
def yX5_copy : MethodName := ⟨RX5, "copy", "(IIIII)I"⟩
abbrev cX5_people : ByteArray := prog_7_method_80_code
def yX5_people : MethodName := ⟨RX5, "people", "(IIII)I"⟩
abbrev cX5_taken : ByteArray := prog_7_method_81_code
def yX5_taken : MethodName := ⟨RX5, "taken", "(II)I"⟩
def RJ11 : String := "java/lang/Character"
abbrev cJ11_isValidCodePoint_9a6ad : ByteArray := prog_8_method_11_code
def yJ11_isValidCodePoint_9a6ad : MethodName := ⟨RJ11, "isValidCodePoint", "(I)Z"⟩
abbrev cJ11_highSurrogate_5068e : ByteArray := prog_8_method_28_code
def yJ11_highSurrogate_5068e : MethodName := ⟨RJ11, "highSurrogate", "(I)C"⟩
abbrev cJ11_lowSurrogate_5068e : ByteArray := prog_8_method_29_code
def yJ11_lowSurrogate_5068e : MethodName := ⟨RJ11, "lowSurrogate", "(I)C"⟩
def RJ6 : String := "java/lang/Integer"
abbrev cJ6_bitCount_0f7a4 : ByteArray := prog_9_method_49_code
def yJ6_bitCount_0f7a4 : MethodName := ⟨RJ6, "bitCount", "(I)I"⟩
def RJ9 : String := "java/lang/Math"
abbrev cJ9_max_7cf53 : ByteArray := prog_10_method_65_code
def yJ9_max_7cf53 : MethodName := ⟨RJ9, "max", "(II)I"⟩
abbrev cJ9_min_7cf53 : ByteArray := prog_10_method_69_code
def yJ9_min_7cf53 : MethodName := ⟨RJ9, "min", "(II)I"⟩
def RJ0 : String := "java/lang/String"
abbrev cJ0_length_8abf5 : ByteArray := prog_11_method_54_code
def yJ0_length_8abf5 : MethodName := ⟨RJ0, "length", "()I"⟩
abbrev cJ0_charAt_5068e : ByteArray := prog_11_method_56_code
def yJ0_charAt_5068e : MethodName := ⟨RJ0, "charAt", "(I)C"⟩
abbrev cJ0_indexOf_0f7a4 : ByteArray := prog_11_method_79_code
def yJ0_indexOf_0f7a4 : MethodName := ⟨RJ0, "indexOf", "(I)I"⟩
abbrev cJ0_indexOf_7cf53 : ByteArray := prog_11_method_80_code
def yJ0_indexOf_7cf53 : MethodName := ⟨RJ0, "indexOf", "(II)I"⟩
abbrev cJ0_coder_7d493 : ByteArray := prog_11_method_152_code
def yJ0_coder_7d493 : MethodName := ⟨RJ0, "coder", "()B"⟩
abbrev cJ0_isLatin1_aae02 : ByteArray := prog_11_method_154_code
def yJ0_isLatin1_aae02 : MethodName := ⟨RJ0, "isLatin1", "()Z"⟩
abbrev cJ0_checkIndex_df160 : ByteArray := prog_11_method_155_code
def yJ0_checkIndex_df160 : MethodName := ⟨RJ0, "checkIndex", "(II)V"⟩
abbrev cJ0_checkBoundsBeginEnd_23922 : ByteArray := prog_11_method_158_code
def yJ0_checkBoundsBeginEnd_23922 : MethodName := ⟨RJ0, "checkBoundsBeginEnd", "(III)V"⟩
def RJ1 : String := "java/lang/StringLatin1"
abbrev cJ1_charAt_3b067 : ByteArray := prog_12_method_2_code
def yJ1_charAt_3b067 : MethodName := ⟨RJ1, "charAt", "([BI)C"⟩
abbrev cJ1_canEncode_9a6ad : ByteArray := prog_12_method_4_code
def yJ1_canEncode_9a6ad : MethodName := ⟨RJ1, "canEncode", "(I)Z"⟩
abbrev cJ1_indexOf_4cfef : ByteArray := prog_12_method_22_code
def yJ1_indexOf_4cfef : MethodName := ⟨RJ1, "indexOf", "([BIII)I"⟩
abbrev cJ1_indexOfChar_4cfef : ByteArray := prog_12_method_23_code
def yJ1_indexOfChar_4cfef : MethodName := ⟨RJ1, "indexOfChar", "([BIII)I"⟩
def RJ2 : String := "java/lang/StringUTF16"
abbrev cJ2_getChar_3b067 : ByteArray := prog_13_method_5_code
def yJ2_getChar_3b067 : MethodName := ⟨RJ2, "getChar", "([BI)C"⟩
abbrev cJ2_length_9d52b : ByteArray := prog_13_method_6_code
def yJ2_length_9d52b : MethodName := ⟨RJ2, "length", "([B)I"⟩
abbrev cJ2_indexOf_4cfef : ByteArray := prog_13_method_40_code
def yJ2_indexOf_4cfef : MethodName := ⟨RJ2, "indexOf", "([BIII)I"⟩
abbrev cJ2_indexOfChar_4cfef : ByteArray := prog_13_method_47_code
def yJ2_indexOfChar_4cfef : MethodName := ⟨RJ2, "indexOfChar", "([BIII)I"⟩
abbrev cJ2_indexOfCharUnsafe_4cfef : ByteArray := prog_13_method_48_code
def yJ2_indexOfCharUnsafe_4cfef : MethodName := ⟨RJ2, "indexOfCharUnsafe", "([BIII)I"⟩
abbrev cJ2_indexOfSupplementary_4cfef : ByteArray := prog_13_method_49_code
def yJ2_indexOfSupplementary_4cfef : MethodName := ⟨RJ2, "indexOfSupplementary", "([BIII)I"⟩
abbrev cJ2_charAt_3b067 : ByteArray := prog_13_method_83_code
def yJ2_charAt_3b067 : MethodName := ⟨RJ2, "charAt", "([BI)C"⟩
abbrev cJ2_checkIndex_2214a : ByteArray := prog_13_method_91_code
def yJ2_checkIndex_2214a : MethodName := ⟨RJ2, "checkIndex", "(I[B)V"⟩
abbrev cJ2_checkBoundsBeginEnd_d044e : ByteArray := prog_13_method_93_code
def yJ2_checkBoundsBeginEnd_d044e : MethodName := ⟨RJ2, "checkBoundsBeginEnd", "(II[B)V"⟩
def RJ10 : String := "java/lang/System"
def RJ3 : String := "jdk/internal/util/Preconditions"
abbrev cJ3_checkIndex_8e157 : ByteArray := prog_15_method_11_code
def yJ3_checkIndex_8e157 : MethodName := ⟨RJ3, "checkIndex", "(IILjava/util/function/BiFunction;)I"⟩
abbrev cJ3_checkFromToIndex_8c36e : ByteArray := prog_15_method_12_code
def yJ3_checkFromToIndex_8c36e : MethodName := ⟨RJ3, "checkFromToIndex", "(IIILjava/util/function/BiFunction;)I"⟩
def RL : String := "SandwichesSpeakLaw"
abbrev cL_law : ByteArray := code
def yL_law : MethodName := ⟨RL, "law", "([I)Z"⟩
abbrev vwCl : List vw_C := [(RX0, TX0, 12), (RX1, TX1, 9), (RX2, TX2, 3), (RX3, TX3, 3), (RX4, TX4, 9), (RX5, TX5, 41)]
def AW : List Cond := lw_tbl.filter goodWord
theorem AW_mem {w : Cond} (i : Nat) (h : lw_tbl[i]? = some w) (g : goodWord w = true) : w ∈ AW := List.mem_filter.mpr ⟨List.mem_of_getElem? h, g⟩
theorem AW_good {w : Cond} (h : w ∈ AW) : (w.onTables && w.keeps) = true ∨ ∃ ty, w = .arrayClass ty := good_of_word (List.mem_filter.mp h).2
theorem AW_in {w : Cond} (h : w ∈ AW) : w ∈ lw_tbl := (List.mem_filter.mp h).1
